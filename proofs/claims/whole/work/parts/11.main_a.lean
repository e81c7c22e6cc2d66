theorem hdX6_isByte : yX6_isByte.cls ≠ "java/lang/invoke/MethodHandle" ∧ yX6_isByte.cls ≠ "java/lang/invoke/VarHandle" ∧ (parseMethodDescriptor yX6_isByte.desc).map (fun d => d.parameters.length) = some 1 := by decide +kernel
noncomputable def FX6_isByte (p0 : Int32) : Option (Int32) := (if p0 < 0 then (some 0) else (if 255 < p0 then (some 0) else (some 1)))
set_option maxHeartbeats 4000000 in
set_option maxRecDepth 100000 in
theorem c_X6_isByte (l : Launch) (D : va_G) (cI cZ cS : ClassId)   (p0 : Int32) (u : Int32) (hF : FX6_isByte p0 = some u) : MCi l D (tyL cI cZ cS) yX6_isByte cX6_isByte 1 (some .boolean) 0 0 [.int p0] ([] : va_W) ([] : va_W) u := by
  refine MCz.mk (by decide) (Nat.le_of_ble_eq_true rfl) ?_
  intro p e s m args below meth c A ls Q h0 hP hD hA hS hl hfin0
  have hfin : ∀ (u' : Int32), u' = u → ∀ (H : Heap) (locs : List Loc) (ls : Array Slot) (pc : Nat), (u' = 0 ∨ u' = 1) → va_P D vwCl ([] : va_W) H → va_D A ([] : va_W) → va_S A s.heap H locs → decode cX6_isByte pc = .ok (.ireturn, 1) → W p l e (uR 0 0) s m args below meth c H locs 0 0 Q (F0 m pc ls [.int u']) := by intro u' hu; subst hu; exact hfin0
  clear hfin0
  obtain ⟨hx, hb, hr, hlk, hml, hown, hts, hK⟩ := id h0
  have hl : lv_has ls 1 [(0, .int p0)] := hl
  have E := hF
  refine lv_iload_n hx hb dX6_isByte_0 rfl (lv_at hl 0 rfl) ?_
  refine lv_if_lt (tgt := 15) hx hb dX6_isByte_1 (by decide) (fun c1 => ?_) (fun c1 => ?_)
  · have E := br_p E c1
    refine lv_iconst (v := 0) hx hb dX6_isByte_15 (by decide) ?_
    exact hfin _ (Option.some.inj E) _ _ _ _ (Or.inl rfl) hP hD hS dX6_isByte_16
  · have E := br_n E c1
    refine lv_iload_n hx hb dX6_isByte_4 rfl (lv_at hl 0 rfl) ?_
    refine lv_sipush (v := 255) hx hb dX6_isByte_5 (by decide) ?_
    refine lv_icmp_gt (tgt := 15) hx hb dX6_isByte_8 (by decide) (fun c2 => ?_) (fun c2 => ?_)
    · have E := br_p E c2
      refine lv_iconst (v := 0) hx hb dX6_isByte_15 (by decide) ?_
      exact hfin _ (Option.some.inj E) _ _ _ _ (Or.inl rfl) hP hD hS dX6_isByte_16
    · have E := br_n E c2
      refine lv_iconst (v := 1) hx hb dX6_isByte_11 (by decide) ?_
      refine lv_goto (tgt := 16) hx hb dX6_isByte_12 (by decide) ?_
      exact hfin _ (Option.some.inj E) _ _ _ _ (Or.inr rfl) hP hD hS dX6_isByte_16
theorem hdX6_feed : yX6_feed.cls = RX6 ∧ yX6_feed.cls ≠ "java/lang/invoke/MethodHandle" ∧ yX6_feed.cls ≠ "java/lang/invoke/VarHandle" ∧ (parseMethodDescriptor yX6_feed.desc).map (fun d => d.parameters.length) = some 6 := by decide +kernel
noncomputable def FX6_feed_b127 (p1 p2 p3 p4 p5 p6 : Int32) (k74 : Int32 → (Nat → Int32) → Int32 → Option (Int32 × (Nat → Int32) × Int32)) (l7 t1 : Int32) (tp_bytes : Nat → Int32) (tp_size : Int32) : Option (Int32 × (Nat → Int32) × Int32) := ((FX5_add t1 tp_bytes tp_size).bind (fun r1 => (k74 (l7 + 1) r1.1 r1.2)))
noncomputable def FX6_feed_b74 (p1 p2 p3 p4 p5 p6 : Int32)  (k74 : Int32 → (Nat → Int32) → Int32 → Option (Int32 × (Nat → Int32) × Int32)) (l7 : Int32) (tp_bytes : Nat → Int32) (tp_size : Int32) : Option (Int32 × (Nat → Int32) × Int32) := (if p1 ≤ l7 then (some (tp_size, tp_bytes, tp_size)) else (if l7 = 0 then (FX6_feed_b127 p1 p2 p3 p4 p5 p6 k74 l7 p2 tp_bytes tp_size) else (if l7 = 1 then (FX6_feed_b127 p1 p2 p3 p4 p5 p6 k74 l7 p3 tp_bytes tp_size) else (if l7 = 2 then (FX6_feed_b127 p1 p2 p3 p4 p5 p6 k74 l7 p4 tp_bytes tp_size) else (if l7 = 3 then (FX6_feed_b127 p1 p2 p3 p4 p5 p6 k74 l7 p5 tp_bytes tp_size) else (FX6_feed_b127 p1 p2 p3 p4 p5 p6 k74 l7 p6 tp_bytes tp_size))))))
noncomputable def FX6_feed_h74 (p1 p2 p3 p4 p5 p6 : Int32)  : Nat → Int32 → (Nat → Int32) → Int32 → Option (Int32 × (Nat → Int32) × Int32)
  | 0 => fun _ _ _ => none
  | n + 1 => fun l7 tp_bytes tp_size => FX6_feed_b74 p1 p2 p3 p4 p5 p6  (FX6_feed_h74 p1 p2 p3 p4 p5 p6  n) l7 tp_bytes tp_size
noncomputable def FX6_feed (p1 p2 p3 p4 p5 p6 : Int32) (tp_bytes : Nat → Int32) (tp_size : Int32) : Option (Int32 × (Nat → Int32) × Int32) := (if p1 < 1 then (some ((-2), tp_bytes, tp_size)) else (if p1 ≤ 5 then ((FX6_isByte p2).bind (fun r9 => (if r9 = 0 then (some ((-2), tp_bytes, tp_size)) else ((FX6_isByte p3).bind (fun r11 => (if r11 = 0 then (some ((-2), tp_bytes, tp_size)) else ((FX6_isByte p4).bind (fun r13 => (if r13 = 0 then (some ((-2), tp_bytes, tp_size)) else ((FX6_isByte p5).bind (fun r15 => (if r15 = 0 then (some ((-2), tp_bytes, tp_size)) else ((FX6_isByte p6).bind (fun r17 => (if r17 = 0 then (some ((-2), tp_bytes, tp_size)) else (if p1 ≤ (30 - tp_size) then (FX6_feed_h74 p1 p2 p3 p4 p5 p6  5000 0 tp_bytes tp_size) else (some ((-4), tp_bytes, tp_size)))))))))))))))))) else (some ((-2), tp_bytes, tp_size))))
set_option maxHeartbeats 4000000 in
set_option maxRecDepth 100000 in
theorem c_X6_feed (l : Launch) (D : va_G) (cI cZ cS : ClassId) (a0 a1 a2 a3 a4 a5 a6 a7 : Nat) (v_isKept : Int32) (tp_bytes : Nat → Int32) (tp_size tp_start tp_behind : Int32) (p1 p2 p3 p4 p5 p6 : Int32) (u : Int32 × (Nat → Int32) × Int32) (hF : FX6_feed p1 p2 p3 p4 p5 p6 tp_bytes tp_size = some u) : MCi l D (tyL cI cZ cS) yX6_feed cX6_feed 8 (some .int) 1 21 [.ref a0, .int p1, .int p2, .int p3, .int p4, .int p5, .int p6] (wX6 a0 a1 a2 a3 a4 a5 a6 v_isKept ++ wX5 cI a3 a7 tp_bytes tp_size tp_start tp_behind) (wX6 a0 a1 a2 a3 a4 a5 a6 v_isKept ++ wX5 cI a3 a7 u.2.1 u.2.2 tp_start tp_behind) u.1 := by
  refine MCi.mk (by decide) (Nat.le_of_ble_eq_true rfl) ?_
  intro p e s m args below meth c A ls Q h0 hP hD hA hS hl hfin0
  have hfin : ∀ (u' : Int32 × (Nat → Int32) × Int32), u' = u → ∀ (H : Heap) (locs : List Loc) (ls : Array Slot) (pc : Nat), va_P D vwCl (wX6 a0 a1 a2 a3 a4 a5 a6 v_isKept ++ wX5 cI a3 a7 u'.2.1 u'.2.2 tp_start tp_behind) H → va_D A (wX6 a0 a1 a2 a3 a4 a5 a6 v_isKept ++ wX5 cI a3 a7 u'.2.1 u'.2.2 tp_start tp_behind) → va_S A s.heap H locs → decode cX6_feed pc = .ok (.ireturn, 1) → W p l e (uR 1 21) s m args below meth c H locs 0 0 Q (F0 m pc ls [.int u'.1]) := by intro u' hu; subst hu; exact hfin0
  clear hfin0
  obtain ⟨hx, hb, hr, hlk, hml, hown, hts, hK⟩ := id h0
  have hl : lv_has ls 8 [(0, .ref a0), (1, .int p1), (2, .int p2), (3, .int p3), (4, .int p4), (5, .int p5), (6, .int p6)] := hl
  have E := hF
  have J74 : ∀ (n74 : Nat) (l7 : Int32) (tp_bytes : Nat → Int32) (tp_size : Int32) (H : Heap) (locs : List Loc) (ls : Array Slot), FX6_feed_h74 p1 p2 p3 p4 p5 p6  n74 l7 tp_bytes tp_size = some u → va_P D vwCl (wX6 a0 a1 a2 a3 a4 a5 a6 v_isKept ++ wX5 cI a3 a7 tp_bytes tp_size tp_start tp_behind) H → va_D A (wX6 a0 a1 a2 a3 a4 a5 a6 v_isKept ++ wX5 cI a3 a7 tp_bytes tp_size tp_start tp_behind) → va_S A s.heap H locs → lv_has ls 8 [(0, .ref a0), (1, .int p1), (2, .int p2), (3, .int p3), (4, .int p4), (5, .int p5), (6, .int p6), (7, .int l7)] → W p l e (uR 1 21) s m args below meth c H locs 0 0 Q (F0 m 74 ls []) := by
    intro n74
    induction n74 with
    | zero => intro l7 tp_bytes tp_size H locs ls E; exact none_e E
    | succ n74 ih74 =>
      intro l7 tp_bytes tp_size H locs ls E hP hD hS hl
      have E : FX6_feed_b74 p1 p2 p3 p4 p5 p6  (FX6_feed_h74 p1 p2 p3 p4 p5 p6  n74) l7 tp_bytes tp_size = some u := E
      have J127 : ∀ (l7 t1 : Int32) (tp_bytes : Nat → Int32) (tp_size : Int32) (H : Heap) (locs : List Loc) (ls : Array Slot), FX6_feed_b127 p1 p2 p3 p4 p5 p6 (FX6_feed_h74 p1 p2 p3 p4 p5 p6  n74) l7 t1 tp_bytes tp_size = some u → va_P D vwCl (wX6 a0 a1 a2 a3 a4 a5 a6 v_isKept ++ wX5 cI a3 a7 tp_bytes tp_size tp_start tp_behind) H → va_D A (wX6 a0 a1 a2 a3 a4 a5 a6 v_isKept ++ wX5 cI a3 a7 tp_bytes tp_size tp_start tp_behind) → va_S A s.heap H locs → lv_has ls 8 [(0, .ref a0), (1, .int p1), (2, .int p2), (3, .int p3), (4, .int p4), (5, .int p5), (6, .int p6), (7, .int l7)] → W p l e (uR 1 21) s m args below meth c H locs 0 0 Q (F0 m 127 ls [.int t1, .ref a3]) := by
        intro l7 t1 tp_bytes tp_size H locs ls E hP hD hS hl
        obtain ⟨r1, hF, E⟩ := bn_e E
        refine callVv (wo := (wX6 a0 a1 a2 a3 a4 a5 a6 v_isKept ++ wX5 cI a3 a7 r1.1 r1.2 tp_start tp_behind)) h0 (c_X5_add l D cI cZ cS a3 a7 tp_bytes tp_size tp_start tp_behind t1 r1 hF) (gV wq_217 wq_218 wq_219 wq_3 wq_220) hdX5_add ⟨Nat.le_of_ble_eq_true rfl, Nat.le_of_ble_eq_true rfl⟩ ⟨Nat.le_refl _, Nat.le_refl _⟩ hP hD hS hA 0 5 rfl rfl rfl [1, 2] rfl rfl rfl rfl hl.1 rfl (Nat.le_of_ble_eq_true rfl) dX6_feed_127 (fun H locs hP hD hS => ?_)
        refine lv_iinc (v := (l7 + 1)) (lv' := [(7, .int (l7 + 1)), (0, .ref a0), (1, .int p1), (2, .int p2), (3, .int p3), (4, .int p4), (5, .int p5), (6, .int p6)]) hx hb dX6_feed_130 hl (k := 7) rfl rfl (by decide) rfl (fun ls hl => ?_)
        refine lv_goto (tgt := 74) hx hb dX6_feed_133 (by decide) ?_
        exact ih74 _ _ _ _ _ _ E hP hD hS (lv_sub hl [1, 2, 3, 4, 5, 6, 7, 0] rfl)
      refine lv_iload hx hb dX6_feed_74 (lv_at hl 7 rfl) ?_
      refine lv_iload_n hx hb dX6_feed_76 rfl (lv_at hl 1 rfl) ?_
      refine lv_icmp_ge (tgt := 136) hx hb dX6_feed_77 (by decide) (fun c2 => ?_) (fun c2 => ?_)
      · have E := br_p E c2
        refine lv_aload_n hx hb dX6_feed_136 rfl (lv_at hl 0 rfl) ?_
        refine gf_X6_26 h0 hP 0 rfl rfl dX6_feed_137 ?_
        refine gf_X6_55 h0 hP 1 rfl rfl dX6_feed_140 ?_
        exact hfin _ (Option.some.inj E) _ _ _ _ hP hD hS dX6_feed_143
      · have E := br_n E c2
        refine lv_aload_n hx hb dX6_feed_80 rfl (lv_at hl 0 rfl) ?_
        refine gf_X6_26 h0 hP 0 rfl rfl dX6_feed_81 ?_
        refine lv_iload hx hb dX6_feed_84 (lv_at hl 7 rfl) ?_
        refine lv_if_ne (tgt := 93) hx hb dX6_feed_86 (by decide) (fun c3 => ?_) (fun c3 => ?_)
        · have E := br_n E c3
          refine lv_iload hx hb dX6_feed_93 (lv_at hl 7 rfl) ?_
          refine lv_iconst (v := 1) hx hb dX6_feed_95 (by decide) ?_
          refine lv_icmp_ne (tgt := 103) hx hb dX6_feed_96 (by decide) (fun c4 => ?_) (fun c4 => ?_)
          · have E := br_n E c4
            refine lv_iload hx hb dX6_feed_103 (lv_at hl 7 rfl) ?_
            refine lv_iconst (v := 2) hx hb dX6_feed_105 (by decide) ?_
            refine lv_icmp_ne (tgt := 114) hx hb dX6_feed_106 (by decide) (fun c5 => ?_) (fun c5 => ?_)
            · have E := br_n E c5
              refine lv_iload hx hb dX6_feed_114 (lv_at hl 7 rfl) ?_
              refine lv_iconst (v := 3) hx hb dX6_feed_116 (by decide) ?_
              refine lv_icmp_ne (tgt := 125) hx hb dX6_feed_117 (by decide) (fun c6 => ?_) (fun c6 => ?_)
              · have E := br_n E c6
                refine lv_iload hx hb dX6_feed_125 (lv_at hl 6 rfl) ?_
                exact J127 _ _ _ _ _ _ _ E hP hD hS (lv_sub hl [0, 1, 2, 3, 4, 5, 6, 7] rfl)
              · have E := br_p E c6
                refine lv_iload hx hb dX6_feed_120 (lv_at hl 5 rfl) ?_
                refine lv_goto (tgt := 127) hx hb dX6_feed_122 (by decide) ?_
                exact J127 _ _ _ _ _ _ _ E hP hD hS (lv_sub hl [0, 1, 2, 3, 4, 5, 6, 7] rfl)
            · have E := br_p E c5
              refine lv_iload hx hb dX6_feed_109 (lv_at hl 4 rfl) ?_
              refine lv_goto (tgt := 127) hx hb dX6_feed_111 (by decide) ?_
              exact J127 _ _ _ _ _ _ _ E hP hD hS (lv_sub hl [0, 1, 2, 3, 4, 5, 6, 7] rfl)
          · have E := br_p E c4
            refine lv_iload_n hx hb dX6_feed_99 rfl (lv_at hl 3 rfl) ?_
            refine lv_goto (tgt := 127) hx hb dX6_feed_100 (by decide) ?_
            exact J127 _ _ _ _ _ _ _ E hP hD hS (lv_sub hl [0, 1, 2, 3, 4, 5, 6, 7] rfl)
        · have E := br_p E c3
          refine lv_iload_n hx hb dX6_feed_89 rfl (lv_at hl 2 rfl) ?_
          refine lv_goto (tgt := 127) hx hb dX6_feed_90 (by decide) ?_
          exact J127 _ _ _ _ _ _ _ E hP hD hS (lv_sub hl [0, 1, 2, 3, 4, 5, 6, 7] rfl)
  refine lv_iload_n hx hb dX6_feed_0 rfl (lv_at hl 1 rfl) ?_
  refine lv_iconst (v := 1) hx hb dX6_feed_1 (by decide) ?_
  refine lv_icmp_lt (tgt := 10) hx hb dX6_feed_2 (by decide) (fun c7 => ?_) (fun c7 => ?_)
  · have E := br_p E c7
    refine lv_bipush (v := (-2)) hx hb dX6_feed_10 (by decide) ?_
    exact hfin _ (Option.some.inj E) _ _ _ _ hP hD hS dX6_feed_12
  · have E := br_n E c7
    refine lv_iload_n hx hb dX6_feed_5 rfl (lv_at hl 1 rfl) ?_
    refine lv_iconst (v := 5) hx hb dX6_feed_6 (by decide) ?_
    refine lv_icmp_le (tgt := 13) hx hb dX6_feed_7 (by decide) (fun c8 => ?_) (fun c8 => ?_)
    · have E := br_p E c8
      refine lv_iload_n hx hb dX6_feed_13 rfl (lv_at hl 2 rfl) ?_
      obtain ⟨r9, hF, E⟩ := bn_e E
      refine callSi (wo := (wX6 a0 a1 a2 a3 a4 a5 a6 v_isKept ++ wX5 cI a3 a7 tp_bytes tp_size tp_start tp_behind)) h0 (c_X6_isByte l D cI cZ cS p2 r9 hF) (gS wq_214 wq_215 wq_1 wq_216) hdX6_isByte ⟨Nat.le_of_ble_eq_true rfl, Nat.le_of_ble_eq_true rfl⟩ ⟨Nat.le_refl _, Nat.le_refl _⟩ hP hD hS hA [] rfl rfl rfl rfl hl.1 rfl (Nat.le_of_ble_eq_true rfl) dX6_feed_14 (fun H locs hP hD hS => ?_)
      refine lv_if_eq (tgt := 51) hx hb dX6_feed_17 (by decide) (fun c10 => ?_) (fun c10 => ?_)
      · have E := br_p E c10
        refine lv_bipush (v := (-2)) hx hb dX6_feed_51 (by decide) ?_
        exact hfin _ (Option.some.inj E) _ _ _ _ hP hD hS dX6_feed_53
      · have E := br_n E c10
        refine lv_iload_n hx hb dX6_feed_20 rfl (lv_at hl 3 rfl) ?_
        obtain ⟨r11, hF, E⟩ := bn_e E
        refine callSi (wo := (wX6 a0 a1 a2 a3 a4 a5 a6 v_isKept ++ wX5 cI a3 a7 tp_bytes tp_size tp_start tp_behind)) h0 (c_X6_isByte l D cI cZ cS p3 r11 hF) (gS wq_214 wq_215 wq_1 wq_216) hdX6_isByte ⟨Nat.le_of_ble_eq_true rfl, Nat.le_of_ble_eq_true rfl⟩ ⟨Nat.le_refl _, Nat.le_refl _⟩ hP hD hS hA [] rfl rfl rfl rfl hl.1 rfl (Nat.le_of_ble_eq_true rfl) dX6_feed_21 (fun H locs hP hD hS => ?_)
        refine lv_if_eq (tgt := 51) hx hb dX6_feed_24 (by decide) (fun c12 => ?_) (fun c12 => ?_)
        · have E := br_p E c12
          refine lv_bipush (v := (-2)) hx hb dX6_feed_51 (by decide) ?_
          exact hfin _ (Option.some.inj E) _ _ _ _ hP hD hS dX6_feed_53
        · have E := br_n E c12
          refine lv_iload hx hb dX6_feed_27 (lv_at hl 4 rfl) ?_
          obtain ⟨r13, hF, E⟩ := bn_e E
          refine callSi (wo := (wX6 a0 a1 a2 a3 a4 a5 a6 v_isKept ++ wX5 cI a3 a7 tp_bytes tp_size tp_start tp_behind)) h0 (c_X6_isByte l D cI cZ cS p4 r13 hF) (gS wq_214 wq_215 wq_1 wq_216) hdX6_isByte ⟨Nat.le_of_ble_eq_true rfl, Nat.le_of_ble_eq_true rfl⟩ ⟨Nat.le_refl _, Nat.le_refl _⟩ hP hD hS hA [] rfl rfl rfl rfl hl.1 rfl (Nat.le_of_ble_eq_true rfl) dX6_feed_29 (fun H locs hP hD hS => ?_)
          refine lv_if_eq (tgt := 51) hx hb dX6_feed_32 (by decide) (fun c14 => ?_) (fun c14 => ?_)
          · have E := br_p E c14
            refine lv_bipush (v := (-2)) hx hb dX6_feed_51 (by decide) ?_
            exact hfin _ (Option.some.inj E) _ _ _ _ hP hD hS dX6_feed_53
          · have E := br_n E c14
            refine lv_iload hx hb dX6_feed_35 (lv_at hl 5 rfl) ?_
            obtain ⟨r15, hF, E⟩ := bn_e E
            refine callSi (wo := (wX6 a0 a1 a2 a3 a4 a5 a6 v_isKept ++ wX5 cI a3 a7 tp_bytes tp_size tp_start tp_behind)) h0 (c_X6_isByte l D cI cZ cS p5 r15 hF) (gS wq_214 wq_215 wq_1 wq_216) hdX6_isByte ⟨Nat.le_of_ble_eq_true rfl, Nat.le_of_ble_eq_true rfl⟩ ⟨Nat.le_refl _, Nat.le_refl _⟩ hP hD hS hA [] rfl rfl rfl rfl hl.1 rfl (Nat.le_of_ble_eq_true rfl) dX6_feed_37 (fun H locs hP hD hS => ?_)
            refine lv_if_eq (tgt := 51) hx hb dX6_feed_40 (by decide) (fun c16 => ?_) (fun c16 => ?_)
            · have E := br_p E c16
              refine lv_bipush (v := (-2)) hx hb dX6_feed_51 (by decide) ?_
              exact hfin _ (Option.some.inj E) _ _ _ _ hP hD hS dX6_feed_53
            · have E := br_n E c16
              refine lv_iload hx hb dX6_feed_43 (lv_at hl 6 rfl) ?_
              obtain ⟨r17, hF, E⟩ := bn_e E
              refine callSi (wo := (wX6 a0 a1 a2 a3 a4 a5 a6 v_isKept ++ wX5 cI a3 a7 tp_bytes tp_size tp_start tp_behind)) h0 (c_X6_isByte l D cI cZ cS p6 r17 hF) (gS wq_214 wq_215 wq_1 wq_216) hdX6_isByte ⟨Nat.le_of_ble_eq_true rfl, Nat.le_of_ble_eq_true rfl⟩ ⟨Nat.le_refl _, Nat.le_refl _⟩ hP hD hS hA [] rfl rfl rfl rfl hl.1 rfl (Nat.le_of_ble_eq_true rfl) dX6_feed_45 (fun H locs hP hD hS => ?_)
              refine lv_if_ne (tgt := 54) hx hb dX6_feed_48 (by decide) (fun c18 => ?_) (fun c18 => ?_)
              · have E := br_n E c18
                refine lv_iload_n hx hb dX6_feed_54 rfl (lv_at hl 1 rfl) ?_
                refine lv_bipush (v := 30) hx hb dX6_feed_55 (by decide) ?_
                refine lv_aload_n hx hb dX6_feed_57 rfl (lv_at hl 0 rfl) ?_
                refine gf_X6_26 h0 hP 0 rfl rfl dX6_feed_58 ?_
                refine gf_X6_55 h0 hP 1 rfl rfl dX6_feed_61 ?_
                refine lv_isub hx hb dX6_feed_64 ?_
                refine lv_icmp_le (tgt := 71) hx hb dX6_feed_65 (by decide) (fun c19 => ?_) (fun c19 => ?_)
                · have E := br_p E c19
                  refine lv_iconst (v := 0) hx hb dX6_feed_71 (by decide) ?_
                  refine lv_istore (lv' := [(7, .int 0), (0, .ref a0), (1, .int p1), (2, .int p2), (3, .int p3), (4, .int p4), (5, .int p5), (6, .int p6)]) hx hb dX6_feed_72 hl (by decide) rfl (fun ls hl => ?_)
                  exact J74 5000 _ _ _ _ _ _ E hP hD hS (lv_sub hl [1, 2, 3, 4, 5, 6, 7, 0] rfl)
                · have E := br_n E c19
                  refine lv_bipush (v := (-4)) hx hb dX6_feed_68 (by decide) ?_
                  exact hfin _ (Option.some.inj E) _ _ _ _ hP hD hS dX6_feed_70
              · have E := br_p E c18
                refine lv_bipush (v := (-2)) hx hb dX6_feed_51 (by decide) ?_
                exact hfin _ (Option.some.inj E) _ _ _ _ hP hD hS dX6_feed_53
    · have E := br_n E c8
      refine lv_bipush (v := (-2)) hx hb dX6_feed_10 (by decide) ?_
      exact hfin _ (Option.some.inj E) _ _ _ _ hP hD hS dX6_feed_12
theorem hdX6_isName : yX6_isName.cls ≠ "java/lang/invoke/MethodHandle" ∧ yX6_isName.cls ≠ "java/lang/invoke/VarHandle" ∧ (parseMethodDescriptor yX6_isName.desc).map (fun d => d.parameters.length) = some 1 := by decide +kernel
noncomputable def FX6_isName (p0 : Int32) : Option (Int32) := (if p0 = (-1) then (some 0) else (if p0 = 7367022 then (some 0) else (if p0 = 6447474 then (some 0) else (if p0 = 7300710 then (some 0) else (some 1)))))
set_option maxHeartbeats 4000000 in
set_option maxRecDepth 100000 in
theorem c_X6_isName (l : Launch) (D : va_G) (cI cZ cS : ClassId)   (p0 : Int32) (u : Int32) (hF : FX6_isName p0 = some u) : MCi l D (tyL cI cZ cS) yX6_isName cX6_isName 1 (some .boolean) 0 0 [.int p0] ([] : va_W) ([] : va_W) u := by
  refine MCz.mk (by decide) (Nat.le_of_ble_eq_true rfl) ?_
  intro p e s m args below meth c A ls Q h0 hP hD hA hS hl hfin0
  have hfin : ∀ (u' : Int32), u' = u → ∀ (H : Heap) (locs : List Loc) (ls : Array Slot) (pc : Nat), (u' = 0 ∨ u' = 1) → va_P D vwCl ([] : va_W) H → va_D A ([] : va_W) → va_S A s.heap H locs → decode cX6_isName pc = .ok (.ireturn, 1) → W p l e (uR 0 0) s m args below meth c H locs 0 0 Q (F0 m pc ls [.int u']) := by intro u' hu; subst hu; exact hfin0
  clear hfin0
  obtain ⟨hx, hb, hr, hlk, hml, hown, hts, hK⟩ := id h0
  have hl : lv_has ls 1 [(0, .int p0)] := hl
  have E := hF
  refine lv_iload_n hx hb dX6_isName_0 rfl (lv_at hl 0 rfl) ?_
  refine lv_iconst (v := (-1)) hx hb dX6_isName_1 (by decide) ?_
  refine lv_icmp_eq (tgt := 29) hx hb dX6_isName_2 (by decide) (fun c1 => ?_) (fun c1 => ?_)
  · have E := br_p E c1
    refine lv_iconst (v := 0) hx hb dX6_isName_29 (by decide) ?_
    exact hfin _ (Option.some.inj E) _ _ _ _ (Or.inl rfl) hP hD hS dX6_isName_30
  · have E := br_n E c1
    refine lv_iload_n hx hb dX6_isName_5 rfl (lv_at hl 0 rfl) ?_
    refine lv_ldc (v := 7367022) hx hb hown (hts _ wq_237) dX6_isName_6 ?_
    refine lv_icmp_eq (tgt := 29) hx hb dX6_isName_8 (by decide) (fun c2 => ?_) (fun c2 => ?_)
    · have E := br_p E c2
      refine lv_iconst (v := 0) hx hb dX6_isName_29 (by decide) ?_
      exact hfin _ (Option.some.inj E) _ _ _ _ (Or.inl rfl) hP hD hS dX6_isName_30
    · have E := br_n E c2
      refine lv_iload_n hx hb dX6_isName_11 rfl (lv_at hl 0 rfl) ?_
      refine lv_ldcw (v := 6447474) hx hb hown (hts _ wq_246) dX6_isName_12 ?_
      refine lv_icmp_eq (tgt := 29) hx hb dX6_isName_15 (by decide) (fun c3 => ?_) (fun c3 => ?_)
      · have E := br_p E c3
        refine lv_iconst (v := 0) hx hb dX6_isName_29 (by decide) ?_
        exact hfin _ (Option.some.inj E) _ _ _ _ (Or.inl rfl) hP hD hS dX6_isName_30
      · have E := br_n E c3
        refine lv_iload_n hx hb dX6_isName_18 rfl (lv_at hl 0 rfl) ?_
        refine lv_ldcw (v := 7300710) hx hb hown (hts _ wq_247) dX6_isName_19 ?_
        refine lv_icmp_eq (tgt := 29) hx hb dX6_isName_22 (by decide) (fun c4 => ?_) (fun c4 => ?_)
        · have E := br_p E c4
          refine lv_iconst (v := 0) hx hb dX6_isName_29 (by decide) ?_
          exact hfin _ (Option.some.inj E) _ _ _ _ (Or.inl rfl) hP hD hS dX6_isName_30
        · have E := br_n E c4
          refine lv_iconst (v := 1) hx hb dX6_isName_25 (by decide) ?_
          refine lv_goto (tgt := 30) hx hb dX6_isName_26 (by decide) ?_
          exact hfin _ (Option.some.inj E) _ _ _ _ (Or.inr rfl) hP hD hS dX6_isName_30
theorem hdX6_faultHere : yX6_faultHere.cls = RX6 ∧ yX6_faultHere.cls ≠ "java/lang/invoke/MethodHandle" ∧ yX6_faultHere.cls ≠ "java/lang/invoke/VarHandle" ∧ (parseMethodDescriptor yX6_faultHere.desc).map (fun d => d.parameters.length) = some 0 := by decide +kernel
noncomputable def FX6_faultHere (tp_start : Int32) : Option (Int32) := (some ((-100) - tp_start))
set_option maxHeartbeats 4000000 in
set_option maxRecDepth 100000 in
theorem c_X6_faultHere (l : Launch) (D : va_G) (cI cZ cS : ClassId) (a0 a1 a2 a3 a4 a5 a6 a7 : Nat) (v_isKept : Int32) (tp_bytes : Nat → Int32) (tp_size tp_start tp_behind : Int32)  (u : Int32) (hF : FX6_faultHere tp_start = some u) : MCi l D (tyL cI cZ cS) yX6_faultHere cX6_faultHere 1 (some .int) 0 0 [.ref a0] (wX6 a0 a1 a2 a3 a4 a5 a6 v_isKept ++ wX5 cI a3 a7 tp_bytes tp_size tp_start tp_behind) (wX6 a0 a1 a2 a3 a4 a5 a6 v_isKept ++ wX5 cI a3 a7 tp_bytes tp_size tp_start tp_behind) u := by
  refine MCi.mk (by decide) (Nat.le_of_ble_eq_true rfl) ?_
  intro p e s m args below meth c A ls Q h0 hP hD hA hS hl hfin0
  have hfin : ∀ (u' : Int32), u' = u → ∀ (H : Heap) (locs : List Loc) (ls : Array Slot) (pc : Nat), va_P D vwCl (wX6 a0 a1 a2 a3 a4 a5 a6 v_isKept ++ wX5 cI a3 a7 tp_bytes tp_size tp_start tp_behind) H → va_D A (wX6 a0 a1 a2 a3 a4 a5 a6 v_isKept ++ wX5 cI a3 a7 tp_bytes tp_size tp_start tp_behind) → va_S A s.heap H locs → decode cX6_faultHere pc = .ok (.ireturn, 1) → W p l e (uR 0 0) s m args below meth c H locs 0 0 Q (F0 m pc ls [.int u']) := by intro u' hu; subst hu; exact hfin0
  clear hfin0
  obtain ⟨hx, hb, hr, hlk, hml, hown, hts, hK⟩ := id h0
  have hl : lv_has ls 1 [(0, .ref a0)] := hl
  have E := hF
  refine lv_bipush (v := (-100)) hx hb dX6_faultHere_0 (by decide) ?_
  refine lv_aload_n hx hb dX6_faultHere_2 rfl (lv_at hl 0 rfl) ?_
  refine gf_X6_26 h0 hP 0 rfl rfl dX6_faultHere_3 ?_
  refine gf_X6_283 h0 hP 1 rfl rfl dX6_faultHere_6 ?_
  refine lv_isub hx hb dX6_faultHere_9 ?_
  exact hfin _ (Option.some.inj E) _ _ _ _ hP hD hS dX6_faultHere_10
theorem hdX6_doneAsPin : yX6_doneAsPin.cls = RX6 ∧ yX6_doneAsPin.cls ≠ "java/lang/invoke/MethodHandle" ∧ yX6_doneAsPin.cls ≠ "java/lang/invoke/VarHandle" ∧ (parseMethodDescriptor yX6_doneAsPin.desc).map (fun d => d.parameters.length) = some 0 := by decide +kernel
noncomputable def FX6_doneAsPin_b27 (tp_bytes : Nat → Int32) (tp_size : Int32)  (fr_pins : Int32) (fr_names : Nat → Int32) (tp_start tp_behind : Int32) : Option (Int32 × Int32 × (Nat → Int32) × Int32 × Int32) := ((FX6_faultHere tp_start).bind (fun r1 => (some (r1, fr_pins, fr_names, tp_start, tp_behind))))
noncomputable def FX6_doneAsPin (fr_pins : Int32) (fr_names tp_bytes : Nat → Int32) (tp_size tp_start tp_behind : Int32) : Option (Int32 × Int32 × (Nat → Int32) × Int32 × Int32) := ((FX5_nextWord tp_bytes tp_size tp_start tp_behind).bind (fun r2 => ((FX6_isName r2.1).bind (fun r3 => (if r3 = 0 then (FX6_doneAsPin_b27 tp_bytes tp_size  fr_pins fr_names r2.2.1 r2.2.2) else ((FX0_pinOfName r2.1 fr_pins fr_names).bind (fun r5 => (if r5 = (-1) then ((FX5_endsNext tp_bytes tp_size r2.2.1 r2.2.2).bind (fun r7 => (if r7.1 = 0 then ((FX6_faultHere r7.2.1).bind (fun r10 => (some (r10, fr_pins, fr_names, r7.2.1, r7.2.2)))) else ((FX0_addPin r2.1 fr_pins fr_names).bind (fun r9 => (some (r9.1, r9.2.1, r9.2.2, r7.2.1, r7.2.2))))))) else (FX6_doneAsPin_b27 tp_bytes tp_size  fr_pins fr_names r2.2.1 r2.2.2)))))))))
set_option maxHeartbeats 4000000 in
set_option maxRecDepth 100000 in
theorem c_X6_doneAsPin (l : Launch) (D : va_G) (cI cZ cS : ClassId) (a0 a1 a2 a3 a4 a5 a6 a7 a8 a9 a10 : Nat) (v_isKept fr_pins fr_bars : Int32) (fr_names fr_lesser fr_greater tp_bytes : Nat → Int32) (tp_size tp_start tp_behind : Int32)  (u : Int32 × Int32 × (Nat → Int32) × Int32 × Int32) (hF : FX6_doneAsPin fr_pins fr_names tp_bytes tp_size tp_start tp_behind = some u) : MCi l D (tyL cI cZ cS) yX6_doneAsPin cX6_doneAsPin 2 (some .int) 2 42 [.ref a0] (wX6 a0 a1 a2 a3 a4 a5 a6 v_isKept ++ wX0 cI a1 a7 a8 a9 fr_pins fr_bars fr_names fr_lesser fr_greater ++ wX5 cI a3 a10 tp_bytes tp_size tp_start tp_behind) (wX6 a0 a1 a2 a3 a4 a5 a6 v_isKept ++ wX0 cI a1 a7 a8 a9 u.2.1 fr_bars u.2.2.1 fr_lesser fr_greater ++ wX5 cI a3 a10 tp_bytes tp_size u.2.2.2.1 u.2.2.2.2) u.1 := by
  refine MCi.mk (by decide) (Nat.le_of_ble_eq_true rfl) ?_
  intro p e s m args below meth c A ls Q h0 hP hD hA hS hl hfin0
  have hfin : ∀ (u' : Int32 × Int32 × (Nat → Int32) × Int32 × Int32), u' = u → ∀ (H : Heap) (locs : List Loc) (ls : Array Slot) (pc : Nat), va_P D vwCl (wX6 a0 a1 a2 a3 a4 a5 a6 v_isKept ++ wX0 cI a1 a7 a8 a9 u'.2.1 fr_bars u'.2.2.1 fr_lesser fr_greater ++ wX5 cI a3 a10 tp_bytes tp_size u'.2.2.2.1 u'.2.2.2.2) H → va_D A (wX6 a0 a1 a2 a3 a4 a5 a6 v_isKept ++ wX0 cI a1 a7 a8 a9 u'.2.1 fr_bars u'.2.2.1 fr_lesser fr_greater ++ wX5 cI a3 a10 tp_bytes tp_size u'.2.2.2.1 u'.2.2.2.2) → va_S A s.heap H locs → decode cX6_doneAsPin pc = .ok (.ireturn, 1) → W p l e (uR 2 42) s m args below meth c H locs 0 0 Q (F0 m pc ls [.int u'.1]) := by intro u' hu; subst hu; exact hfin0
  clear hfin0
  obtain ⟨hx, hb, hr, hlk, hml, hown, hts, hK⟩ := id h0
  have hl : lv_has ls 2 [(0, .ref a0)] := hl
  have E := hF
  have J27 : ∀ (fr_pins : Int32) (fr_names : Nat → Int32) (tp_start tp_behind : Int32) (H : Heap) (locs : List Loc) (ls : Array Slot), FX6_doneAsPin_b27 tp_bytes tp_size  fr_pins fr_names tp_start tp_behind = some u → va_P D vwCl (wX6 a0 a1 a2 a3 a4 a5 a6 v_isKept ++ wX0 cI a1 a7 a8 a9 fr_pins fr_bars fr_names fr_lesser fr_greater ++ wX5 cI a3 a10 tp_bytes tp_size tp_start tp_behind) H → va_D A (wX6 a0 a1 a2 a3 a4 a5 a6 v_isKept ++ wX0 cI a1 a7 a8 a9 fr_pins fr_bars fr_names fr_lesser fr_greater ++ wX5 cI a3 a10 tp_bytes tp_size tp_start tp_behind) → va_S A s.heap H locs → lv_has ls 2 [(0, .ref a0)] → W p l e (uR 2 42) s m args below meth c H locs 0 0 Q (F0 m 27 ls []) := by
    intro fr_pins fr_names tp_start tp_behind H locs ls E hP hD hS hl
    refine lv_aload_n hx hb dX6_doneAsPin_27 rfl (lv_at hl 0 rfl) ?_
    obtain ⟨r1, hF, E⟩ := bn_e E
    refine callVi (wo := (wX6 a0 a1 a2 a3 a4 a5 a6 v_isKept ++ wX0 cI a1 a7 a8 a9 fr_pins fr_bars fr_names fr_lesser fr_greater ++ wX5 cI a3 a10 tp_bytes tp_size tp_start tp_behind)) h0 (c_X6_faultHere l D cI cZ cS a0 a1 a2 a3 a4 a5 a6 a10 v_isKept tp_bytes tp_size tp_start tp_behind r1 hF) (gV wq_252 wq_254 wp_2 wq_1 wq_255) hdX6_faultHere ⟨Nat.le_of_ble_eq_true rfl, Nat.le_of_ble_eq_true rfl⟩ ⟨Nat.le_refl _, Nat.le_refl _⟩ hP hD hS hA 0 6 rfl rfl rfl [0, 5, 6] rfl rfl rfl rfl hl.1 rfl (Nat.le_of_ble_eq_true rfl) dX6_doneAsPin_28 (fun H locs hP hD hS => ?_)
    exact hfin _ (Option.some.inj E) _ _ _ _ hP hD hS dX6_doneAsPin_31
  refine lv_aload_n hx hb dX6_doneAsPin_0 rfl (lv_at hl 0 rfl) ?_
  refine gf_X6_26 h0 hP 0 rfl rfl dX6_doneAsPin_1 ?_
  obtain ⟨r2, hF, E⟩ := bn_e E
  refine callVi (wo := (wX6 a0 a1 a2 a3 a4 a5 a6 v_isKept ++ wX0 cI a1 a7 a8 a9 fr_pins fr_bars fr_names fr_lesser fr_greater ++ wX5 cI a3 a10 tp_bytes tp_size r2.2.1 r2.2.2)) h0 (c_X5_nextWord l D cI cZ cS a3 a10 tp_bytes tp_size tp_start tp_behind r2 hF) (gV wq_242 wq_234 wq_235 wq_3 wq_236) hdX5_nextWord ⟨Nat.le_of_ble_eq_true rfl, Nat.le_of_ble_eq_true rfl⟩ ⟨Nat.le_refl _, Nat.le_refl _⟩ hP hD hS hA 0 5 rfl rfl rfl [5, 6] rfl rfl rfl rfl hl.1 rfl (Nat.le_of_ble_eq_true rfl) dX6_doneAsPin_4 (fun H locs hP hD hS => ?_)
  refine lv_istore_n (lv' := [(1, .int r2.1), (0, .ref a0)]) hx hb dX6_doneAsPin_7 rfl hl (by decide) rfl (fun ls hl => ?_)
  refine lv_iload_n hx hb dX6_doneAsPin_8 rfl (lv_at hl 0 rfl) ?_
  obtain ⟨r3, hF, E⟩ := bn_e E
  refine callSi (wo := (wX6 a0 a1 a2 a3 a4 a5 a6 v_isKept ++ wX0 cI a1 a7 a8 a9 fr_pins fr_bars fr_names fr_lesser fr_greater ++ wX5 cI a3 a10 tp_bytes tp_size r2.2.1 r2.2.2)) h0 (c_X6_isName l D cI cZ cS r2.1 r3 hF) (gS wq_243 wq_244 wq_1 wq_245) hdX6_isName ⟨Nat.le_of_ble_eq_true rfl, Nat.le_of_ble_eq_true rfl⟩ ⟨Nat.le_refl _, Nat.le_refl _⟩ hP hD hS hA [] rfl rfl rfl rfl hl.1 rfl (Nat.le_of_ble_eq_true rfl) dX6_doneAsPin_9 (fun H locs hP hD hS => ?_)
  refine lv_if_eq (tgt := 27) hx hb dX6_doneAsPin_12 (by decide) (fun c4 => ?_) (fun c4 => ?_)
  · have E := br_p E c4
    exact J27 _ _ _ _ _ _ _ E hP hD hS (lv_sub hl [1] rfl)
  · have E := br_n E c4
    refine lv_aload_n hx hb dX6_doneAsPin_15 rfl (lv_at hl 1 rfl) ?_
    refine gf_X6_10 h0 hP 0 rfl rfl dX6_doneAsPin_16 ?_
    refine lv_iload_n hx hb dX6_doneAsPin_19 rfl (lv_at hl 0 rfl) ?_
    obtain ⟨r5, hF, E⟩ := bn_e E
    refine callVi (wo := (wX6 a0 a1 a2 a3 a4 a5 a6 v_isKept ++ wX0 cI a1 a7 a8 a9 fr_pins fr_bars fr_names fr_lesser fr_greater ++ wX5 cI a3 a10 tp_bytes tp_size r2.2.1 r2.2.2)) h0 (c_X0_pinOfName l D cI cZ cS a1 a7 a8 a9 fr_pins fr_bars fr_names fr_lesser fr_greater r2.1 r5 hF) (gV wq_248 wq_249 wq_250 wq_2 wq_251) hdX0_pinOfName ⟨Nat.le_of_ble_eq_true rfl, Nat.le_of_ble_eq_true rfl⟩ ⟨Nat.le_refl _, Nat.le_refl _⟩ hP hD hS hA 0 0 rfl rfl rfl [1, 2, 3, 4] rfl rfl rfl rfl hl.1 rfl (Nat.le_of_ble_eq_true rfl) dX6_doneAsPin_20 (fun H locs hP hD hS => ?_)
    refine lv_iconst (v := (-1)) hx hb dX6_doneAsPin_23 (by decide) ?_
    refine lv_icmp_eq (tgt := 32) hx hb dX6_doneAsPin_24 (by decide) (fun c6 => ?_) (fun c6 => ?_)
    · have E := br_p E c6
      refine lv_aload_n hx hb dX6_doneAsPin_32 rfl (lv_at hl 1 rfl) ?_
      refine gf_X6_26 h0 hP 0 rfl rfl dX6_doneAsPin_33 ?_
      obtain ⟨r7, hF, E⟩ := bn_e E
      refine callVi (wo := (wX6 a0 a1 a2 a3 a4 a5 a6 v_isKept ++ wX0 cI a1 a7 a8 a9 fr_pins fr_bars fr_names fr_lesser fr_greater ++ wX5 cI a3 a10 tp_bytes tp_size r7.2.1 r7.2.2)) h0 (c_X5_endsNext l D cI cZ cS a3 a10 tp_bytes tp_size r2.2.1 r2.2.2 r7 hF) (gV wq_256 wq_257 wq_258 wq_3 wq_259) hdX5_endsNext ⟨Nat.le_of_ble_eq_true rfl, Nat.le_of_ble_eq_true rfl⟩ ⟨Nat.le_refl _, Nat.le_refl _⟩ hP hD hS hA 0 5 rfl rfl rfl [5, 6] rfl rfl rfl rfl hl.1 rfl (Nat.le_of_ble_eq_true rfl) dX6_doneAsPin_36 (fun H locs hP hD hS => ?_)
      refine lv_if_ne (tgt := 47) hx hb dX6_doneAsPin_39 (by decide) (fun c8 => ?_) (fun c8 => ?_)
      · have E := br_n E c8
        refine lv_aload_n hx hb dX6_doneAsPin_47 rfl (lv_at hl 1 rfl) ?_
        refine gf_X6_10 h0 hP 0 rfl rfl dX6_doneAsPin_48 ?_
        refine lv_iload_n hx hb dX6_doneAsPin_51 rfl (lv_at hl 0 rfl) ?_
        obtain ⟨r9, hF, E⟩ := bn_e E
        refine callVi (wo := (wX6 a0 a1 a2 a3 a4 a5 a6 v_isKept ++ wX0 cI a1 a7 a8 a9 r9.2.1 fr_bars r9.2.2 fr_lesser fr_greater ++ wX5 cI a3 a10 tp_bytes tp_size r7.2.1 r7.2.2)) h0 (c_X0_addPin l D cI cZ cS a1 a7 a8 a9 fr_pins fr_bars fr_names fr_lesser fr_greater r2.1 r9 hF) (gV wq_260 wq_261 wq_262 wq_2 wq_263) hdX0_addPin ⟨Nat.le_of_ble_eq_true rfl, Nat.le_of_ble_eq_true rfl⟩ ⟨Nat.le_refl _, Nat.le_refl _⟩ hP hD hS hA 0 0 rfl rfl rfl [1, 2, 3, 4] rfl rfl rfl rfl hl.1 rfl (Nat.le_of_ble_eq_true rfl) dX6_doneAsPin_52 (fun H locs hP hD hS => ?_)
        exact hfin _ (Option.some.inj E) _ _ _ _ hP hD hS dX6_doneAsPin_55
      · have E := br_p E c8
        refine lv_aload_n hx hb dX6_doneAsPin_42 rfl (lv_at hl 1 rfl) ?_
        obtain ⟨r10, hF, E⟩ := bn_e E
        refine callVi (wo := (wX6 a0 a1 a2 a3 a4 a5 a6 v_isKept ++ wX0 cI a1 a7 a8 a9 fr_pins fr_bars fr_names fr_lesser fr_greater ++ wX5 cI a3 a10 tp_bytes tp_size r7.2.1 r7.2.2)) h0 (c_X6_faultHere l D cI cZ cS a0 a1 a2 a3 a4 a5 a6 a10 v_isKept tp_bytes tp_size r7.2.1 r7.2.2 r10 hF) (gV wq_252 wq_254 wp_2 wq_1 wq_255) hdX6_faultHere ⟨Nat.le_of_ble_eq_true rfl, Nat.le_of_ble_eq_true rfl⟩ ⟨Nat.le_refl _, Nat.le_refl _⟩ hP hD hS hA 0 6 rfl rfl rfl [0, 5, 6] rfl rfl rfl rfl hl.1 rfl (Nat.le_of_ble_eq_true rfl) dX6_doneAsPin_43 (fun H locs hP hD hS => ?_)
        exact hfin _ (Option.some.inj E) _ _ _ _ hP hD hS dX6_doneAsPin_46
    · have E := br_n E c6
      exact J27 _ _ _ _ _ _ _ E hP hD hS (lv_sub hl [1] rfl)
theorem hdX6_isPin : yX6_isPin.cls = RX6 ∧ yX6_isPin.cls ≠ "java/lang/invoke/MethodHandle" ∧ yX6_isPin.cls ≠ "java/lang/invoke/VarHandle" ∧ (parseMethodDescriptor yX6_isPin.desc).map (fun d => d.parameters.length) = some 1 := by decide +kernel
noncomputable def FX6_isPin (p1 : Int32) (fr_pins : Int32) : Option (Int32) := (if p1 < 0 then (some 0) else (if fr_pins ≤ p1 then (some 0) else (some 1)))
set_option maxHeartbeats 4000000 in
set_option maxRecDepth 100000 in
theorem c_X6_isPin (l : Launch) (D : va_G) (cI cZ cS : ClassId) (a0 a1 a2 a3 a4 a5 a6 a7 a8 a9 : Nat) (v_isKept fr_pins fr_bars : Int32) (fr_names fr_lesser fr_greater : Nat → Int32) (p1 : Int32) (u : Int32) (hF : FX6_isPin p1 fr_pins = some u) : MCi l D (tyL cI cZ cS) yX6_isPin cX6_isPin 2 (some .boolean) 0 0 [.ref a0, .int p1] (wX6 a0 a1 a2 a3 a4 a5 a6 v_isKept ++ wX0 cI a1 a7 a8 a9 fr_pins fr_bars fr_names fr_lesser fr_greater) (wX6 a0 a1 a2 a3 a4 a5 a6 v_isKept ++ wX0 cI a1 a7 a8 a9 fr_pins fr_bars fr_names fr_lesser fr_greater) u := by
  refine MCz.mk (by decide) (Nat.le_of_ble_eq_true rfl) ?_
  intro p e s m args below meth c A ls Q h0 hP hD hA hS hl hfin0
  have hfin : ∀ (u' : Int32), u' = u → ∀ (H : Heap) (locs : List Loc) (ls : Array Slot) (pc : Nat), (u' = 0 ∨ u' = 1) → va_P D vwCl (wX6 a0 a1 a2 a3 a4 a5 a6 v_isKept ++ wX0 cI a1 a7 a8 a9 fr_pins fr_bars fr_names fr_lesser fr_greater) H → va_D A (wX6 a0 a1 a2 a3 a4 a5 a6 v_isKept ++ wX0 cI a1 a7 a8 a9 fr_pins fr_bars fr_names fr_lesser fr_greater) → va_S A s.heap H locs → decode cX6_isPin pc = .ok (.ireturn, 1) → W p l e (uR 0 0) s m args below meth c H locs 0 0 Q (F0 m pc ls [.int u']) := by intro u' hu; subst hu; exact hfin0
  clear hfin0
  obtain ⟨hx, hb, hr, hlk, hml, hown, hts, hK⟩ := id h0
  have hl : lv_has ls 2 [(0, .ref a0), (1, .int p1)] := hl
  have E := hF
  refine lv_iload_n hx hb dX6_isPin_0 rfl (lv_at hl 1 rfl) ?_
  refine lv_if_lt (tgt := 19) hx hb dX6_isPin_1 (by decide) (fun c1 => ?_) (fun c1 => ?_)
  · have E := br_p E c1
    refine lv_iconst (v := 0) hx hb dX6_isPin_19 (by decide) ?_
    exact hfin _ (Option.some.inj E) _ _ _ _ (Or.inl rfl) hP hD hS dX6_isPin_20
  · have E := br_n E c1
    refine lv_iload_n hx hb dX6_isPin_4 rfl (lv_at hl 1 rfl) ?_
    refine lv_aload_n hx hb dX6_isPin_5 rfl (lv_at hl 0 rfl) ?_
    refine gf_X6_10 h0 hP 0 rfl rfl dX6_isPin_6 ?_
    refine gf_X6_95 h0 hP 1 rfl rfl dX6_isPin_9 ?_
    refine lv_icmp_ge (tgt := 19) hx hb dX6_isPin_12 (by decide) (fun c2 => ?_) (fun c2 => ?_)
    · have E := br_p E c2
      refine lv_iconst (v := 0) hx hb dX6_isPin_19 (by decide) ?_
      exact hfin _ (Option.some.inj E) _ _ _ _ (Or.inl rfl) hP hD hS dX6_isPin_20
    · have E := br_n E c2
      refine lv_iconst (v := 1) hx hb dX6_isPin_15 (by decide) ?_
      refine lv_goto (tgt := 20) hx hb dX6_isPin_16 (by decide) ?_
      exact hfin _ (Option.some.inj E) _ _ _ _ (Or.inr rfl) hP hD hS dX6_isPin_20
theorem hdX6_areUnlikePins : yX6_areUnlikePins.cls = RX6 ∧ yX6_areUnlikePins.cls ≠ "java/lang/invoke/MethodHandle" ∧ yX6_areUnlikePins.cls ≠ "java/lang/invoke/VarHandle" ∧ (parseMethodDescriptor yX6_areUnlikePins.desc).map (fun d => d.parameters.length) = some 2 := by decide +kernel
noncomputable def FX6_areUnlikePins (p1 p2 : Int32) (fr_pins : Int32) : Option (Int32) := ((FX6_isPin p1 fr_pins).bind (fun r1 => (if r1 = 0 then (some 0) else ((FX6_isPin p2 fr_pins).bind (fun r3 => (if r3 = 0 then (some 0) else (if p1 = p2 then (some 0) else (some 1))))))))
set_option maxHeartbeats 4000000 in
set_option maxRecDepth 100000 in
theorem c_X6_areUnlikePins (l : Launch) (D : va_G) (cI cZ cS : ClassId) (a0 a1 a2 a3 a4 a5 a6 a7 a8 a9 : Nat) (v_isKept fr_pins fr_bars : Int32) (fr_names fr_lesser fr_greater : Nat → Int32) (p1 p2 : Int32) (u : Int32) (hF : FX6_areUnlikePins p1 p2 fr_pins = some u) : MCi l D (tyL cI cZ cS) yX6_areUnlikePins cX6_areUnlikePins 3 (some .boolean) 1 21 [.ref a0, .int p1, .int p2] (wX6 a0 a1 a2 a3 a4 a5 a6 v_isKept ++ wX0 cI a1 a7 a8 a9 fr_pins fr_bars fr_names fr_lesser fr_greater) (wX6 a0 a1 a2 a3 a4 a5 a6 v_isKept ++ wX0 cI a1 a7 a8 a9 fr_pins fr_bars fr_names fr_lesser fr_greater) u := by
  refine MCz.mk (by decide) (Nat.le_of_ble_eq_true rfl) ?_
  intro p e s m args below meth c A ls Q h0 hP hD hA hS hl hfin0
  have hfin : ∀ (u' : Int32), u' = u → ∀ (H : Heap) (locs : List Loc) (ls : Array Slot) (pc : Nat), (u' = 0 ∨ u' = 1) → va_P D vwCl (wX6 a0 a1 a2 a3 a4 a5 a6 v_isKept ++ wX0 cI a1 a7 a8 a9 fr_pins fr_bars fr_names fr_lesser fr_greater) H → va_D A (wX6 a0 a1 a2 a3 a4 a5 a6 v_isKept ++ wX0 cI a1 a7 a8 a9 fr_pins fr_bars fr_names fr_lesser fr_greater) → va_S A s.heap H locs → decode cX6_areUnlikePins pc = .ok (.ireturn, 1) → W p l e (uR 1 21) s m args below meth c H locs 0 0 Q (F0 m pc ls [.int u']) := by intro u' hu; subst hu; exact hfin0
  clear hfin0
  obtain ⟨hx, hb, hr, hlk, hml, hown, hts, hK⟩ := id h0
  have hl : lv_has ls 3 [(0, .ref a0), (1, .int p1), (2, .int p2)] := hl
  have E := hF
  refine lv_aload_n hx hb dX6_areUnlikePins_0 rfl (lv_at hl 0 rfl) ?_
  refine lv_iload_n hx hb dX6_areUnlikePins_1 rfl (lv_at hl 1 rfl) ?_
  obtain ⟨r1, hF, E⟩ := bn_e E
  refine callVfi (wo := (wX6 a0 a1 a2 a3 a4 a5 a6 v_isKept ++ wX0 cI a1 a7 a8 a9 fr_pins fr_bars fr_names fr_lesser fr_greater)) h0 (c_X6_isPin l D cI cZ cS a0 a1 a2 a3 a4 a5 a6 a7 a8 a9 v_isKept fr_pins fr_bars fr_names fr_lesser fr_greater p1 r1 hF) (gV wq_276 wq_278 wp_5 wq_1 wq_279) hdX6_isPin ⟨Nat.le_of_ble_eq_true rfl, Nat.le_of_ble_eq_true rfl⟩ ⟨Nat.le_refl _, Nat.le_refl _⟩ hP hD hS hA 0 6 rfl rfl rfl hl.1 rfl (Nat.le_of_ble_eq_true rfl) dX6_areUnlikePins_2 (fun H locs hP hD hS => ?_)
  refine lv_if_eq (tgt := 25) hx hb dX6_areUnlikePins_5 (by decide) (fun c2 => ?_) (fun c2 => ?_)
  · have E := br_p E c2
    refine lv_iconst (v := 0) hx hb dX6_areUnlikePins_25 (by decide) ?_
    exact hfin _ (Option.some.inj E) _ _ _ _ (Or.inl rfl) hP hD hS dX6_areUnlikePins_26
  · have E := br_n E c2
    refine lv_aload_n hx hb dX6_areUnlikePins_8 rfl (lv_at hl 0 rfl) ?_
    refine lv_iload_n hx hb dX6_areUnlikePins_9 rfl (lv_at hl 2 rfl) ?_
    obtain ⟨r3, hF, E⟩ := bn_e E
    refine callVfi (wo := (wX6 a0 a1 a2 a3 a4 a5 a6 v_isKept ++ wX0 cI a1 a7 a8 a9 fr_pins fr_bars fr_names fr_lesser fr_greater)) h0 (c_X6_isPin l D cI cZ cS a0 a1 a2 a3 a4 a5 a6 a7 a8 a9 v_isKept fr_pins fr_bars fr_names fr_lesser fr_greater p2 r3 hF) (gV wq_276 wq_278 wp_5 wq_1 wq_279) hdX6_isPin ⟨Nat.le_of_ble_eq_true rfl, Nat.le_of_ble_eq_true rfl⟩ ⟨Nat.le_refl _, Nat.le_refl _⟩ hP hD hS hA 0 6 rfl rfl rfl hl.1 rfl (Nat.le_of_ble_eq_true rfl) dX6_areUnlikePins_10 (fun H locs hP hD hS => ?_)
    refine lv_if_eq (tgt := 25) hx hb dX6_areUnlikePins_13 (by decide) (fun c4 => ?_) (fun c4 => ?_)
    · have E := br_p E c4
      refine lv_iconst (v := 0) hx hb dX6_areUnlikePins_25 (by decide) ?_
      exact hfin _ (Option.some.inj E) _ _ _ _ (Or.inl rfl) hP hD hS dX6_areUnlikePins_26
    · have E := br_n E c4
      refine lv_iload_n hx hb dX6_areUnlikePins_16 rfl (lv_at hl 1 rfl) ?_
      refine lv_iload_n hx hb dX6_areUnlikePins_17 rfl (lv_at hl 2 rfl) ?_
      refine lv_icmp_eq (tgt := 25) hx hb dX6_areUnlikePins_18 (by decide) (fun c5 => ?_) (fun c5 => ?_)
      · have E := br_p E c5
        refine lv_iconst (v := 0) hx hb dX6_areUnlikePins_25 (by decide) ?_
        exact hfin _ (Option.some.inj E) _ _ _ _ (Or.inl rfl) hP hD hS dX6_areUnlikePins_26
      · have E := br_n E c5
        refine lv_iconst (v := 1) hx hb dX6_areUnlikePins_21 (by decide) ?_
        refine lv_goto (tgt := 26) hx hb dX6_areUnlikePins_22 (by decide) ?_
        exact hfin _ (Option.some.inj E) _ _ _ _ (Or.inr rfl) hP hD hS dX6_areUnlikePins_26
theorem hdX6_bar : yX6_bar.cls = RX6 ∧ yX6_bar.cls ≠ "java/lang/invoke/MethodHandle" ∧ yX6_bar.cls ≠ "java/lang/invoke/VarHandle" ∧ (parseMethodDescriptor yX6_bar.desc).map (fun d => d.parameters.length) = some 2 := by decide +kernel
noncomputable def FX6_bar (p1 p2 : Int32) (fr_pins fr_bars : Int32) (fr_lesser fr_greater : Nat → Int32) : Option (Int32 × Int32 × (Nat → Int32) × (Nat → Int32)) := ((FX6_areUnlikePins p1 p2 fr_pins).bind (fun r1 => (if r1 = 0 then (some ((-2), fr_bars, fr_lesser, fr_greater)) else ((FX0_placeOf p1 p2 fr_bars fr_lesser fr_greater).bind (fun r3 => (if r3 = (-1) then ((FX0_addBar p1 p2 fr_bars fr_lesser fr_greater).bind (fun r5 => (some (r5.1, r5.2.1, r5.2.2.1, r5.2.2.2)))) else (some ((-3), fr_bars, fr_lesser, fr_greater))))))))
set_option maxHeartbeats 4000000 in
set_option maxRecDepth 100000 in
theorem c_X6_bar (l : Launch) (D : va_G) (cI cZ cS : ClassId) (a0 a1 a2 a3 a4 a5 a6 a7 a8 a9 : Nat) (v_isKept fr_pins fr_bars : Int32) (fr_names fr_lesser fr_greater : Nat → Int32) (p1 p2 : Int32) (u : Int32 × Int32 × (Nat → Int32) × (Nat → Int32)) (hF : FX6_bar p1 p2 fr_pins fr_bars fr_lesser fr_greater = some u) : MCi l D (tyL cI cZ cS) yX6_bar cX6_bar 3 (some .int) 2 46 [.ref a0, .int p1, .int p2] (wX6 a0 a1 a2 a3 a4 a5 a6 v_isKept ++ wX0 cI a1 a7 a8 a9 fr_pins fr_bars fr_names fr_lesser fr_greater) (wX6 a0 a1 a2 a3 a4 a5 a6 v_isKept ++ wX0 cI a1 a7 a8 a9 fr_pins u.2.1 fr_names u.2.2.1 u.2.2.2) u.1 := by
  refine MCi.mk (by decide) (Nat.le_of_ble_eq_true rfl) ?_
  intro p e s m args below meth c A ls Q h0 hP hD hA hS hl hfin0
  have hfin : ∀ (u' : Int32 × Int32 × (Nat → Int32) × (Nat → Int32)), u' = u → ∀ (H : Heap) (locs : List Loc) (ls : Array Slot) (pc : Nat), va_P D vwCl (wX6 a0 a1 a2 a3 a4 a5 a6 v_isKept ++ wX0 cI a1 a7 a8 a9 fr_pins u'.2.1 fr_names u'.2.2.1 u'.2.2.2) H → va_D A (wX6 a0 a1 a2 a3 a4 a5 a6 v_isKept ++ wX0 cI a1 a7 a8 a9 fr_pins u'.2.1 fr_names u'.2.2.1 u'.2.2.2) → va_S A s.heap H locs → decode cX6_bar pc = .ok (.ireturn, 1) → W p l e (uR 2 46) s m args below meth c H locs 0 0 Q (F0 m pc ls [.int u'.1]) := by intro u' hu; subst hu; exact hfin0
  clear hfin0
  obtain ⟨hx, hb, hr, hlk, hml, hown, hts, hK⟩ := id h0
  have hl : lv_has ls 3 [(0, .ref a0), (1, .int p1), (2, .int p2)] := hl
  have E := hF
  refine lv_aload_n hx hb dX6_bar_0 rfl (lv_at hl 0 rfl) ?_
  refine lv_iload_n hx hb dX6_bar_1 rfl (lv_at hl 1 rfl) ?_
  refine lv_iload_n hx hb dX6_bar_2 rfl (lv_at hl 2 rfl) ?_
  obtain ⟨r1, hF, E⟩ := bn_e E
  refine callVfi (wo := (wX6 a0 a1 a2 a3 a4 a5 a6 v_isKept ++ wX0 cI a1 a7 a8 a9 fr_pins fr_bars fr_names fr_lesser fr_greater)) h0 (c_X6_areUnlikePins l D cI cZ cS a0 a1 a2 a3 a4 a5 a6 a7 a8 a9 v_isKept fr_pins fr_bars fr_names fr_lesser fr_greater p1 p2 r1 hF) (gV wq_272 wq_274 wp_4 wq_1 wq_275) hdX6_areUnlikePins ⟨Nat.le_of_ble_eq_true rfl, Nat.le_of_ble_eq_true rfl⟩ ⟨Nat.le_refl _, Nat.le_refl _⟩ hP hD hS hA 0 6 rfl rfl rfl hl.1 rfl (Nat.le_of_ble_eq_true rfl) dX6_bar_3 (fun H locs hP hD hS => ?_)
  refine lv_if_ne (tgt := 12) hx hb dX6_bar_6 (by decide) (fun c2 => ?_) (fun c2 => ?_)
  · have E := br_n E c2
    refine lv_aload_n hx hb dX6_bar_12 rfl (lv_at hl 0 rfl) ?_
    refine gf_X6_10 h0 hP 0 rfl rfl dX6_bar_13 ?_
    refine lv_iload_n hx hb dX6_bar_16 rfl (lv_at hl 1 rfl) ?_
    refine lv_iload_n hx hb dX6_bar_17 rfl (lv_at hl 2 rfl) ?_
    obtain ⟨r3, hF, E⟩ := bn_e E
    refine callVi (wo := (wX6 a0 a1 a2 a3 a4 a5 a6 v_isKept ++ wX0 cI a1 a7 a8 a9 fr_pins fr_bars fr_names fr_lesser fr_greater)) h0 (c_X0_placeOf l D cI cZ cS a1 a7 a8 a9 fr_pins fr_bars fr_names fr_lesser fr_greater p1 p2 r3 hF) (gV wq_280 wq_281 wq_282 wq_2 wq_283) hdX0_placeOf ⟨Nat.le_of_ble_eq_true rfl, Nat.le_of_ble_eq_true rfl⟩ ⟨Nat.le_refl _, Nat.le_refl _⟩ hP hD hS hA 0 0 rfl rfl rfl [1, 2, 3, 4] rfl rfl rfl rfl hl.1 rfl (Nat.le_of_ble_eq_true rfl) dX6_bar_18 (fun H locs hP hD hS => ?_)
    refine lv_iconst (v := (-1)) hx hb dX6_bar_21 (by decide) ?_
    refine lv_icmp_eq (tgt := 28) hx hb dX6_bar_22 (by decide) (fun c4 => ?_) (fun c4 => ?_)
    · have E := br_p E c4
      refine lv_aload_n hx hb dX6_bar_28 rfl (lv_at hl 0 rfl) ?_
      refine gf_X6_10 h0 hP 0 rfl rfl dX6_bar_29 ?_
      refine lv_iload_n hx hb dX6_bar_32 rfl (lv_at hl 1 rfl) ?_
      refine lv_iload_n hx hb dX6_bar_33 rfl (lv_at hl 2 rfl) ?_
      obtain ⟨r5, hF, E⟩ := bn_e E
      refine callVi (wo := (wX6 a0 a1 a2 a3 a4 a5 a6 v_isKept ++ wX0 cI a1 a7 a8 a9 fr_pins r5.2.1 fr_names r5.2.2.1 r5.2.2.2)) h0 (c_X0_addBar l D cI cZ cS a1 a7 a8 a9 fr_pins fr_bars fr_names fr_lesser fr_greater p1 p2 r5 hF) (gV wq_290 wq_291 wq_292 wq_2 wq_293) hdX0_addBar ⟨Nat.le_of_ble_eq_true rfl, Nat.le_of_ble_eq_true rfl⟩ ⟨Nat.le_refl _, Nat.le_refl _⟩ hP hD hS hA 0 0 rfl rfl rfl [1, 2, 3, 4] rfl rfl rfl rfl hl.1 rfl (Nat.le_of_ble_eq_true rfl) dX6_bar_34 (fun H locs hP hD hS => ?_)
      exact hfin _ (Option.some.inj E) _ _ _ _ hP hD hS dX6_bar_37
    · have E := br_n E c4
      refine lv_bipush (v := (-3)) hx hb dX6_bar_25 (by decide) ?_
      exact hfin _ (Option.some.inj E) _ _ _ _ hP hD hS dX6_bar_27
  · have E := br_p E c2
    refine lv_bipush (v := (-2)) hx hb dX6_bar_9 (by decide) ?_
    exact hfin _ (Option.some.inj E) _ _ _ _ hP hD hS dX6_bar_11
theorem hdX6_off : yX6_off.cls = RX6 ∧ yX6_off.cls ≠ "java/lang/invoke/MethodHandle" ∧ yX6_off.cls ≠ "java/lang/invoke/VarHandle" ∧ (parseMethodDescriptor yX6_off.desc).map (fun d => d.parameters.length) = some 2 := by decide +kernel
noncomputable def FX6_off (p1 p2 : Int32) (fr_pins fr_bars : Int32) (fr_lesser fr_greater : Nat → Int32) : Option (Int32 × Int32 × (Nat → Int32) × (Nat → Int32)) := ((FX6_areUnlikePins p1 p2 fr_pins).bind (fun r1 => (if r1 = 0 then (some ((-2), fr_bars, fr_lesser, fr_greater)) else ((FX0_placeOf p1 p2 fr_bars fr_lesser fr_greater).bind (fun r3 => (if r3 = (-1) then (some ((-3), fr_bars, fr_lesser, fr_greater)) else ((FX0_dropBar r3 fr_bars fr_lesser fr_greater).bind (fun r5 => (some (r3, r5.1, r5.2.1, r5.2.2))))))))))
set_option maxHeartbeats 4000000 in
set_option maxRecDepth 100000 in
theorem c_X6_off (l : Launch) (D : va_G) (cI cZ cS : ClassId) (a0 a1 a2 a3 a4 a5 a6 a7 a8 a9 : Nat) (v_isKept fr_pins fr_bars : Int32) (fr_names fr_lesser fr_greater : Nat → Int32) (p1 p2 : Int32) (u : Int32 × Int32 × (Nat → Int32) × (Nat → Int32)) (hF : FX6_off p1 p2 fr_pins fr_bars fr_lesser fr_greater = some u) : MCi l D (tyL cI cZ cS) yX6_off cX6_off 4 (some .int) 2 46 [.ref a0, .int p1, .int p2] (wX6 a0 a1 a2 a3 a4 a5 a6 v_isKept ++ wX0 cI a1 a7 a8 a9 fr_pins fr_bars fr_names fr_lesser fr_greater) (wX6 a0 a1 a2 a3 a4 a5 a6 v_isKept ++ wX0 cI a1 a7 a8 a9 fr_pins u.2.1 fr_names u.2.2.1 u.2.2.2) u.1 := by
  refine MCi.mk (by decide) (Nat.le_of_ble_eq_true rfl) ?_
  intro p e s m args below meth c A ls Q h0 hP hD hA hS hl hfin0
  have hfin : ∀ (u' : Int32 × Int32 × (Nat → Int32) × (Nat → Int32)), u' = u → ∀ (H : Heap) (locs : List Loc) (ls : Array Slot) (pc : Nat), va_P D vwCl (wX6 a0 a1 a2 a3 a4 a5 a6 v_isKept ++ wX0 cI a1 a7 a8 a9 fr_pins u'.2.1 fr_names u'.2.2.1 u'.2.2.2) H → va_D A (wX6 a0 a1 a2 a3 a4 a5 a6 v_isKept ++ wX0 cI a1 a7 a8 a9 fr_pins u'.2.1 fr_names u'.2.2.1 u'.2.2.2) → va_S A s.heap H locs → decode cX6_off pc = .ok (.ireturn, 1) → W p l e (uR 2 46) s m args below meth c H locs 0 0 Q (F0 m pc ls [.int u'.1]) := by intro u' hu; subst hu; exact hfin0
  clear hfin0
  obtain ⟨hx, hb, hr, hlk, hml, hown, hts, hK⟩ := id h0
  have hl : lv_has ls 4 [(0, .ref a0), (1, .int p1), (2, .int p2)] := hl
  have E := hF
  refine lv_aload_n hx hb dX6_off_0 rfl (lv_at hl 0 rfl) ?_
  refine lv_iload_n hx hb dX6_off_1 rfl (lv_at hl 1 rfl) ?_
  refine lv_iload_n hx hb dX6_off_2 rfl (lv_at hl 2 rfl) ?_
  obtain ⟨r1, hF, E⟩ := bn_e E
  refine callVfi (wo := (wX6 a0 a1 a2 a3 a4 a5 a6 v_isKept ++ wX0 cI a1 a7 a8 a9 fr_pins fr_bars fr_names fr_lesser fr_greater)) h0 (c_X6_areUnlikePins l D cI cZ cS a0 a1 a2 a3 a4 a5 a6 a7 a8 a9 v_isKept fr_pins fr_bars fr_names fr_lesser fr_greater p1 p2 r1 hF) (gV wq_272 wq_274 wp_4 wq_1 wq_275) hdX6_areUnlikePins ⟨Nat.le_of_ble_eq_true rfl, Nat.le_of_ble_eq_true rfl⟩ ⟨Nat.le_refl _, Nat.le_refl _⟩ hP hD hS hA 0 6 rfl rfl rfl hl.1 rfl (Nat.le_of_ble_eq_true rfl) dX6_off_3 (fun H locs hP hD hS => ?_)
  refine lv_if_ne (tgt := 12) hx hb dX6_off_6 (by decide) (fun c2 => ?_) (fun c2 => ?_)
  · have E := br_n E c2
    refine lv_aload_n hx hb dX6_off_12 rfl (lv_at hl 0 rfl) ?_
    refine gf_X6_10 h0 hP 0 rfl rfl dX6_off_13 ?_
    refine lv_iload_n hx hb dX6_off_16 rfl (lv_at hl 1 rfl) ?_
    refine lv_iload_n hx hb dX6_off_17 rfl (lv_at hl 2 rfl) ?_
    obtain ⟨r3, hF, E⟩ := bn_e E
    refine callVi (wo := (wX6 a0 a1 a2 a3 a4 a5 a6 v_isKept ++ wX0 cI a1 a7 a8 a9 fr_pins fr_bars fr_names fr_lesser fr_greater)) h0 (c_X0_placeOf l D cI cZ cS a1 a7 a8 a9 fr_pins fr_bars fr_names fr_lesser fr_greater p1 p2 r3 hF) (gV wq_280 wq_281 wq_282 wq_2 wq_283) hdX0_placeOf ⟨Nat.le_of_ble_eq_true rfl, Nat.le_of_ble_eq_true rfl⟩ ⟨Nat.le_refl _, Nat.le_refl _⟩ hP hD hS hA 0 0 rfl rfl rfl [1, 2, 3, 4] rfl rfl rfl rfl hl.1 rfl (Nat.le_of_ble_eq_true rfl) dX6_off_18 (fun H locs hP hD hS => ?_)
    refine lv_istore_n (lv' := [(3, .int r3), (0, .ref a0), (1, .int p1), (2, .int p2)]) hx hb dX6_off_21 rfl hl (by decide) rfl (fun ls hl => ?_)
    refine lv_iload_n hx hb dX6_off_22 rfl (lv_at hl 0 rfl) ?_
    refine lv_iconst (v := (-1)) hx hb dX6_off_23 (by decide) ?_
    refine lv_icmp_ne (tgt := 30) hx hb dX6_off_24 (by decide) (fun c4 => ?_) (fun c4 => ?_)
    · have E := br_n E c4
      refine lv_aload_n hx hb dX6_off_30 rfl (lv_at hl 1 rfl) ?_
      refine gf_X6_10 h0 hP 0 rfl rfl dX6_off_31 ?_
      refine lv_iload_n hx hb dX6_off_34 rfl (lv_at hl 0 rfl) ?_
      obtain ⟨r5, hF, E⟩ := bn_e E
      refine callVv (wo := (wX6 a0 a1 a2 a3 a4 a5 a6 v_isKept ++ wX0 cI a1 a7 a8 a9 fr_pins r5.1 fr_names r5.2.1 r5.2.2)) h0 (c_X0_dropBar l D cI cZ cS a1 a7 a8 a9 fr_pins fr_bars fr_names fr_lesser fr_greater r3 r5 hF) (gV wq_298 wq_299 wq_300 wq_2 wq_301) hdX0_dropBar ⟨Nat.le_of_ble_eq_true rfl, Nat.le_of_ble_eq_true rfl⟩ ⟨Nat.le_refl _, Nat.le_refl _⟩ hP hD hS hA 0 0 rfl rfl rfl [1, 2, 3, 4] rfl rfl rfl rfl hl.1 rfl (Nat.le_of_ble_eq_true rfl) dX6_off_35 (fun H locs hP hD hS => ?_)
      refine lv_iload_n hx hb dX6_off_38 rfl (lv_at hl 0 rfl) ?_
      exact hfin _ (Option.some.inj E) _ _ _ _ hP hD hS dX6_off_39
    · have E := br_p E c4
      refine lv_bipush (v := (-3)) hx hb dX6_off_27 (by decide) ?_
      exact hfin _ (Option.some.inj E) _ _ _ _ hP hD hS dX6_off_29
  · have E := br_p E c2
    refine lv_bipush (v := (-2)) hx hb dX6_off_9 (by decide) ?_
    exact hfin _ (Option.some.inj E) _ _ _ _ hP hD hS dX6_off_11
theorem hdX6_doneAsBar : yX6_doneAsBar.cls = RX6 ∧ yX6_doneAsBar.cls ≠ "java/lang/invoke/MethodHandle" ∧ yX6_doneAsBar.cls ≠ "java/lang/invoke/VarHandle" ∧ (parseMethodDescriptor yX6_doneAsBar.desc).map (fun d => d.parameters.length) = some 1 := by decide +kernel
noncomputable def FX6_doneAsBar_b50 (p1 fr_pins : Int32) (fr_names tp_bytes : Nat → Int32) (tp_size : Int32)  (fr_bars : Int32) (fr_lesser fr_greater : Nat → Int32) (tp_start tp_behind : Int32) : Option (Int32 × Int32 × (Nat → Int32) × (Nat → Int32) × Int32 × Int32) := ((FX6_faultHere tp_start).bind (fun r1 => (some (r1, fr_bars, fr_lesser, fr_greater, tp_start, tp_behind))))
noncomputable def FX6_doneAsBar (p1 : Int32) (fr_pins fr_bars : Int32) (fr_names fr_lesser fr_greater tp_bytes : Nat → Int32) (tp_size tp_start tp_behind : Int32) : Option (Int32 × Int32 × (Nat → Int32) × (Nat → Int32) × Int32 × Int32) := ((FX5_nextWord tp_bytes tp_size tp_start tp_behind).bind (fun r2 => ((FX0_pinOfName r2.1 fr_pins fr_names).bind (fun r3 => (if r3 = (-1) then ((FX6_faultHere r2.2.1).bind (fun r15 => (some (r15, fr_bars, fr_lesser, fr_greater, r2.2.1, r2.2.2)))) else ((FX5_nextWord tp_bytes tp_size r2.2.1 r2.2.2).bind (fun r5 => ((FX0_pinOfName r5.1 fr_pins fr_names).bind (fun r6 => (if r6 = (-1) then (FX6_doneAsBar_b50 p1 fr_pins fr_names tp_bytes tp_size  fr_bars fr_lesser fr_greater r5.2.1 r5.2.2) else (if r6 = r3 then (FX6_doneAsBar_b50 p1 fr_pins fr_names tp_bytes tp_size  fr_bars fr_lesser fr_greater r5.2.1 r5.2.2) else ((FX5_endsNext tp_bytes tp_size r5.2.1 r5.2.2).bind (fun r9 => (if r9.1 = 0 then ((FX6_faultHere r9.2.1).bind (fun r14 => (some (r14, fr_bars, fr_lesser, fr_greater, r9.2.1, r9.2.2)))) else (if p1 = 0 then ((FX6_off r3 r6 fr_pins fr_bars fr_lesser fr_greater).bind (fun r12 => (some (r12.1, r12.2.1, r12.2.2.1, r12.2.2.2, r9.2.1, r9.2.2)))) else ((FX6_bar r3 r6 fr_pins fr_bars fr_lesser fr_greater).bind (fun r13 => (some (r13.1, r13.2.1, r13.2.2.1, r13.2.2.2, r9.2.1, r9.2.2)))))))))))))))))))
set_option maxHeartbeats 4000000 in
set_option maxRecDepth 100000 in
theorem c_X6_doneAsBar (l : Launch) (D : va_G) (cI cZ cS : ClassId) (a0 a1 a2 a3 a4 a5 a6 a7 a8 a9 a10 : Nat) (v_isKept fr_pins fr_bars : Int32) (fr_names fr_lesser fr_greater tp_bytes : Nat → Int32) (tp_size tp_start tp_behind : Int32) (p1 : Int32) (u : Int32 × Int32 × (Nat → Int32) × (Nat → Int32) × Int32 × Int32) (hF : FX6_doneAsBar p1 fr_pins fr_bars fr_names fr_lesser fr_greater tp_bytes tp_size tp_start tp_behind = some u) : MCi l D (tyL cI cZ cS) yX6_doneAsBar cX6_doneAsBar 4 (some .int) 3 69 [.ref a0, .int p1] (wX6 a0 a1 a2 a3 a4 a5 a6 v_isKept ++ wX0 cI a1 a7 a8 a9 fr_pins fr_bars fr_names fr_lesser fr_greater ++ wX5 cI a3 a10 tp_bytes tp_size tp_start tp_behind) (wX6 a0 a1 a2 a3 a4 a5 a6 v_isKept ++ wX0 cI a1 a7 a8 a9 fr_pins u.2.1 fr_names u.2.2.1 u.2.2.2.1 ++ wX5 cI a3 a10 tp_bytes tp_size u.2.2.2.2.1 u.2.2.2.2.2) u.1 := by
  refine MCi.mk (by decide) (Nat.le_of_ble_eq_true rfl) ?_
  intro p e s m args below meth c A ls Q h0 hP hD hA hS hl hfin0
  have hfin : ∀ (u' : Int32 × Int32 × (Nat → Int32) × (Nat → Int32) × Int32 × Int32), u' = u → ∀ (H : Heap) (locs : List Loc) (ls : Array Slot) (pc : Nat), va_P D vwCl (wX6 a0 a1 a2 a3 a4 a5 a6 v_isKept ++ wX0 cI a1 a7 a8 a9 fr_pins u'.2.1 fr_names u'.2.2.1 u'.2.2.2.1 ++ wX5 cI a3 a10 tp_bytes tp_size u'.2.2.2.2.1 u'.2.2.2.2.2) H → va_D A (wX6 a0 a1 a2 a3 a4 a5 a6 v_isKept ++ wX0 cI a1 a7 a8 a9 fr_pins u'.2.1 fr_names u'.2.2.1 u'.2.2.2.1 ++ wX5 cI a3 a10 tp_bytes tp_size u'.2.2.2.2.1 u'.2.2.2.2.2) → va_S A s.heap H locs → decode cX6_doneAsBar pc = .ok (.ireturn, 1) → W p l e (uR 3 69) s m args below meth c H locs 0 0 Q (F0 m pc ls [.int u'.1]) := by intro u' hu; subst hu; exact hfin0
  clear hfin0
  obtain ⟨hx, hb, hr, hlk, hml, hown, hts, hK⟩ := id h0
  have hl : lv_has ls 4 [(0, .ref a0), (1, .int p1)] := hl
  have E := hF
  have J50 : ∀ (fr_bars : Int32) (fr_lesser fr_greater : Nat → Int32) (tp_start tp_behind : Int32) (H : Heap) (locs : List Loc) (ls : Array Slot), FX6_doneAsBar_b50 p1 fr_pins fr_names tp_bytes tp_size  fr_bars fr_lesser fr_greater tp_start tp_behind = some u → va_P D vwCl (wX6 a0 a1 a2 a3 a4 a5 a6 v_isKept ++ wX0 cI a1 a7 a8 a9 fr_pins fr_bars fr_names fr_lesser fr_greater ++ wX5 cI a3 a10 tp_bytes tp_size tp_start tp_behind) H → va_D A (wX6 a0 a1 a2 a3 a4 a5 a6 v_isKept ++ wX0 cI a1 a7 a8 a9 fr_pins fr_bars fr_names fr_lesser fr_greater ++ wX5 cI a3 a10 tp_bytes tp_size tp_start tp_behind) → va_S A s.heap H locs → lv_has ls 4 [(0, .ref a0)] → W p l e (uR 3 69) s m args below meth c H locs 0 0 Q (F0 m 50 ls []) := by
    intro fr_bars fr_lesser fr_greater tp_start tp_behind H locs ls E hP hD hS hl
    refine lv_aload_n hx hb dX6_doneAsBar_50 rfl (lv_at hl 0 rfl) ?_
    obtain ⟨r1, hF, E⟩ := bn_e E
    refine callVi (wo := (wX6 a0 a1 a2 a3 a4 a5 a6 v_isKept ++ wX0 cI a1 a7 a8 a9 fr_pins fr_bars fr_names fr_lesser fr_greater ++ wX5 cI a3 a10 tp_bytes tp_size tp_start tp_behind)) h0 (c_X6_faultHere l D cI cZ cS a0 a1 a2 a3 a4 a5 a6 a10 v_isKept tp_bytes tp_size tp_start tp_behind r1 hF) (gV wq_252 wq_254 wp_2 wq_1 wq_255) hdX6_faultHere ⟨Nat.le_of_ble_eq_true rfl, Nat.le_of_ble_eq_true rfl⟩ ⟨Nat.le_refl _, Nat.le_refl _⟩ hP hD hS hA 0 6 rfl rfl rfl [0, 5, 6] rfl rfl rfl rfl hl.1 rfl (Nat.le_of_ble_eq_true rfl) dX6_doneAsBar_51 (fun H locs hP hD hS => ?_)
    exact hfin _ (Option.some.inj E) _ _ _ _ hP hD hS dX6_doneAsBar_54
  refine lv_aload_n hx hb dX6_doneAsBar_0 rfl (lv_at hl 0 rfl) ?_
  refine gf_X6_10 h0 hP 0 rfl rfl dX6_doneAsBar_1 ?_
  refine lv_aload_n hx hb dX6_doneAsBar_4 rfl (lv_at hl 0 rfl) ?_
  refine gf_X6_26 h0 hP 0 rfl rfl dX6_doneAsBar_5 ?_
  obtain ⟨r2, hF, E⟩ := bn_e E
  refine callVi (wo := (wX6 a0 a1 a2 a3 a4 a5 a6 v_isKept ++ wX0 cI a1 a7 a8 a9 fr_pins fr_bars fr_names fr_lesser fr_greater ++ wX5 cI a3 a10 tp_bytes tp_size r2.2.1 r2.2.2)) h0 (c_X5_nextWord l D cI cZ cS a3 a10 tp_bytes tp_size tp_start tp_behind r2 hF) (gV wq_242 wq_234 wq_235 wq_3 wq_236) hdX5_nextWord ⟨Nat.le_of_ble_eq_true rfl, Nat.le_of_ble_eq_true rfl⟩ ⟨Nat.le_refl _, Nat.le_refl _⟩ hP hD hS hA 0 5 rfl rfl rfl [5, 6] rfl rfl rfl rfl hl.1 rfl (Nat.le_of_ble_eq_true rfl) dX6_doneAsBar_8 (fun H locs hP hD hS => ?_)
  obtain ⟨r3, hF, E⟩ := bn_e E
  refine callVi (wo := (wX6 a0 a1 a2 a3 a4 a5 a6 v_isKept ++ wX0 cI a1 a7 a8 a9 fr_pins fr_bars fr_names fr_lesser fr_greater ++ wX5 cI a3 a10 tp_bytes tp_size r2.2.1 r2.2.2)) h0 (c_X0_pinOfName l D cI cZ cS a1 a7 a8 a9 fr_pins fr_bars fr_names fr_lesser fr_greater r2.1 r3 hF) (gV wq_248 wq_249 wq_250 wq_2 wq_251) hdX0_pinOfName ⟨Nat.le_of_ble_eq_true rfl, Nat.le_of_ble_eq_true rfl⟩ ⟨Nat.le_refl _, Nat.le_refl _⟩ hP hD hS hA 0 0 rfl rfl rfl [1, 2, 3, 4] rfl rfl rfl rfl hl.1 rfl (Nat.le_of_ble_eq_true rfl) dX6_doneAsBar_11 (fun H locs hP hD hS => ?_)
  refine lv_istore_n (lv' := [(2, .int r3), (0, .ref a0), (1, .int p1)]) hx hb dX6_doneAsBar_14 rfl hl (by decide) rfl (fun ls hl => ?_)
  refine lv_iload_n hx hb dX6_doneAsBar_15 rfl (lv_at hl 0 rfl) ?_
  refine lv_iconst (v := (-1)) hx hb dX6_doneAsBar_16 (by decide) ?_
  refine lv_icmp_ne (tgt := 25) hx hb dX6_doneAsBar_17 (by decide) (fun c4 => ?_) (fun c4 => ?_)
  · have E := br_n E c4
    refine lv_aload_n hx hb dX6_doneAsBar_25 rfl (lv_at hl 1 rfl) ?_
    refine gf_X6_10 h0 hP 0 rfl rfl dX6_doneAsBar_26 ?_
    refine lv_aload_n hx hb dX6_doneAsBar_29 rfl (lv_at hl 1 rfl) ?_
    refine gf_X6_26 h0 hP 0 rfl rfl dX6_doneAsBar_30 ?_
    obtain ⟨r5, hF, E⟩ := bn_e E
    refine callVi (wo := (wX6 a0 a1 a2 a3 a4 a5 a6 v_isKept ++ wX0 cI a1 a7 a8 a9 fr_pins fr_bars fr_names fr_lesser fr_greater ++ wX5 cI a3 a10 tp_bytes tp_size r5.2.1 r5.2.2)) h0 (c_X5_nextWord l D cI cZ cS a3 a10 tp_bytes tp_size r2.2.1 r2.2.2 r5 hF) (gV wq_242 wq_234 wq_235 wq_3 wq_236) hdX5_nextWord ⟨Nat.le_of_ble_eq_true rfl, Nat.le_of_ble_eq_true rfl⟩ ⟨Nat.le_refl _, Nat.le_refl _⟩ hP hD hS hA 0 5 rfl rfl rfl [5, 6] rfl rfl rfl rfl hl.1 rfl (Nat.le_of_ble_eq_true rfl) dX6_doneAsBar_33 (fun H locs hP hD hS => ?_)
    obtain ⟨r6, hF, E⟩ := bn_e E
    refine callVi (wo := (wX6 a0 a1 a2 a3 a4 a5 a6 v_isKept ++ wX0 cI a1 a7 a8 a9 fr_pins fr_bars fr_names fr_lesser fr_greater ++ wX5 cI a3 a10 tp_bytes tp_size r5.2.1 r5.2.2)) h0 (c_X0_pinOfName l D cI cZ cS a1 a7 a8 a9 fr_pins fr_bars fr_names fr_lesser fr_greater r5.1 r6 hF) (gV wq_248 wq_249 wq_250 wq_2 wq_251) hdX0_pinOfName ⟨Nat.le_of_ble_eq_true rfl, Nat.le_of_ble_eq_true rfl⟩ ⟨Nat.le_refl _, Nat.le_refl _⟩ hP hD hS hA 0 0 rfl rfl rfl [1, 2, 3, 4] rfl rfl rfl rfl hl.1 rfl (Nat.le_of_ble_eq_true rfl) dX6_doneAsBar_36 (fun H locs hP hD hS => ?_)
    refine lv_istore_n (lv' := [(3, .int r6), (2, .int r3), (0, .ref a0), (1, .int p1)]) hx hb dX6_doneAsBar_39 rfl hl (by decide) rfl (fun ls hl => ?_)
    refine lv_iload_n hx hb dX6_doneAsBar_40 rfl (lv_at hl 0 rfl) ?_
    refine lv_iconst (v := (-1)) hx hb dX6_doneAsBar_41 (by decide) ?_
    refine lv_icmp_eq (tgt := 50) hx hb dX6_doneAsBar_42 (by decide) (fun c7 => ?_) (fun c7 => ?_)
    · have E := br_p E c7
      exact J50 _ _ _ _ _ _ _ _ E hP hD hS (lv_sub hl [2] rfl)
    · have E := br_n E c7
      refine lv_iload_n hx hb dX6_doneAsBar_45 rfl (lv_at hl 0 rfl) ?_
      refine lv_iload_n hx hb dX6_doneAsBar_46 rfl (lv_at hl 1 rfl) ?_
      refine lv_icmp_ne (tgt := 55) hx hb dX6_doneAsBar_47 (by decide) (fun c8 => ?_) (fun c8 => ?_)
      · have E := br_n E c8
        refine lv_aload_n hx hb dX6_doneAsBar_55 rfl (lv_at hl 2 rfl) ?_
        refine gf_X6_26 h0 hP 0 rfl rfl dX6_doneAsBar_56 ?_
        obtain ⟨r9, hF, E⟩ := bn_e E
        refine callVi (wo := (wX6 a0 a1 a2 a3 a4 a5 a6 v_isKept ++ wX0 cI a1 a7 a8 a9 fr_pins fr_bars fr_names fr_lesser fr_greater ++ wX5 cI a3 a10 tp_bytes tp_size r9.2.1 r9.2.2)) h0 (c_X5_endsNext l D cI cZ cS a3 a10 tp_bytes tp_size r5.2.1 r5.2.2 r9 hF) (gV wq_256 wq_257 wq_258 wq_3 wq_259) hdX5_endsNext ⟨Nat.le_of_ble_eq_true rfl, Nat.le_of_ble_eq_true rfl⟩ ⟨Nat.le_refl _, Nat.le_refl _⟩ hP hD hS hA 0 5 rfl rfl rfl [5, 6] rfl rfl rfl rfl hl.1 rfl (Nat.le_of_ble_eq_true rfl) dX6_doneAsBar_59 (fun H locs hP hD hS => ?_)
        refine lv_if_ne (tgt := 70) hx hb dX6_doneAsBar_62 (by decide) (fun c10 => ?_) (fun c10 => ?_)
        · have E := br_n E c10
          refine lv_iload_n hx hb dX6_doneAsBar_70 rfl (lv_at hl 3 rfl) ?_
          refine lv_if_eq (tgt := 83) hx hb dX6_doneAsBar_71 (by decide) (fun c11 => ?_) (fun c11 => ?_)
          · have E := br_p E c11
            refine lv_aload_n hx hb dX6_doneAsBar_83 rfl (lv_at hl 2 rfl) ?_
            refine lv_iload_n hx hb dX6_doneAsBar_84 rfl (lv_at hl 1 rfl) ?_
            refine lv_iload_n hx hb dX6_doneAsBar_85 rfl (lv_at hl 0 rfl) ?_
            obtain ⟨r12, hF, E⟩ := bn_e E
            refine callVi (wo := (wX6 a0 a1 a2 a3 a4 a5 a6 v_isKept ++ wX0 cI a1 a7 a8 a9 fr_pins r12.2.1 fr_names r12.2.2.1 r12.2.2.2 ++ wX5 cI a3 a10 tp_bytes tp_size r9.2.1 r9.2.2)) h0 (c_X6_off l D cI cZ cS a0 a1 a2 a3 a4 a5 a6 a7 a8 a9 v_isKept fr_pins fr_bars fr_names fr_lesser fr_greater r3 r6 r12 hF) (gV wq_294 wq_295 wq_296 wq_1 wq_297) hdX6_off ⟨Nat.le_of_ble_eq_true rfl, Nat.le_of_ble_eq_true rfl⟩ ⟨Nat.le_refl _, Nat.le_refl _⟩ hP hD hS hA 0 6 rfl rfl rfl [0, 1, 2, 3, 4] rfl rfl rfl rfl hl.1 rfl (Nat.le_of_ble_eq_true rfl) dX6_doneAsBar_86 (fun H locs hP hD hS => ?_)
            exact hfin _ (Option.some.inj E) _ _ _ _ hP hD hS dX6_doneAsBar_89
          · have E := br_n E c11
            refine lv_aload_n hx hb dX6_doneAsBar_74 rfl (lv_at hl 2 rfl) ?_
            refine lv_iload_n hx hb dX6_doneAsBar_75 rfl (lv_at hl 1 rfl) ?_
            refine lv_iload_n hx hb dX6_doneAsBar_76 rfl (lv_at hl 0 rfl) ?_
            obtain ⟨r13, hF, E⟩ := bn_e E
            refine callVi (wo := (wX6 a0 a1 a2 a3 a4 a5 a6 v_isKept ++ wX0 cI a1 a7 a8 a9 fr_pins r13.2.1 fr_names r13.2.2.1 r13.2.2.2 ++ wX5 cI a3 a10 tp_bytes tp_size r9.2.1 r9.2.2)) h0 (c_X6_bar l D cI cZ cS a0 a1 a2 a3 a4 a5 a6 a7 a8 a9 v_isKept fr_pins fr_bars fr_names fr_lesser fr_greater r3 r6 r13 hF) (gV wq_268 wq_269 wq_270 wq_1 wq_271) hdX6_bar ⟨Nat.le_of_ble_eq_true rfl, Nat.le_of_ble_eq_true rfl⟩ ⟨Nat.le_refl _, Nat.le_refl _⟩ hP hD hS hA 0 6 rfl rfl rfl [0, 1, 2, 3, 4] rfl rfl rfl rfl hl.1 rfl (Nat.le_of_ble_eq_true rfl) dX6_doneAsBar_77 (fun H locs hP hD hS => ?_)
            refine lv_goto (tgt := 89) hx hb dX6_doneAsBar_80 (by decide) ?_
            exact hfin _ (Option.some.inj E) _ _ _ _ hP hD hS dX6_doneAsBar_89
        · have E := br_p E c10
          refine lv_aload_n hx hb dX6_doneAsBar_65 rfl (lv_at hl 2 rfl) ?_
          obtain ⟨r14, hF, E⟩ := bn_e E
          refine callVi (wo := (wX6 a0 a1 a2 a3 a4 a5 a6 v_isKept ++ wX0 cI a1 a7 a8 a9 fr_pins fr_bars fr_names fr_lesser fr_greater ++ wX5 cI a3 a10 tp_bytes tp_size r9.2.1 r9.2.2)) h0 (c_X6_faultHere l D cI cZ cS a0 a1 a2 a3 a4 a5 a6 a10 v_isKept tp_bytes tp_size r9.2.1 r9.2.2 r14 hF) (gV wq_252 wq_254 wp_2 wq_1 wq_255) hdX6_faultHere ⟨Nat.le_of_ble_eq_true rfl, Nat.le_of_ble_eq_true rfl⟩ ⟨Nat.le_refl _, Nat.le_refl _⟩ hP hD hS hA 0 6 rfl rfl rfl [0, 5, 6] rfl rfl rfl rfl hl.1 rfl (Nat.le_of_ble_eq_true rfl) dX6_doneAsBar_66 (fun H locs hP hD hS => ?_)
          exact hfin _ (Option.some.inj E) _ _ _ _ hP hD hS dX6_doneAsBar_69
      · have E := br_p E c8
        exact J50 _ _ _ _ _ _ _ _ E hP hD hS (lv_sub hl [2] rfl)
  · have E := br_p E c4
    refine lv_aload_n hx hb dX6_doneAsBar_20 rfl (lv_at hl 1 rfl) ?_
    obtain ⟨r15, hF, E⟩ := bn_e E
    refine callVi (wo := (wX6 a0 a1 a2 a3 a4 a5 a6 v_isKept ++ wX0 cI a1 a7 a8 a9 fr_pins fr_bars fr_names fr_lesser fr_greater ++ wX5 cI a3 a10 tp_bytes tp_size r2.2.1 r2.2.2)) h0 (c_X6_faultHere l D cI cZ cS a0 a1 a2 a3 a4 a5 a6 a10 v_isKept tp_bytes tp_size r2.2.1 r2.2.2 r15 hF) (gV wq_252 wq_254 wp_2 wq_1 wq_255) hdX6_faultHere ⟨Nat.le_of_ble_eq_true rfl, Nat.le_of_ble_eq_true rfl⟩ ⟨Nat.le_refl _, Nat.le_refl _⟩ hP hD hS hA 0 6 rfl rfl rfl [0, 5, 6] rfl rfl rfl rfl hl.1 rfl (Nat.le_of_ble_eq_true rfl) dX6_doneAsBar_21 (fun H locs hP hD hS => ?_)
    exact hfin _ (Option.some.inj E) _ _ _ _ hP hD hS dX6_doneAsBar_24
theorem hdX6_doneAsText : yX6_doneAsText.cls = RX6 ∧ yX6_doneAsText.cls ≠ "java/lang/invoke/MethodHandle" ∧ yX6_doneAsText.cls ≠ "java/lang/invoke/VarHandle" ∧ (parseMethodDescriptor yX6_doneAsText.desc).map (fun d => d.parameters.length) = some 0 := by decide +kernel
noncomputable def FX6_doneAsText_b46 (tp_bytes : Nat → Int32) (tp_size : Int32)  (t1 fr_pins fr_bars : Int32) (fr_names fr_lesser fr_greater : Nat → Int32) (tp_start tp_behind : Int32) : Option (Int32 × Int32 × Int32 × (Nat → Int32) × (Nat → Int32) × (Nat → Int32) × Int32 × Int32) := ((FX6_doneAsBar t1 fr_pins fr_bars fr_names fr_lesser fr_greater tp_bytes tp_size tp_start tp_behind).bind (fun r1 => (some (r1.1, fr_pins, r1.2.1, fr_names, r1.2.2.1, r1.2.2.2.1, r1.2.2.2.2.1, r1.2.2.2.2.2))))
noncomputable def FX6_doneAsText_b33 (tp_bytes : Nat → Int32) (tp_size : Int32)  (l1 fr_pins fr_bars : Int32) (fr_names fr_lesser fr_greater : Nat → Int32) (tp_start tp_behind : Int32) : Option (Int32 × Int32 × Int32 × (Nat → Int32) × (Nat → Int32) × (Nat → Int32) × Int32 × Int32) := (if l1 = 6447474 then (FX6_doneAsText_b46 tp_bytes tp_size  1 fr_pins fr_bars fr_names fr_lesser fr_greater tp_start tp_behind) else (FX6_doneAsText_b46 tp_bytes tp_size  0 fr_pins fr_bars fr_names fr_lesser fr_greater tp_start tp_behind))
noncomputable def FX6_doneAsText (fr_pins fr_bars : Int32) (fr_names fr_lesser fr_greater tp_bytes : Nat → Int32) (tp_size tp_start tp_behind : Int32) : Option (Int32 × Int32 × Int32 × (Nat → Int32) × (Nat → Int32) × (Nat → Int32) × Int32 × Int32) := ((FX5_firstWord tp_bytes tp_size tp_start tp_behind).bind (fun r3 => (if r3.1 = 7367022 then ((FX6_doneAsPin fr_pins fr_names tp_bytes tp_size r3.2.1 r3.2.2).bind (fun r8 => (some (r8.1, r8.2.1, fr_bars, r8.2.2.1, fr_lesser, fr_greater, r8.2.2.2.1, r8.2.2.2.2)))) else (if r3.1 = 6447474 then (FX6_doneAsText_b33 tp_bytes tp_size  r3.1 fr_pins fr_bars fr_names fr_lesser fr_greater r3.2.1 r3.2.2) else (if r3.1 = 7300710 then (FX6_doneAsText_b33 tp_bytes tp_size  r3.1 fr_pins fr_bars fr_names fr_lesser fr_greater r3.2.1 r3.2.2) else ((FX6_faultHere r3.2.1).bind (fun r7 => (some (r7, fr_pins, fr_bars, fr_names, fr_lesser, fr_greater, r3.2.1, r3.2.2)))))))))
set_option maxHeartbeats 4000000 in
set_option maxRecDepth 100000 in
theorem c_X6_doneAsText (l : Launch) (D : va_G) (cI cZ cS : ClassId) (a0 a1 a2 a3 a4 a5 a6 a7 a8 a9 a10 : Nat) (v_isKept fr_pins fr_bars : Int32) (fr_names fr_lesser fr_greater tp_bytes : Nat → Int32) (tp_size tp_start tp_behind : Int32)  (u : Int32 × Int32 × Int32 × (Nat → Int32) × (Nat → Int32) × (Nat → Int32) × Int32 × Int32) (hF : FX6_doneAsText fr_pins fr_bars fr_names fr_lesser fr_greater tp_bytes tp_size tp_start tp_behind = some u) : MCi l D (tyL cI cZ cS) yX6_doneAsText cX6_doneAsText 2 (some .int) 4 92 [.ref a0] (wX6 a0 a1 a2 a3 a4 a5 a6 v_isKept ++ wX0 cI a1 a7 a8 a9 fr_pins fr_bars fr_names fr_lesser fr_greater ++ wX5 cI a3 a10 tp_bytes tp_size tp_start tp_behind) (wX6 a0 a1 a2 a3 a4 a5 a6 v_isKept ++ wX0 cI a1 a7 a8 a9 u.2.1 u.2.2.1 u.2.2.2.1 u.2.2.2.2.1 u.2.2.2.2.2.1 ++ wX5 cI a3 a10 tp_bytes tp_size u.2.2.2.2.2.2.1 u.2.2.2.2.2.2.2) u.1 := by
  refine MCi.mk (by decide) (Nat.le_of_ble_eq_true rfl) ?_
  intro p e s m args below meth c A ls Q h0 hP hD hA hS hl hfin0
  have hfin : ∀ (u' : Int32 × Int32 × Int32 × (Nat → Int32) × (Nat → Int32) × (Nat → Int32) × Int32 × Int32), u' = u → ∀ (H : Heap) (locs : List Loc) (ls : Array Slot) (pc : Nat), va_P D vwCl (wX6 a0 a1 a2 a3 a4 a5 a6 v_isKept ++ wX0 cI a1 a7 a8 a9 u'.2.1 u'.2.2.1 u'.2.2.2.1 u'.2.2.2.2.1 u'.2.2.2.2.2.1 ++ wX5 cI a3 a10 tp_bytes tp_size u'.2.2.2.2.2.2.1 u'.2.2.2.2.2.2.2) H → va_D A (wX6 a0 a1 a2 a3 a4 a5 a6 v_isKept ++ wX0 cI a1 a7 a8 a9 u'.2.1 u'.2.2.1 u'.2.2.2.1 u'.2.2.2.2.1 u'.2.2.2.2.2.1 ++ wX5 cI a3 a10 tp_bytes tp_size u'.2.2.2.2.2.2.1 u'.2.2.2.2.2.2.2) → va_S A s.heap H locs → decode cX6_doneAsText pc = .ok (.ireturn, 1) → W p l e (uR 4 92) s m args below meth c H locs 0 0 Q (F0 m pc ls [.int u'.1]) := by intro u' hu; subst hu; exact hfin0
  clear hfin0
  obtain ⟨hx, hb, hr, hlk, hml, hown, hts, hK⟩ := id h0
  have hl : lv_has ls 2 [(0, .ref a0)] := hl
  have E := hF
  have J46 : ∀ (t1 fr_pins fr_bars : Int32) (fr_names fr_lesser fr_greater : Nat → Int32) (tp_start tp_behind : Int32) (H : Heap) (locs : List Loc) (ls : Array Slot), FX6_doneAsText_b46 tp_bytes tp_size  t1 fr_pins fr_bars fr_names fr_lesser fr_greater tp_start tp_behind = some u → va_P D vwCl (wX6 a0 a1 a2 a3 a4 a5 a6 v_isKept ++ wX0 cI a1 a7 a8 a9 fr_pins fr_bars fr_names fr_lesser fr_greater ++ wX5 cI a3 a10 tp_bytes tp_size tp_start tp_behind) H → va_D A (wX6 a0 a1 a2 a3 a4 a5 a6 v_isKept ++ wX0 cI a1 a7 a8 a9 fr_pins fr_bars fr_names fr_lesser fr_greater ++ wX5 cI a3 a10 tp_bytes tp_size tp_start tp_behind) → va_S A s.heap H locs → lv_has ls 2 [] → W p l e (uR 4 92) s m args below meth c H locs 0 0 Q (F0 m 46 ls [.int t1, .ref a0]) := by
    intro t1 fr_pins fr_bars fr_names fr_lesser fr_greater tp_start tp_behind H locs ls E hP hD hS hl
    obtain ⟨r1, hF, E⟩ := bn_e E
    refine callVfi (wo := (wX6 a0 a1 a2 a3 a4 a5 a6 v_isKept ++ wX0 cI a1 a7 a8 a9 fr_pins r1.2.1 fr_names r1.2.2.1 r1.2.2.2.1 ++ wX5 cI a3 a10 tp_bytes tp_size r1.2.2.2.2.1 r1.2.2.2.2.2)) h0 (c_X6_doneAsBar l D cI cZ cS a0 a1 a2 a3 a4 a5 a6 a7 a8 a9 a10 v_isKept fr_pins fr_bars fr_names fr_lesser fr_greater tp_bytes tp_size tp_start tp_behind t1 r1 hF) (gV wq_264 wq_266 wp_3 wq_1 wq_267) hdX6_doneAsBar ⟨Nat.le_of_ble_eq_true rfl, Nat.le_of_ble_eq_true rfl⟩ ⟨Nat.le_refl _, Nat.le_refl _⟩ hP hD hS hA 0 6 rfl rfl rfl hl.1 rfl (Nat.le_of_ble_eq_true rfl) dX6_doneAsText_46 (fun H locs hP hD hS => ?_)
    exact hfin _ (Option.some.inj E) _ _ _ _ hP hD hS dX6_doneAsText_49
  have J33 : ∀ (l1 fr_pins fr_bars : Int32) (fr_names fr_lesser fr_greater : Nat → Int32) (tp_start tp_behind : Int32) (H : Heap) (locs : List Loc) (ls : Array Slot), FX6_doneAsText_b33 tp_bytes tp_size  l1 fr_pins fr_bars fr_names fr_lesser fr_greater tp_start tp_behind = some u → va_P D vwCl (wX6 a0 a1 a2 a3 a4 a5 a6 v_isKept ++ wX0 cI a1 a7 a8 a9 fr_pins fr_bars fr_names fr_lesser fr_greater ++ wX5 cI a3 a10 tp_bytes tp_size tp_start tp_behind) H → va_D A (wX6 a0 a1 a2 a3 a4 a5 a6 v_isKept ++ wX0 cI a1 a7 a8 a9 fr_pins fr_bars fr_names fr_lesser fr_greater ++ wX5 cI a3 a10 tp_bytes tp_size tp_start tp_behind) → va_S A s.heap H locs → lv_has ls 2 [(0, .ref a0), (1, .int l1)] → W p l e (uR 4 92) s m args below meth c H locs 0 0 Q (F0 m 33 ls []) := by
    intro l1 fr_pins fr_bars fr_names fr_lesser fr_greater tp_start tp_behind H locs ls E hP hD hS hl
    refine lv_aload_n hx hb dX6_doneAsText_33 rfl (lv_at hl 0 rfl) ?_
    refine lv_iload_n hx hb dX6_doneAsText_34 rfl (lv_at hl 1 rfl) ?_
    refine lv_ldcw (v := 6447474) hx hb hown (hts _ wq_246) dX6_doneAsText_35 ?_
    refine lv_icmp_ne (tgt := 45) hx hb dX6_doneAsText_38 (by decide) (fun c2 => ?_) (fun c2 => ?_)
    · have E := br_n E c2
      refine lv_iconst (v := 0) hx hb dX6_doneAsText_45 (by decide) ?_
      exact J46 _ _ _ _ _ _ _ _ _ _ _ E hP hD hS (lv_sub hl [] rfl)
    · have E := br_p E c2
      refine lv_iconst (v := 1) hx hb dX6_doneAsText_41 (by decide) ?_
      refine lv_goto (tgt := 46) hx hb dX6_doneAsText_42 (by decide) ?_
      exact J46 _ _ _ _ _ _ _ _ _ _ _ E hP hD hS (lv_sub hl [] rfl)
  refine lv_aload_n hx hb dX6_doneAsText_0 rfl (lv_at hl 0 rfl) ?_
  refine gf_X6_26 h0 hP 0 rfl rfl dX6_doneAsText_1 ?_
  obtain ⟨r3, hF, E⟩ := bn_e E
  refine callVi (wo := (wX6 a0 a1 a2 a3 a4 a5 a6 v_isKept ++ wX0 cI a1 a7 a8 a9 fr_pins fr_bars fr_names fr_lesser fr_greater ++ wX5 cI a3 a10 tp_bytes tp_size r3.2.1 r3.2.2)) h0 (c_X5_firstWord l D cI cZ cS a3 a10 tp_bytes tp_size tp_start tp_behind r3 hF) (gV wq_229 wq_230 wq_231 wq_3 wq_232) hdX5_firstWord ⟨Nat.le_of_ble_eq_true rfl, Nat.le_of_ble_eq_true rfl⟩ ⟨Nat.le_refl _, Nat.le_refl _⟩ hP hD hS hA 0 5 rfl rfl rfl [5, 6] rfl rfl rfl rfl hl.1 rfl (Nat.le_of_ble_eq_true rfl) dX6_doneAsText_4 (fun H locs hP hD hS => ?_)
  refine lv_istore_n (lv' := [(1, .int r3.1), (0, .ref a0)]) hx hb dX6_doneAsText_7 rfl hl (by decide) rfl (fun ls hl => ?_)
  refine lv_iload_n hx hb dX6_doneAsText_8 rfl (lv_at hl 0 rfl) ?_
  refine lv_ldc (v := 7367022) hx hb hown (hts _ wq_237) dX6_doneAsText_9 ?_
  refine lv_icmp_ne (tgt := 19) hx hb dX6_doneAsText_11 (by decide) (fun c4 => ?_) (fun c4 => ?_)
  · have E := br_n E c4
    refine lv_iload_n hx hb dX6_doneAsText_19 rfl (lv_at hl 0 rfl) ?_
    refine lv_ldcw (v := 6447474) hx hb hown (hts _ wq_246) dX6_doneAsText_20 ?_
    refine lv_icmp_eq (tgt := 33) hx hb dX6_doneAsText_23 (by decide) (fun c5 => ?_) (fun c5 => ?_)
    · have E := br_p E c5
      exact J33 _ _ _ _ _ _ _ _ _ _ _ E hP hD hS (lv_sub hl [1, 0] rfl)
    · have E := br_n E c5
      refine lv_iload_n hx hb dX6_doneAsText_26 rfl (lv_at hl 0 rfl) ?_
      refine lv_ldcw (v := 7300710) hx hb hown (hts _ wq_247) dX6_doneAsText_27 ?_
      refine lv_icmp_ne (tgt := 50) hx hb dX6_doneAsText_30 (by decide) (fun c6 => ?_) (fun c6 => ?_)
      · have E := br_n E c6
        refine lv_aload_n hx hb dX6_doneAsText_50 rfl (lv_at hl 1 rfl) ?_
        obtain ⟨r7, hF, E⟩ := bn_e E
        refine callVi (wo := (wX6 a0 a1 a2 a3 a4 a5 a6 v_isKept ++ wX0 cI a1 a7 a8 a9 fr_pins fr_bars fr_names fr_lesser fr_greater ++ wX5 cI a3 a10 tp_bytes tp_size r3.2.1 r3.2.2)) h0 (c_X6_faultHere l D cI cZ cS a0 a1 a2 a3 a4 a5 a6 a10 v_isKept tp_bytes tp_size r3.2.1 r3.2.2 r7 hF) (gV wq_252 wq_254 wp_2 wq_1 wq_255) hdX6_faultHere ⟨Nat.le_of_ble_eq_true rfl, Nat.le_of_ble_eq_true rfl⟩ ⟨Nat.le_refl _, Nat.le_refl _⟩ hP hD hS hA 0 6 rfl rfl rfl [0, 5, 6] rfl rfl rfl rfl hl.1 rfl (Nat.le_of_ble_eq_true rfl) dX6_doneAsText_51 (fun H locs hP hD hS => ?_)
        exact hfin _ (Option.some.inj E) _ _ _ _ hP hD hS dX6_doneAsText_54
      · have E := br_p E c6
        exact J33 _ _ _ _ _ _ _ _ _ _ _ E hP hD hS (lv_sub hl [1, 0] rfl)
  · have E := br_p E c4
    refine lv_aload_n hx hb dX6_doneAsText_14 rfl (lv_at hl 1 rfl) ?_
    obtain ⟨r8, hF, E⟩ := bn_e E
    refine callVfi (wo := (wX6 a0 a1 a2 a3 a4 a5 a6 v_isKept ++ wX0 cI a1 a7 a8 a9 r8.2.1 fr_bars r8.2.2.1 fr_lesser fr_greater ++ wX5 cI a3 a10 tp_bytes tp_size r8.2.2.2.1 r8.2.2.2.2)) h0 (c_X6_doneAsPin l D cI cZ cS a0 a1 a2 a3 a4 a5 a6 a7 a8 a9 a10 v_isKept fr_pins fr_bars fr_names fr_lesser fr_greater tp_bytes tp_size r3.2.1 r3.2.2 r8 hF) (gV wq_238 wq_240 wp_1 wq_1 wq_241) hdX6_doneAsPin ⟨Nat.le_of_ble_eq_true rfl, Nat.le_of_ble_eq_true rfl⟩ ⟨Nat.le_refl _, Nat.le_refl _⟩ hP hD hS hA 0 6 rfl rfl rfl hl.1 rfl (Nat.le_of_ble_eq_true rfl) dX6_doneAsText_15 (fun H locs hP hD hS => ?_)
    exact hfin _ (Option.some.inj E) _ _ _ _ hP hD hS dX6_doneAsText_18
theorem hdX6_text : yX6_text.cls = RX6 ∧ yX6_text.cls ≠ "java/lang/invoke/MethodHandle" ∧ yX6_text.cls ≠ "java/lang/invoke/VarHandle" ∧ (parseMethodDescriptor yX6_text.desc).map (fun d => d.parameters.length) = some 0 := by decide +kernel
noncomputable def FX6_text (fr_pins fr_bars : Int32) (fr_names fr_lesser fr_greater tp_bytes : Nat → Int32) (tp_size tp_start tp_behind : Int32) : Option (Int32 × Int32 × Int32 × (Nat → Int32) × (Nat → Int32) × (Nat → Int32) × Int32 × Int32 × Int32) := ((FX6_doneAsText fr_pins fr_bars fr_names fr_lesser fr_greater tp_bytes tp_size tp_start tp_behind).bind (fun r1 => ((FX5_empty tp_size).bind (fun r2 => (some (r1.1, r1.2.1, r1.2.2.1, r1.2.2.2.1, r1.2.2.2.2.1, r1.2.2.2.2.2.1, r2, r1.2.2.2.2.2.2.1, r1.2.2.2.2.2.2.2))))))
set_option maxHeartbeats 4000000 in
set_option maxRecDepth 100000 in
theorem c_X6_text (l : Launch) (D : va_G) (cI cZ cS : ClassId) (a0 a1 a2 a3 a4 a5 a6 a7 a8 a9 a10 : Nat) (v_isKept fr_pins fr_bars : Int32) (fr_names fr_lesser fr_greater tp_bytes : Nat → Int32) (tp_size tp_start tp_behind : Int32)  (u : Int32 × Int32 × Int32 × (Nat → Int32) × (Nat → Int32) × (Nat → Int32) × Int32 × Int32 × Int32) (hF : FX6_text fr_pins fr_bars fr_names fr_lesser fr_greater tp_bytes tp_size tp_start tp_behind = some u) : MCi l D (tyL cI cZ cS) yX6_text cX6_text 2 (some .int) 5 113 [.ref a0] (wX6 a0 a1 a2 a3 a4 a5 a6 v_isKept ++ wX0 cI a1 a7 a8 a9 fr_pins fr_bars fr_names fr_lesser fr_greater ++ wX5 cI a3 a10 tp_bytes tp_size tp_start tp_behind) (wX6 a0 a1 a2 a3 a4 a5 a6 v_isKept ++ wX0 cI a1 a7 a8 a9 u.2.1 u.2.2.1 u.2.2.2.1 u.2.2.2.2.1 u.2.2.2.2.2.1 ++ wX5 cI a3 a10 tp_bytes u.2.2.2.2.2.2.1 u.2.2.2.2.2.2.2.1 u.2.2.2.2.2.2.2.2) u.1 := by
  refine MCi.mk (by decide) (Nat.le_of_ble_eq_true rfl) ?_
  intro p e s m args below meth c A ls Q h0 hP hD hA hS hl hfin0
  have hfin : ∀ (u' : Int32 × Int32 × Int32 × (Nat → Int32) × (Nat → Int32) × (Nat → Int32) × Int32 × Int32 × Int32), u' = u → ∀ (H : Heap) (locs : List Loc) (ls : Array Slot) (pc : Nat), va_P D vwCl (wX6 a0 a1 a2 a3 a4 a5 a6 v_isKept ++ wX0 cI a1 a7 a8 a9 u'.2.1 u'.2.2.1 u'.2.2.2.1 u'.2.2.2.2.1 u'.2.2.2.2.2.1 ++ wX5 cI a3 a10 tp_bytes u'.2.2.2.2.2.2.1 u'.2.2.2.2.2.2.2.1 u'.2.2.2.2.2.2.2.2) H → va_D A (wX6 a0 a1 a2 a3 a4 a5 a6 v_isKept ++ wX0 cI a1 a7 a8 a9 u'.2.1 u'.2.2.1 u'.2.2.2.1 u'.2.2.2.2.1 u'.2.2.2.2.2.1 ++ wX5 cI a3 a10 tp_bytes u'.2.2.2.2.2.2.1 u'.2.2.2.2.2.2.2.1 u'.2.2.2.2.2.2.2.2) → va_S A s.heap H locs → decode cX6_text pc = .ok (.ireturn, 1) → W p l e (uR 5 113) s m args below meth c H locs 0 0 Q (F0 m pc ls [.int u'.1]) := by intro u' hu; subst hu; exact hfin0
  clear hfin0
  obtain ⟨hx, hb, hr, hlk, hml, hown, hts, hK⟩ := id h0
  have hl : lv_has ls 2 [(0, .ref a0)] := hl
  have E := hF
  refine lv_aload_n hx hb dX6_text_0 rfl (lv_at hl 0 rfl) ?_
  obtain ⟨r1, hF, E⟩ := bn_e E
  refine callVfi (wo := (wX6 a0 a1 a2 a3 a4 a5 a6 v_isKept ++ wX0 cI a1 a7 a8 a9 r1.2.1 r1.2.2.1 r1.2.2.2.1 r1.2.2.2.2.1 r1.2.2.2.2.2.1 ++ wX5 cI a3 a10 tp_bytes tp_size r1.2.2.2.2.2.2.1 r1.2.2.2.2.2.2.2)) h0 (c_X6_doneAsText l D cI cZ cS a0 a1 a2 a3 a4 a5 a6 a7 a8 a9 a10 v_isKept fr_pins fr_bars fr_names fr_lesser fr_greater tp_bytes tp_size tp_start tp_behind r1 hF) (gV wq_225 wq_227 wp_0 wq_1 wq_228) hdX6_doneAsText ⟨Nat.le_of_ble_eq_true rfl, Nat.le_of_ble_eq_true rfl⟩ ⟨Nat.le_refl _, Nat.le_refl _⟩ hP hD hS hA 0 6 rfl rfl rfl hl.1 rfl (Nat.le_of_ble_eq_true rfl) dX6_text_1 (fun H locs hP hD hS => ?_)
  refine lv_istore_n (lv' := [(1, .int r1.1), (0, .ref a0)]) hx hb dX6_text_4 rfl hl (by decide) rfl (fun ls hl => ?_)
  refine lv_aload_n hx hb dX6_text_5 rfl (lv_at hl 1 rfl) ?_
  refine gf_X6_26 h0 hP 0 rfl rfl dX6_text_6 ?_
  obtain ⟨r2, hF, E⟩ := bn_e E
  refine callVv (wo := (wX6 a0 a1 a2 a3 a4 a5 a6 v_isKept ++ wX0 cI a1 a7 a8 a9 r1.2.1 r1.2.2.1 r1.2.2.2.1 r1.2.2.2.2.1 r1.2.2.2.2.2.1 ++ wX5 cI a3 a10 tp_bytes r2 r1.2.2.2.2.2.2.1 r1.2.2.2.2.2.2.2)) h0 (c_X5_empty l D cI cZ cS a3 a10 tp_bytes tp_size r1.2.2.2.2.2.2.1 r1.2.2.2.2.2.2.2 r2 hF) (gV wq_302 wq_303 wq_304 wq_3 wq_305) hdX5_empty ⟨Nat.le_of_ble_eq_true rfl, Nat.le_of_ble_eq_true rfl⟩ ⟨Nat.le_refl _, Nat.le_refl _⟩ hP hD hS hA 0 5 rfl rfl rfl [5, 6] rfl rfl rfl rfl hl.1 rfl (Nat.le_of_ble_eq_true rfl) dX6_text_9 (fun H locs hP hD hS => ?_)
  refine lv_iload_n hx hb dX6_text_12 rfl (lv_at hl 0 rfl) ?_
  exact hfin _ (Option.some.inj E) _ _ _ _ hP hD hS dX6_text_13
theorem hdX6_named : yX6_named.cls = RX6 ∧ yX6_named.cls ≠ "java/lang/invoke/MethodHandle" ∧ yX6_named.cls ≠ "java/lang/invoke/VarHandle" ∧ (parseMethodDescriptor yX6_named.desc).map (fun d => d.parameters.length) = some 0 := by decide +kernel
noncomputable def FX6_named (fr_pins : Int32) (fr_names tp_bytes : Nat → Int32) (tp_size tp_start tp_behind : Int32) : Option (Int32 × Int32 × Int32 × Int32) := ((FX5_wholeWord tp_bytes tp_size tp_start tp_behind).bind (fun r1 => ((FX0_pinOfName r1.1 fr_pins fr_names).bind (fun r2 => ((FX5_empty tp_size).bind (fun r3 => (some (r2, r3, r1.2.1, r1.2.2))))))))
set_option maxHeartbeats 4000000 in
set_option maxRecDepth 100000 in
theorem c_X6_named (l : Launch) (D : va_G) (cI cZ cS : ClassId) (a0 a1 a2 a3 a4 a5 a6 a7 a8 a9 a10 : Nat) (v_isKept fr_pins fr_bars : Int32) (fr_names fr_lesser fr_greater tp_bytes : Nat → Int32) (tp_size tp_start tp_behind : Int32)  (u : Int32 × Int32 × Int32 × Int32) (hF : FX6_named fr_pins fr_names tp_bytes tp_size tp_start tp_behind = some u) : MCi l D (tyL cI cZ cS) yX6_named cX6_named 2 (some .int) 3 63 [.ref a0] (wX6 a0 a1 a2 a3 a4 a5 a6 v_isKept ++ wX0 cI a1 a7 a8 a9 fr_pins fr_bars fr_names fr_lesser fr_greater ++ wX5 cI a3 a10 tp_bytes tp_size tp_start tp_behind) (wX6 a0 a1 a2 a3 a4 a5 a6 v_isKept ++ wX0 cI a1 a7 a8 a9 fr_pins fr_bars fr_names fr_lesser fr_greater ++ wX5 cI a3 a10 tp_bytes u.2.1 u.2.2.1 u.2.2.2) u.1 := by
  refine MCi.mk (by decide) (Nat.le_of_ble_eq_true rfl) ?_
  intro p e s m args below meth c A ls Q h0 hP hD hA hS hl hfin0
  have hfin : ∀ (u' : Int32 × Int32 × Int32 × Int32), u' = u → ∀ (H : Heap) (locs : List Loc) (ls : Array Slot) (pc : Nat), va_P D vwCl (wX6 a0 a1 a2 a3 a4 a5 a6 v_isKept ++ wX0 cI a1 a7 a8 a9 fr_pins fr_bars fr_names fr_lesser fr_greater ++ wX5 cI a3 a10 tp_bytes u'.2.1 u'.2.2.1 u'.2.2.2) H → va_D A (wX6 a0 a1 a2 a3 a4 a5 a6 v_isKept ++ wX0 cI a1 a7 a8 a9 fr_pins fr_bars fr_names fr_lesser fr_greater ++ wX5 cI a3 a10 tp_bytes u'.2.1 u'.2.2.1 u'.2.2.2) → va_S A s.heap H locs → decode cX6_named pc = .ok (.ireturn, 1) → W p l e (uR 3 63) s m args below meth c H locs 0 0 Q (F0 m pc ls [.int u'.1]) := by intro u' hu; subst hu; exact hfin0
  clear hfin0
  obtain ⟨hx, hb, hr, hlk, hml, hown, hts, hK⟩ := id h0
  have hl : lv_has ls 2 [(0, .ref a0)] := hl
  have E := hF
  refine lv_aload_n hx hb dX6_named_0 rfl (lv_at hl 0 rfl) ?_
  refine gf_X6_10 h0 hP 0 rfl rfl dX6_named_1 ?_
  refine lv_aload_n hx hb dX6_named_4 rfl (lv_at hl 0 rfl) ?_
  refine gf_X6_26 h0 hP 0 rfl rfl dX6_named_5 ?_
  obtain ⟨r1, hF, E⟩ := bn_e E
  refine callVi (wo := (wX6 a0 a1 a2 a3 a4 a5 a6 v_isKept ++ wX0 cI a1 a7 a8 a9 fr_pins fr_bars fr_names fr_lesser fr_greater ++ wX5 cI a3 a10 tp_bytes tp_size r1.2.1 r1.2.2)) h0 (c_X5_wholeWord l D cI cZ cS a3 a10 tp_bytes tp_size tp_start tp_behind r1 hF) (gV wq_310 wq_311 wq_312 wq_3 wq_313) hdX5_wholeWord ⟨Nat.le_of_ble_eq_true rfl, Nat.le_of_ble_eq_true rfl⟩ ⟨Nat.le_refl _, Nat.le_refl _⟩ hP hD hS hA 0 5 rfl rfl rfl [5, 6] rfl rfl rfl rfl hl.1 rfl (Nat.le_of_ble_eq_true rfl) dX6_named_8 (fun H locs hP hD hS => ?_)
  obtain ⟨r2, hF, E⟩ := bn_e E
  refine callVi (wo := (wX6 a0 a1 a2 a3 a4 a5 a6 v_isKept ++ wX0 cI a1 a7 a8 a9 fr_pins fr_bars fr_names fr_lesser fr_greater ++ wX5 cI a3 a10 tp_bytes tp_size r1.2.1 r1.2.2)) h0 (c_X0_pinOfName l D cI cZ cS a1 a7 a8 a9 fr_pins fr_bars fr_names fr_lesser fr_greater r1.1 r2 hF) (gV wq_248 wq_249 wq_250 wq_2 wq_251) hdX0_pinOfName ⟨Nat.le_of_ble_eq_true rfl, Nat.le_of_ble_eq_true rfl⟩ ⟨Nat.le_refl _, Nat.le_refl _⟩ hP hD hS hA 0 0 rfl rfl rfl [1, 2, 3, 4] rfl rfl rfl rfl hl.1 rfl (Nat.le_of_ble_eq_true rfl) dX6_named_11 (fun H locs hP hD hS => ?_)
  refine lv_istore_n (lv' := [(1, .int r2), (0, .ref a0)]) hx hb dX6_named_14 rfl hl (by decide) rfl (fun ls hl => ?_)
  refine lv_aload_n hx hb dX6_named_15 rfl (lv_at hl 1 rfl) ?_
  refine gf_X6_26 h0 hP 0 rfl rfl dX6_named_16 ?_
  obtain ⟨r3, hF, E⟩ := bn_e E
  refine callVv (wo := (wX6 a0 a1 a2 a3 a4 a5 a6 v_isKept ++ wX0 cI a1 a7 a8 a9 fr_pins fr_bars fr_names fr_lesser fr_greater ++ wX5 cI a3 a10 tp_bytes r3 r1.2.1 r1.2.2)) h0 (c_X5_empty l D cI cZ cS a3 a10 tp_bytes tp_size r1.2.1 r1.2.2 r3 hF) (gV wq_302 wq_303 wq_304 wq_3 wq_305) hdX5_empty ⟨Nat.le_of_ble_eq_true rfl, Nat.le_of_ble_eq_true rfl⟩ ⟨Nat.le_refl _, Nat.le_refl _⟩ hP hD hS hA 0 5 rfl rfl rfl [5, 6] rfl rfl rfl rfl hl.1 rfl (Nat.le_of_ble_eq_true rfl) dX6_named_19 (fun H locs hP hD hS => ?_)
  refine lv_iload_n hx hb dX6_named_22 rfl (lv_at hl 0 rfl) ?_
  exact hfin _ (Option.some.inj E) _ _ _ _ hP hD hS dX6_named_23
theorem hdX6_told : yX6_told.cls = RX6 ∧ yX6_told.cls ≠ "java/lang/invoke/MethodHandle" ∧ yX6_told.cls ≠ "java/lang/invoke/VarHandle" ∧ (parseMethodDescriptor yX6_told.desc).map (fun d => d.parameters.length) = some 1 := by decide +kernel
noncomputable def FX6_told (p1 : Int32) (fr_pins fr_bars : Int32) (fr_lesser fr_greater : Nat → Int32) (tp_size : Int32) (st_tiedTo st_parts : Nat → Int32) (st_partCount st_carrying st_rank st_freedoms st_isStiff : Int32) (st_farEnd st_queue st_cameAlong : Nat → Int32) : Option (Int32 × (Nat → Int32) × (Nat → Int32) × Int32 × Int32 × Int32 × Int32 × Int32 × (Nat → Int32) × (Nat → Int32) × (Nat → Int32)) := ((FX3_settle st_carrying st_rank st_freedoms st_isStiff st_farEnd st_queue st_cameAlong fr_pins fr_bars fr_lesser fr_greater).bind (fun r1 => (if p1 = 0 then (some (fr_pins, st_tiedTo, st_parts, st_partCount, r1.1, r1.2.1, r1.2.2.1, r1.2.2.2.1, r1.2.2.2.2.1, r1.2.2.2.2.2.1, r1.2.2.2.2.2.2)) else (if p1 = 1 then (some (fr_bars, st_tiedTo, st_parts, st_partCount, r1.1, r1.2.1, r1.2.2.1, r1.2.2.2.1, r1.2.2.2.2.1, r1.2.2.2.2.2.1, r1.2.2.2.2.2.2)) else (if p1 = 2 then (some (r1.2.1, st_tiedTo, st_parts, st_partCount, r1.1, r1.2.1, r1.2.2.1, r1.2.2.2.1, r1.2.2.2.2.1, r1.2.2.2.2.2.1, r1.2.2.2.2.2.2)) else (if p1 = 3 then (some (r1.2.2.1, st_tiedTo, st_parts, st_partCount, r1.1, r1.2.1, r1.2.2.1, r1.2.2.2.1, r1.2.2.2.2.1, r1.2.2.2.2.2.1, r1.2.2.2.2.2.2)) else (if p1 = 4 then (if r1.2.2.2.1 = 0 then (some (0, st_tiedTo, st_parts, st_partCount, r1.1, r1.2.1, r1.2.2.1, r1.2.2.2.1, r1.2.2.2.2.1, r1.2.2.2.2.2.1, r1.2.2.2.2.2.2)) else (some (1, st_tiedTo, st_parts, st_partCount, r1.1, r1.2.1, r1.2.2.1, r1.2.2.2.1, r1.2.2.2.2.1, r1.2.2.2.2.2.1, r1.2.2.2.2.2.2))) else (if p1 = 5 then (some ((fr_bars - r1.2.1), st_tiedTo, st_parts, st_partCount, r1.1, r1.2.1, r1.2.2.1, r1.2.2.2.1, r1.2.2.2.2.1, r1.2.2.2.2.2.1, r1.2.2.2.2.2.2)) else (if p1 = 6 then ((FX3_findParts fr_pins st_tiedTo st_parts st_partCount r1.2.2.2.2.1 r1.2.2.2.2.2.1 r1.2.2.2.2.2.2).bind (fun r10 => (some (r10.2.2.1, r10.1, r10.2.1, r10.2.2.1, r1.1, r1.2.1, r1.2.2.1, r1.2.2.2.1, r10.2.2.2.1, r10.2.2.2.2.1, r10.2.2.2.2.2)))) else (if p1 = 7 then ((FX3_countOvertied r1.2.2.2.2.1 r1.2.2.2.2.2.1 r1.2.2.2.2.2.2 fr_bars fr_lesser fr_greater).bind (fun r12 => (some (r12.1, st_tiedTo, st_parts, st_partCount, r1.1, r1.2.1, r1.2.2.1, r1.2.2.2.1, r12.2.1, r12.2.2.1, r12.2.2.2)))) else (if p1 = 8 then (some (tp_size, st_tiedTo, st_parts, st_partCount, r1.1, r1.2.1, r1.2.2.1, r1.2.2.2.1, r1.2.2.2.2.1, r1.2.2.2.2.2.1, r1.2.2.2.2.2.2)) else (some ((-2), st_tiedTo, st_parts, st_partCount, r1.1, r1.2.1, r1.2.2.1, r1.2.2.2.1, r1.2.2.2.2.1, r1.2.2.2.2.2.1, r1.2.2.2.2.2.2)))))))))))))
set_option maxHeartbeats 4000000 in
set_option maxRecDepth 100000 in
theorem c_X6_told (l : Launch) (D : va_G) (cI cZ cS : ClassId) (a0 a1 a2 a3 a4 a5 a6 a7 a8 a9 a10 a11 a12 a13 a14 a15 a16 a17 : Nat) (v_isKept fr_pins fr_bars : Int32) (fr_names fr_lesser fr_greater tp_bytes : Nat → Int32) (tp_size tp_start tp_behind : Int32) (st_near st_tiedTo st_parts : Nat → Int32) (st_partCount st_carrying st_rank st_freedoms st_isStiff st_worstBy st_worstPins : Int32) (st_farEnd st_queue st_cameAlong : Nat → Int32) (p1 : Int32) (u : Int32 × (Nat → Int32) × (Nat → Int32) × Int32 × Int32 × Int32 × Int32 × Int32 × (Nat → Int32) × (Nat → Int32) × (Nat → Int32)) (hF : FX6_told p1 fr_pins fr_bars fr_lesser fr_greater tp_size st_tiedTo st_parts st_partCount st_carrying st_rank st_freedoms st_isStiff st_farEnd st_queue st_cameAlong = some u) : MCi l D (tyL cI cZ cS) yX6_told cX6_told 2 (some .int) 6 150 [.ref a0, .int p1] (wX6 a0 a1 a2 a3 a4 a5 a6 v_isKept ++ wX0 cI a1 a7 a8 a9 fr_pins fr_bars fr_names fr_lesser fr_greater ++ wX5 cI a3 a10 tp_bytes tp_size tp_start tp_behind ++ wX3 cI a4 a11 a12 a13 a14 a15 a16 a17 st_near st_tiedTo st_parts st_partCount st_carrying st_rank st_freedoms st_isStiff st_worstBy st_worstPins st_farEnd st_queue st_cameAlong) (wX6 a0 a1 a2 a3 a4 a5 a6 v_isKept ++ wX0 cI a1 a7 a8 a9 fr_pins fr_bars fr_names fr_lesser fr_greater ++ wX5 cI a3 a10 tp_bytes tp_size tp_start tp_behind ++ wX3 cI a4 a11 a12 a13 a14 a15 a16 a17 st_near u.2.1 u.2.2.1 u.2.2.2.1 u.2.2.2.2.1 u.2.2.2.2.2.1 u.2.2.2.2.2.2.1 u.2.2.2.2.2.2.2.1 st_worstBy st_worstPins u.2.2.2.2.2.2.2.2.1 u.2.2.2.2.2.2.2.2.2.1 u.2.2.2.2.2.2.2.2.2.2) u.1 := by
  refine MCi.mk (by decide) (Nat.le_of_ble_eq_true rfl) ?_
  intro p e s m args below meth c A ls Q h0 hP hD hA hS hl hfin0
  have hfin : ∀ (u' : Int32 × (Nat → Int32) × (Nat → Int32) × Int32 × Int32 × Int32 × Int32 × Int32 × (Nat → Int32) × (Nat → Int32) × (Nat → Int32)), u' = u → ∀ (H : Heap) (locs : List Loc) (ls : Array Slot) (pc : Nat), va_P D vwCl (wX6 a0 a1 a2 a3 a4 a5 a6 v_isKept ++ wX0 cI a1 a7 a8 a9 fr_pins fr_bars fr_names fr_lesser fr_greater ++ wX5 cI a3 a10 tp_bytes tp_size tp_start tp_behind ++ wX3 cI a4 a11 a12 a13 a14 a15 a16 a17 st_near u'.2.1 u'.2.2.1 u'.2.2.2.1 u'.2.2.2.2.1 u'.2.2.2.2.2.1 u'.2.2.2.2.2.2.1 u'.2.2.2.2.2.2.2.1 st_worstBy st_worstPins u'.2.2.2.2.2.2.2.2.1 u'.2.2.2.2.2.2.2.2.2.1 u'.2.2.2.2.2.2.2.2.2.2) H → va_D A (wX6 a0 a1 a2 a3 a4 a5 a6 v_isKept ++ wX0 cI a1 a7 a8 a9 fr_pins fr_bars fr_names fr_lesser fr_greater ++ wX5 cI a3 a10 tp_bytes tp_size tp_start tp_behind ++ wX3 cI a4 a11 a12 a13 a14 a15 a16 a17 st_near u'.2.1 u'.2.2.1 u'.2.2.2.1 u'.2.2.2.2.1 u'.2.2.2.2.2.1 u'.2.2.2.2.2.2.1 u'.2.2.2.2.2.2.2.1 st_worstBy st_worstPins u'.2.2.2.2.2.2.2.2.1 u'.2.2.2.2.2.2.2.2.2.1 u'.2.2.2.2.2.2.2.2.2.2) → va_S A s.heap H locs → decode cX6_told pc = .ok (.ireturn, 1) → W p l e (uR 6 150) s m args below meth c H locs 0 0 Q (F0 m pc ls [.int u'.1]) := by intro u' hu; subst hu; exact hfin0
  clear hfin0
  obtain ⟨hx, hb, hr, hlk, hml, hown, hts, hK⟩ := id h0
  have hl : lv_has ls 2 [(0, .ref a0), (1, .int p1)] := hl
  have E := hF
  refine lv_aload_n hx hb dX6_told_0 rfl (lv_at hl 0 rfl) ?_
  refine gf_X6_33 h0 hP 0 rfl rfl dX6_told_1 ?_
  refine lv_aload_n hx hb dX6_told_4 rfl (lv_at hl 0 rfl) ?_
  refine gf_X6_10 h0 hP 0 rfl rfl dX6_told_5 ?_
  obtain ⟨r1, hF, E⟩ := bn_e E
  refine callVv (wo := (wX6 a0 a1 a2 a3 a4 a5 a6 v_isKept ++ wX0 cI a1 a7 a8 a9 fr_pins fr_bars fr_names fr_lesser fr_greater ++ wX5 cI a3 a10 tp_bytes tp_size tp_start tp_behind ++ wX3 cI a4 a11 a12 a13 a14 a15 a16 a17 st_near st_tiedTo st_parts st_partCount r1.1 r1.2.1 r1.2.2.1 r1.2.2.2.1 st_worstBy st_worstPins r1.2.2.2.2.1 r1.2.2.2.2.2.1 r1.2.2.2.2.2.2)) h0 (c_X3_settle l D cI cZ cS a4 a11 a12 a13 a14 a15 a16 a17 a1 a7 a8 a9 st_near st_tiedTo st_parts st_partCount st_carrying st_rank st_freedoms st_isStiff st_worstBy st_worstPins st_farEnd st_queue st_cameAlong fr_pins fr_bars fr_names fr_lesser fr_greater r1 hF) (gV wq_321 wq_322 wq_323 wq_4 wq_324) hdX3_settle ⟨Nat.le_of_ble_eq_true rfl, Nat.le_of_ble_eq_true rfl⟩ ⟨Nat.le_refl _, Nat.le_refl _⟩ hP hD hS hA 0 3 rfl rfl rfl [7, 8, 9, 10, 11, 12, 13, 14, 1, 2, 3, 4] rfl rfl rfl rfl hl.1 rfl (Nat.le_of_ble_eq_true rfl) dX6_told_8 (fun H locs hP hD hS => ?_)
  refine lv_iload_n hx hb dX6_told_11 rfl (lv_at hl 1 rfl) ?_
  by_cases c2 : p1 = 0
  · have E := br_p E c2
    refine lv_tableIn (off := 52) (tgt := 64) hx hb dX6_told_12 (by rw [c2]; decide) (by rw [c2]; decide) (by rw [c2]; decide) (by decide) ?_
    refine lv_aload_n hx hb dX6_told_64 rfl (lv_at hl 0 rfl) ?_
    refine gf_X6_10 h0 hP 0 rfl rfl dX6_told_65 ?_
    refine gf_X6_95 h0 hP 1 rfl rfl dX6_told_68 ?_
    exact hfin _ (Option.some.inj E) _ _ _ _ hP hD hS dX6_told_71
  · have E := br_n E c2
    by_cases c3 : p1 = 1
    · have E := br_p E c3
      refine lv_tableIn (off := 60) (tgt := 72) hx hb dX6_told_12 (by rw [c3]; decide) (by rw [c3]; decide) (by rw [c3]; decide) (by decide) ?_
      refine lv_aload_n hx hb dX6_told_72 rfl (lv_at hl 0 rfl) ?_
      refine gf_X6_10 h0 hP 0 rfl rfl dX6_told_73 ?_
      refine gf_X6_98 h0 hP 1 rfl rfl dX6_told_76 ?_
      exact hfin _ (Option.some.inj E) _ _ _ _ hP hD hS dX6_told_79
    · have E := br_n E c3
      by_cases c4 : p1 = 2
      · have E := br_p E c4
        refine lv_tableIn (off := 68) (tgt := 80) hx hb dX6_told_12 (by rw [c4]; decide) (by rw [c4]; decide) (by rw [c4]; decide) (by decide) ?_
        refine lv_aload_n hx hb dX6_told_80 rfl (lv_at hl 0 rfl) ?_
        refine gf_X6_33 h0 hP 0 rfl rfl dX6_told_81 ?_
        refine gf_X6_101 h0 hP 7 rfl rfl dX6_told_84 ?_
        exact hfin _ (Option.some.inj E) _ _ _ _ hP hD hS dX6_told_87
      · have E := br_n E c4
        by_cases c5 : p1 = 3
        · have E := br_p E c5
          refine lv_tableIn (off := 76) (tgt := 88) hx hb dX6_told_12 (by rw [c5]; decide) (by rw [c5]; decide) (by rw [c5]; decide) (by decide) ?_
          refine lv_aload_n hx hb dX6_told_88 rfl (lv_at hl 0 rfl) ?_
          refine gf_X6_33 h0 hP 0 rfl rfl dX6_told_89 ?_
          refine gf_X6_104 h0 hP 7 rfl rfl dX6_told_92 ?_
          exact hfin _ (Option.some.inj E) _ _ _ _ hP hD hS dX6_told_95
        · have E := br_n E c5
          by_cases c6 : p1 = 4
          · have E := br_p E c6
            refine lv_tableIn (off := 84) (tgt := 96) hx hb dX6_told_12 (by rw [c6]; decide) (by rw [c6]; decide) (by rw [c6]; decide) (by decide) ?_
            refine lv_aload_n hx hb dX6_told_96 rfl (lv_at hl 0 rfl) ?_
            refine gf_X6_33 h0 hP 0 rfl rfl dX6_told_97 ?_
            refine gf_X6_107 h0 hP 7 rfl rfl dX6_told_100 ?_
            refine lv_if_eq (tgt := 110) hx hb dX6_told_103 (by decide) (fun c7 => ?_) (fun c7 => ?_)
            · have E := br_p E c7
              refine lv_iconst (v := 0) hx hb dX6_told_110 (by decide) ?_
              exact hfin _ (Option.some.inj E) _ _ _ _ hP hD hS dX6_told_111
            · have E := br_n E c7
              refine lv_iconst (v := 1) hx hb dX6_told_106 (by decide) ?_
              refine lv_goto (tgt := 111) hx hb dX6_told_107 (by decide) ?_
              exact hfin _ (Option.some.inj E) _ _ _ _ hP hD hS dX6_told_111
          · have E := br_n E c6
            by_cases c8 : p1 = 5
            · have E := br_p E c8
              refine lv_tableIn (off := 100) (tgt := 112) hx hb dX6_told_12 (by rw [c8]; decide) (by rw [c8]; decide) (by rw [c8]; decide) (by decide) ?_
              refine lv_aload_n hx hb dX6_told_112 rfl (lv_at hl 0 rfl) ?_
              refine gf_X6_10 h0 hP 0 rfl rfl dX6_told_113 ?_
              refine gf_X6_98 h0 hP 1 rfl rfl dX6_told_116 ?_
              refine lv_aload_n hx hb dX6_told_119 rfl (lv_at hl 0 rfl) ?_
              refine gf_X6_33 h0 hP 0 rfl rfl dX6_told_120 ?_
              refine gf_X6_101 h0 hP 7 rfl rfl dX6_told_123 ?_
              refine lv_isub hx hb dX6_told_126 ?_
              exact hfin _ (Option.some.inj E) _ _ _ _ hP hD hS dX6_told_127
            · have E := br_n E c8
              by_cases c9 : p1 = 6
              · have E := br_p E c9
                refine lv_tableIn (off := 116) (tgt := 128) hx hb dX6_told_12 (by rw [c9]; decide) (by rw [c9]; decide) (by rw [c9]; decide) (by decide) ?_
                refine lv_aload_n hx hb dX6_told_128 rfl (lv_at hl 0 rfl) ?_
                refine gf_X6_33 h0 hP 0 rfl rfl dX6_told_129 ?_
                refine lv_aload_n hx hb dX6_told_132 rfl (lv_at hl 0 rfl) ?_
                refine gf_X6_10 h0 hP 0 rfl rfl dX6_told_133 ?_
                refine gf_X6_95 h0 hP 1 rfl rfl dX6_told_136 ?_
                obtain ⟨r10, hF, E⟩ := bn_e E
                refine callVv (wo := (wX6 a0 a1 a2 a3 a4 a5 a6 v_isKept ++ wX0 cI a1 a7 a8 a9 fr_pins fr_bars fr_names fr_lesser fr_greater ++ wX5 cI a3 a10 tp_bytes tp_size tp_start tp_behind ++ wX3 cI a4 a11 a12 a13 a14 a15 a16 a17 st_near r10.1 r10.2.1 r10.2.2.1 r1.1 r1.2.1 r1.2.2.1 r1.2.2.2.1 st_worstBy st_worstPins r10.2.2.2.1 r10.2.2.2.2.1 r10.2.2.2.2.2)) h0 (c_X3_findParts l D cI cZ cS a4 a11 a12 a13 a14 a15 a16 a17 st_near st_tiedTo st_parts st_partCount r1.1 r1.2.1 r1.2.2.1 r1.2.2.2.1 st_worstBy st_worstPins r1.2.2.2.2.1 r1.2.2.2.2.2.1 r1.2.2.2.2.2.2 fr_pins r10 hF) (gV wq_363 wq_364 wq_365 wq_4 wq_366) hdX3_findParts ⟨Nat.le_of_ble_eq_true rfl, Nat.le_of_ble_eq_true rfl⟩ ⟨Nat.le_refl _, Nat.le_refl _⟩ hP hD hS hA 0 3 rfl rfl rfl [7, 8, 9, 10, 11, 12, 13, 14] rfl rfl rfl rfl hl.1 rfl (Nat.le_of_ble_eq_true rfl) dX6_told_139 (fun H locs hP hD hS => ?_)
                refine lv_aload_n hx hb dX6_told_142 rfl (lv_at hl 0 rfl) ?_
                refine gf_X6_33 h0 hP 0 rfl rfl dX6_told_143 ?_
                refine gf_X6_113 h0 hP 7 rfl rfl dX6_told_146 ?_
                exact hfin _ (Option.some.inj E) _ _ _ _ hP hD hS dX6_told_149
              · have E := br_n E c9
                by_cases c11 : p1 = 7
                · have E := br_p E c11
                  refine lv_tableIn (off := 138) (tgt := 150) hx hb dX6_told_12 (by rw [c11]; decide) (by rw [c11]; decide) (by rw [c11]; decide) (by decide) ?_
                  refine lv_aload_n hx hb dX6_told_150 rfl (lv_at hl 0 rfl) ?_
                  refine gf_X6_33 h0 hP 0 rfl rfl dX6_told_151 ?_
                  refine lv_aload_n hx hb dX6_told_154 rfl (lv_at hl 0 rfl) ?_
                  refine gf_X6_10 h0 hP 0 rfl rfl dX6_told_155 ?_
                  obtain ⟨r12, hF, E⟩ := bn_e E
                  refine callVi (wo := (wX6 a0 a1 a2 a3 a4 a5 a6 v_isKept ++ wX0 cI a1 a7 a8 a9 fr_pins fr_bars fr_names fr_lesser fr_greater ++ wX5 cI a3 a10 tp_bytes tp_size tp_start tp_behind ++ wX3 cI a4 a11 a12 a13 a14 a15 a16 a17 st_near st_tiedTo st_parts st_partCount r1.1 r1.2.1 r1.2.2.1 r1.2.2.2.1 st_worstBy st_worstPins r12.2.1 r12.2.2.1 r12.2.2.2)) h0 (c_X3_countOvertied l D cI cZ cS a4 a11 a12 a13 a14 a15 a16 a17 a1 a7 a8 a9 st_near st_tiedTo st_parts st_partCount r1.1 r1.2.1 r1.2.2.1 r1.2.2.2.1 st_worstBy st_worstPins r1.2.2.2.2.1 r1.2.2.2.2.2.1 r1.2.2.2.2.2.2 fr_pins fr_bars fr_names fr_lesser fr_greater r12 hF) (gV wq_371 wq_372 wq_373 wq_4 wq_374) hdX3_countOvertied ⟨Nat.le_of_ble_eq_true rfl, Nat.le_of_ble_eq_true rfl⟩ ⟨Nat.le_refl _, Nat.le_refl _⟩ hP hD hS hA 0 3 rfl rfl rfl [7, 8, 9, 10, 11, 12, 13, 14, 1, 2, 3, 4] rfl rfl rfl rfl hl.1 rfl (Nat.le_of_ble_eq_true rfl) dX6_told_158 (fun H locs hP hD hS => ?_)
                  exact hfin _ (Option.some.inj E) _ _ _ _ hP hD hS dX6_told_161
                · have E := br_n E c11
                  by_cases c13 : p1 = 8
                  · have E := br_p E c13
                    refine lv_tableIn (off := 150) (tgt := 162) hx hb dX6_told_12 (by rw [c13]; decide) (by rw [c13]; decide) (by rw [c13]; decide) (by decide) ?_
                    refine lv_aload_n hx hb dX6_told_162 rfl (lv_at hl 0 rfl) ?_
                    refine gf_X6_26 h0 hP 0 rfl rfl dX6_told_163 ?_
                    refine gf_X6_55 h0 hP 5 rfl rfl dX6_told_166 ?_
                    exact hfin _ (Option.some.inj E) _ _ _ _ hP hD hS dX6_told_169
                  · have E := br_n E c13
                    refine lv_tableOut (tgt := 170) hx hb dX6_told_12 (tsw_out 8 (by decide) (fun k hk => by match k, hk with | 0, _ => exact c2 | 1, _ => exact c3 | 2, _ => exact c4 | 3, _ => exact c5 | 4, _ => exact c6 | 5, _ => exact c8 | 6, _ => exact c9 | 7, _ => exact c11 | 8, _ => exact c13 | k + 9, hk => exact absurd hk (by omega))) (by decide) ?_
                    refine lv_bipush (v := (-2)) hx hb dX6_told_170 (by decide) ?_
                    exact hfin _ (Option.some.inj E) _ _ _ _ hP hD hS dX6_told_172
theorem hdX6_isPlace : yX6_isPlace.cls = RX6 ∧ yX6_isPlace.cls ≠ "java/lang/invoke/MethodHandle" ∧ yX6_isPlace.cls ≠ "java/lang/invoke/VarHandle" ∧ (parseMethodDescriptor yX6_isPlace.desc).map (fun d => d.parameters.length) = some 1 := by decide +kernel
noncomputable def FX6_isPlace (p1 : Int32) (fr_bars : Int32) : Option (Int32) := (if p1 < 0 then (some 0) else (if fr_bars ≤ p1 then (some 0) else (some 1)))
set_option maxHeartbeats 4000000 in
set_option maxRecDepth 100000 in
theorem c_X6_isPlace (l : Launch) (D : va_G) (cI cZ cS : ClassId) (a0 a1 a2 a3 a4 a5 a6 a7 a8 a9 : Nat) (v_isKept fr_pins fr_bars : Int32) (fr_names fr_lesser fr_greater : Nat → Int32) (p1 : Int32) (u : Int32) (hF : FX6_isPlace p1 fr_bars = some u) : MCi l D (tyL cI cZ cS) yX6_isPlace cX6_isPlace 2 (some .boolean) 0 0 [.ref a0, .int p1] (wX6 a0 a1 a2 a3 a4 a5 a6 v_isKept ++ wX0 cI a1 a7 a8 a9 fr_pins fr_bars fr_names fr_lesser fr_greater) (wX6 a0 a1 a2 a3 a4 a5 a6 v_isKept ++ wX0 cI a1 a7 a8 a9 fr_pins fr_bars fr_names fr_lesser fr_greater) u := by
  refine MCz.mk (by decide) (Nat.le_of_ble_eq_true rfl) ?_
  intro p e s m args below meth c A ls Q h0 hP hD hA hS hl hfin0
  have hfin : ∀ (u' : Int32), u' = u → ∀ (H : Heap) (locs : List Loc) (ls : Array Slot) (pc : Nat), (u' = 0 ∨ u' = 1) → va_P D vwCl (wX6 a0 a1 a2 a3 a4 a5 a6 v_isKept ++ wX0 cI a1 a7 a8 a9 fr_pins fr_bars fr_names fr_lesser fr_greater) H → va_D A (wX6 a0 a1 a2 a3 a4 a5 a6 v_isKept ++ wX0 cI a1 a7 a8 a9 fr_pins fr_bars fr_names fr_lesser fr_greater) → va_S A s.heap H locs → decode cX6_isPlace pc = .ok (.ireturn, 1) → W p l e (uR 0 0) s m args below meth c H locs 0 0 Q (F0 m pc ls [.int u']) := by intro u' hu; subst hu; exact hfin0
  clear hfin0
  obtain ⟨hx, hb, hr, hlk, hml, hown, hts, hK⟩ := id h0
  have hl : lv_has ls 2 [(0, .ref a0), (1, .int p1)] := hl
  have E := hF
  refine lv_iload_n hx hb dX6_isPlace_0 rfl (lv_at hl 1 rfl) ?_
  refine lv_if_lt (tgt := 19) hx hb dX6_isPlace_1 (by decide) (fun c1 => ?_) (fun c1 => ?_)
  · have E := br_p E c1
    refine lv_iconst (v := 0) hx hb dX6_isPlace_19 (by decide) ?_
    exact hfin _ (Option.some.inj E) _ _ _ _ (Or.inl rfl) hP hD hS dX6_isPlace_20
  · have E := br_n E c1
    refine lv_iload_n hx hb dX6_isPlace_4 rfl (lv_at hl 1 rfl) ?_
    refine lv_aload_n hx hb dX6_isPlace_5 rfl (lv_at hl 0 rfl) ?_
    refine gf_X6_10 h0 hP 0 rfl rfl dX6_isPlace_6 ?_
    refine gf_X6_98 h0 hP 1 rfl rfl dX6_isPlace_9 ?_
    refine lv_icmp_ge (tgt := 19) hx hb dX6_isPlace_12 (by decide) (fun c2 => ?_) (fun c2 => ?_)
    · have E := br_p E c2
      refine lv_iconst (v := 0) hx hb dX6_isPlace_19 (by decide) ?_
      exact hfin _ (Option.some.inj E) _ _ _ _ (Or.inl rfl) hP hD hS dX6_isPlace_20
    · have E := br_n E c2
      refine lv_iconst (v := 1) hx hb dX6_isPlace_15 (by decide) ?_
      refine lv_goto (tgt := 20) hx hb dX6_isPlace_16 (by decide) ?_
      exact hfin _ (Option.some.inj E) _ _ _ _ (Or.inr rfl) hP hD hS dX6_isPlace_20
theorem hdX6_barAt : yX6_barAt.cls = RX6 ∧ yX6_barAt.cls ≠ "java/lang/invoke/MethodHandle" ∧ yX6_barAt.cls ≠ "java/lang/invoke/VarHandle" ∧ (parseMethodDescriptor yX6_barAt.desc).map (fun d => d.parameters.length) = some 2 := by decide +kernel
noncomputable def FX6_barAt (p1 p2 : Int32) (fr_pins fr_bars : Int32) (fr_lesser fr_greater : Nat → Int32) (st_carrying st_rank st_freedoms st_isStiff : Int32) (st_farEnd st_queue st_cameAlong : Nat → Int32) : Option (Int32 × Int32 × Int32 × Int32 × Int32 × (Nat → Int32) × (Nat → Int32) × (Nat → Int32)) := (if p2 < 0 then (some ((-2), st_carrying, st_rank, st_freedoms, st_isStiff, st_farEnd, st_queue, st_cameAlong)) else (if p2 ≤ 3 then ((FX6_isPlace p1 fr_bars).bind (fun r3 => (if r3 = 0 then (some ((-12), st_carrying, st_rank, st_freedoms, st_isStiff, st_farEnd, st_queue, st_cameAlong)) else (if p2 = 0 then (gd (vp_in p1 24) (some ((fr_lesser p1.toNatClampNeg), st_carrying, st_rank, st_freedoms, st_isStiff, st_farEnd, st_queue, st_cameAlong))) else (if p2 = 1 then (gd (vp_in p1 24) (some ((fr_greater p1.toNatClampNeg), st_carrying, st_rank, st_freedoms, st_isStiff, st_farEnd, st_queue, st_cameAlong))) else (if p2 = 2 then ((FX3_settle st_carrying st_rank st_freedoms st_isStiff st_farEnd st_queue st_cameAlong fr_pins fr_bars fr_lesser fr_greater).bind (fun r10 => (some (((r10.1 >>> (p1 &&& 31)) &&& 1), r10.1, r10.2.1, r10.2.2.1, r10.2.2.2.1, r10.2.2.2.2.1, r10.2.2.2.2.2.1, r10.2.2.2.2.2.2)))) else ((FX3_isOvertied p1 st_farEnd st_queue st_cameAlong fr_bars fr_lesser fr_greater).bind (fun r11 => (if r11.1 = 0 then (some (0, st_carrying, st_rank, st_freedoms, st_isStiff, r11.2.1, r11.2.2.1, r11.2.2.2)) else (some (1, st_carrying, st_rank, st_freedoms, st_isStiff, r11.2.1, r11.2.2.1, r11.2.2.2))))))))))) else (some ((-2), st_carrying, st_rank, st_freedoms, st_isStiff, st_farEnd, st_queue, st_cameAlong))))
set_option maxHeartbeats 4000000 in
set_option maxRecDepth 100000 in
theorem c_X6_barAt (l : Launch) (D : va_G) (cI cZ cS : ClassId) (a0 a1 a2 a3 a4 a5 a6 a7 a8 a9 a10 a11 a12 a13 a14 a15 a16 : Nat) (v_isKept fr_pins fr_bars : Int32) (fr_names fr_lesser fr_greater st_near st_tiedTo st_parts : Nat → Int32) (st_partCount st_carrying st_rank st_freedoms st_isStiff st_worstBy st_worstPins : Int32) (st_farEnd st_queue st_cameAlong : Nat → Int32) (p1 p2 : Int32) (u : Int32 × Int32 × Int32 × Int32 × Int32 × (Nat → Int32) × (Nat → Int32) × (Nat → Int32)) (hF : FX6_barAt p1 p2 fr_pins fr_bars fr_lesser fr_greater st_carrying st_rank st_freedoms st_isStiff st_farEnd st_queue st_cameAlong = some u) : MCi l D (tyL cI cZ cS) yX6_barAt cX6_barAt 3 (some .int) 5 127 [.ref a0, .int p1, .int p2] (wX6 a0 a1 a2 a3 a4 a5 a6 v_isKept ++ wX0 cI a1 a7 a8 a9 fr_pins fr_bars fr_names fr_lesser fr_greater ++ wX3 cI a4 a10 a11 a12 a13 a14 a15 a16 st_near st_tiedTo st_parts st_partCount st_carrying st_rank st_freedoms st_isStiff st_worstBy st_worstPins st_farEnd st_queue st_cameAlong) (wX6 a0 a1 a2 a3 a4 a5 a6 v_isKept ++ wX0 cI a1 a7 a8 a9 fr_pins fr_bars fr_names fr_lesser fr_greater ++ wX3 cI a4 a10 a11 a12 a13 a14 a15 a16 st_near st_tiedTo st_parts st_partCount u.2.1 u.2.2.1 u.2.2.2.1 u.2.2.2.2.1 st_worstBy st_worstPins u.2.2.2.2.2.1 u.2.2.2.2.2.2.1 u.2.2.2.2.2.2.2) u.1 := by
  refine MCi.mk (by decide) (Nat.le_of_ble_eq_true rfl) ?_
  intro p e s m args below meth c A ls Q h0 hP hD hA hS hl hfin0
  have hfin : ∀ (u' : Int32 × Int32 × Int32 × Int32 × Int32 × (Nat → Int32) × (Nat → Int32) × (Nat → Int32)), u' = u → ∀ (H : Heap) (locs : List Loc) (ls : Array Slot) (pc : Nat), va_P D vwCl (wX6 a0 a1 a2 a3 a4 a5 a6 v_isKept ++ wX0 cI a1 a7 a8 a9 fr_pins fr_bars fr_names fr_lesser fr_greater ++ wX3 cI a4 a10 a11 a12 a13 a14 a15 a16 st_near st_tiedTo st_parts st_partCount u'.2.1 u'.2.2.1 u'.2.2.2.1 u'.2.2.2.2.1 st_worstBy st_worstPins u'.2.2.2.2.2.1 u'.2.2.2.2.2.2.1 u'.2.2.2.2.2.2.2) H → va_D A (wX6 a0 a1 a2 a3 a4 a5 a6 v_isKept ++ wX0 cI a1 a7 a8 a9 fr_pins fr_bars fr_names fr_lesser fr_greater ++ wX3 cI a4 a10 a11 a12 a13 a14 a15 a16 st_near st_tiedTo st_parts st_partCount u'.2.1 u'.2.2.1 u'.2.2.2.1 u'.2.2.2.2.1 st_worstBy st_worstPins u'.2.2.2.2.2.1 u'.2.2.2.2.2.2.1 u'.2.2.2.2.2.2.2) → va_S A s.heap H locs → decode cX6_barAt pc = .ok (.ireturn, 1) → W p l e (uR 5 127) s m args below meth c H locs 0 0 Q (F0 m pc ls [.int u'.1]) := by intro u' hu; subst hu; exact hfin0
  clear hfin0
  obtain ⟨hx, hb, hr, hlk, hml, hown, hts, hK⟩ := id h0
  have hl : lv_has ls 3 [(0, .ref a0), (1, .int p1), (2, .int p2)] := hl
  have E := hF
  refine lv_iload_n hx hb dX6_barAt_0 rfl (lv_at hl 2 rfl) ?_
  refine lv_if_lt (tgt := 9) hx hb dX6_barAt_1 (by decide) (fun c1 => ?_) (fun c1 => ?_)
  · have E := br_p E c1
    refine lv_bipush (v := (-2)) hx hb dX6_barAt_9 (by decide) ?_
    exact hfin _ (Option.some.inj E) _ _ _ _ hP hD hS dX6_barAt_11
  · have E := br_n E c1
    refine lv_iload_n hx hb dX6_barAt_4 rfl (lv_at hl 2 rfl) ?_
    refine lv_iconst (v := 3) hx hb dX6_barAt_5 (by decide) ?_
    refine lv_icmp_le (tgt := 12) hx hb dX6_barAt_6 (by decide) (fun c2 => ?_) (fun c2 => ?_)
    · have E := br_p E c2
      refine lv_aload_n hx hb dX6_barAt_12 rfl (lv_at hl 0 rfl) ?_
      refine lv_iload_n hx hb dX6_barAt_13 rfl (lv_at hl 1 rfl) ?_
      obtain ⟨r3, hF, E⟩ := bn_e E
      refine callVi (wo := (wX6 a0 a1 a2 a3 a4 a5 a6 v_isKept ++ wX0 cI a1 a7 a8 a9 fr_pins fr_bars fr_names fr_lesser fr_greater ++ wX3 cI a4 a10 a11 a12 a13 a14 a15 a16 st_near st_tiedTo st_parts st_partCount st_carrying st_rank st_freedoms st_isStiff st_worstBy st_worstPins st_farEnd st_queue st_cameAlong)) h0 (c_X6_isPlace l D cI cZ cS a0 a1 a2 a3 a4 a5 a6 a7 a8 a9 v_isKept fr_pins fr_bars fr_names fr_lesser fr_greater p1 r3 hF) (gV wq_383 wq_385 wp_11 wq_1 wq_386) hdX6_isPlace ⟨Nat.le_of_ble_eq_true rfl, Nat.le_of_ble_eq_true rfl⟩ ⟨Nat.le_refl _, Nat.le_refl _⟩ hP hD hS hA 0 6 rfl rfl rfl [0, 1, 2, 3, 4] rfl rfl rfl rfl hl.1 rfl (Nat.le_of_ble_eq_true rfl) dX6_barAt_14 (fun H locs hP hD hS => ?_)
      refine lv_if_ne (tgt := 23) hx hb dX6_barAt_17 (by decide) (fun c4 => ?_) (fun c4 => ?_)
      · have E := br_n E c4
        refine lv_iload_n hx hb dX6_barAt_23 rfl (lv_at hl 2 rfl) ?_
        by_cases c5 : p2 = 0
        · have E := br_p E c5
          refine lv_tableIn (off := 28) (tgt := 52) hx hb dX6_barAt_24 (by rw [c5]; decide) (by rw [c5]; decide) (by rw [c5]; decide) (by decide) ?_
          refine lv_aload_n hx hb dX6_barAt_52 rfl (lv_at hl 0 rfl) ?_
          refine gf_X6_10 h0 hP 0 rfl rfl dX6_barAt_53 ?_
          refine gf_X6_123 h0 hP 1 rfl rfl dX6_barAt_56 ?_
          refine lv_iload_n hx hb dX6_barAt_59 rfl (lv_at hl 1 rfl) ?_
          obtain ⟨g6, E⟩ := gd_e E
          refine aldi hx hb hK hP 3 rfl rfl g6 dX6_barAt_60 ?_
          exact hfin _ (Option.some.inj E) _ _ _ _ hP hD hS dX6_barAt_61
        · have E := br_n E c5
          by_cases c7 : p2 = 1
          · have E := br_p E c7
            refine lv_tableIn (off := 38) (tgt := 62) hx hb dX6_barAt_24 (by rw [c7]; decide) (by rw [c7]; decide) (by rw [c7]; decide) (by decide) ?_
            refine lv_aload_n hx hb dX6_barAt_62 rfl (lv_at hl 0 rfl) ?_
            refine gf_X6_10 h0 hP 0 rfl rfl dX6_barAt_63 ?_
            refine gf_X6_127 h0 hP 1 rfl rfl dX6_barAt_66 ?_
            refine lv_iload_n hx hb dX6_barAt_69 rfl (lv_at hl 1 rfl) ?_
            obtain ⟨g8, E⟩ := gd_e E
            refine aldi hx hb hK hP 4 rfl rfl g8 dX6_barAt_70 ?_
            exact hfin _ (Option.some.inj E) _ _ _ _ hP hD hS dX6_barAt_71
          · have E := br_n E c7
            by_cases c9 : p2 = 2
            · have E := br_p E c9
              refine lv_tableIn (off := 48) (tgt := 72) hx hb dX6_barAt_24 (by rw [c9]; decide) (by rw [c9]; decide) (by rw [c9]; decide) (by decide) ?_
              refine lv_aload_n hx hb dX6_barAt_72 rfl (lv_at hl 0 rfl) ?_
              refine gf_X6_33 h0 hP 0 rfl rfl dX6_barAt_73 ?_
              refine lv_aload_n hx hb dX6_barAt_76 rfl (lv_at hl 0 rfl) ?_
              refine gf_X6_10 h0 hP 0 rfl rfl dX6_barAt_77 ?_
              obtain ⟨r10, hF, E⟩ := bn_e E
              refine callVv (wo := (wX6 a0 a1 a2 a3 a4 a5 a6 v_isKept ++ wX0 cI a1 a7 a8 a9 fr_pins fr_bars fr_names fr_lesser fr_greater ++ wX3 cI a4 a10 a11 a12 a13 a14 a15 a16 st_near st_tiedTo st_parts st_partCount r10.1 r10.2.1 r10.2.2.1 r10.2.2.2.1 st_worstBy st_worstPins r10.2.2.2.2.1 r10.2.2.2.2.2.1 r10.2.2.2.2.2.2)) h0 (c_X3_settle l D cI cZ cS a4 a10 a11 a12 a13 a14 a15 a16 a1 a7 a8 a9 st_near st_tiedTo st_parts st_partCount st_carrying st_rank st_freedoms st_isStiff st_worstBy st_worstPins st_farEnd st_queue st_cameAlong fr_pins fr_bars fr_names fr_lesser fr_greater r10 hF) (gV wq_321 wq_322 wq_323 wq_4 wq_324) hdX3_settle ⟨Nat.le_of_ble_eq_true rfl, Nat.le_of_ble_eq_true rfl⟩ ⟨Nat.le_refl _, Nat.le_refl _⟩ hP hD hS hA 0 3 rfl rfl rfl [5, 6, 7, 8, 9, 10, 11, 12, 1, 2, 3, 4] rfl rfl rfl rfl hl.1 rfl (Nat.le_of_ble_eq_true rfl) dX6_barAt_80 (fun H locs hP hD hS => ?_)
              refine lv_aload_n hx hb dX6_barAt_83 rfl (lv_at hl 0 rfl) ?_
              refine gf_X6_33 h0 hP 0 rfl rfl dX6_barAt_84 ?_
              refine gf_X6_130 h0 hP 5 rfl rfl dX6_barAt_87 ?_
              refine lv_iload_n hx hb dX6_barAt_90 rfl (lv_at hl 1 rfl) ?_
              refine lv_ishr hx hb dX6_barAt_91 ?_
              refine lv_iconst (v := 1) hx hb dX6_barAt_92 (by decide) ?_
              refine lv_iand hx hb dX6_barAt_93 ?_
              exact hfin _ (Option.some.inj E) _ _ _ _ hP hD hS dX6_barAt_94
            · have E := br_n E c9
              refine lv_tableOut (tgt := 95) hx hb dX6_barAt_24 (tsw_out 2 (by decide) (fun k hk => by match k, hk with | 0, _ => exact c5 | 1, _ => exact c7 | 2, _ => exact c9 | k + 3, hk => exact absurd hk (by omega))) (by decide) ?_
              refine lv_aload_n hx hb dX6_barAt_95 rfl (lv_at hl 0 rfl) ?_
              refine gf_X6_33 h0 hP 0 rfl rfl dX6_barAt_96 ?_
              refine lv_aload_n hx hb dX6_barAt_99 rfl (lv_at hl 0 rfl) ?_
              refine gf_X6_10 h0 hP 0 rfl rfl dX6_barAt_100 ?_
              refine lv_iload_n hx hb dX6_barAt_103 rfl (lv_at hl 1 rfl) ?_
              obtain ⟨r11, hF, E⟩ := bn_e E
              refine callVi (wo := (wX6 a0 a1 a2 a3 a4 a5 a6 v_isKept ++ wX0 cI a1 a7 a8 a9 fr_pins fr_bars fr_names fr_lesser fr_greater ++ wX3 cI a4 a10 a11 a12 a13 a14 a15 a16 st_near st_tiedTo st_parts st_partCount st_carrying st_rank st_freedoms st_isStiff st_worstBy st_worstPins r11.2.1 r11.2.2.1 r11.2.2.2)) h0 (c_X3_isOvertied l D cI cZ cS a4 a10 a11 a12 a13 a14 a15 a16 a1 a7 a8 a9 st_near st_tiedTo st_parts st_partCount st_carrying st_rank st_freedoms st_isStiff st_worstBy st_worstPins st_farEnd st_queue st_cameAlong fr_pins fr_bars fr_names fr_lesser fr_greater p1 r11 hF) (gV wq_387 wq_376 wq_377 wq_4 wq_378) hdX3_isOvertied ⟨Nat.le_of_ble_eq_true rfl, Nat.le_of_ble_eq_true rfl⟩ ⟨Nat.le_refl _, Nat.le_refl _⟩ hP hD hS hA 0 3 rfl rfl rfl [5, 6, 7, 8, 9, 10, 11, 12, 1, 2, 3, 4] rfl rfl rfl rfl hl.1 rfl (Nat.le_of_ble_eq_true rfl) dX6_barAt_104 (fun H locs hP hD hS => ?_)
              refine lv_if_eq (tgt := 114) hx hb dX6_barAt_107 (by decide) (fun c12 => ?_) (fun c12 => ?_)
              · have E := br_p E c12
                refine lv_iconst (v := 0) hx hb dX6_barAt_114 (by decide) ?_
                exact hfin _ (Option.some.inj E) _ _ _ _ hP hD hS dX6_barAt_115
              · have E := br_n E c12
                refine lv_iconst (v := 1) hx hb dX6_barAt_110 (by decide) ?_
                refine lv_goto (tgt := 115) hx hb dX6_barAt_111 (by decide) ?_
                exact hfin _ (Option.some.inj E) _ _ _ _ hP hD hS dX6_barAt_115
      · have E := br_p E c4
        refine lv_bipush (v := (-12)) hx hb dX6_barAt_20 (by decide) ?_
        exact hfin _ (Option.some.inj E) _ _ _ _ hP hD hS dX6_barAt_22
    · have E := br_n E c2
      refine lv_bipush (v := (-2)) hx hb dX6_barAt_9 (by decide) ?_
      exact hfin _ (Option.some.inj E) _ _ _ _ hP hD hS dX6_barAt_11
theorem hdX6_pin : yX6_pin.cls = RX6 ∧ yX6_pin.cls ≠ "java/lang/invoke/MethodHandle" ∧ yX6_pin.cls ≠ "java/lang/invoke/VarHandle" ∧ (parseMethodDescriptor yX6_pin.desc).map (fun d => d.parameters.length) = some 2 := by decide +kernel
noncomputable def FX6_pin (p1 p2 : Int32) (fr_pins fr_bars : Int32) (fr_names fr_lesser fr_greater st_tiedTo st_parts : Nat → Int32) (st_partCount st_carrying st_rank st_freedoms st_isStiff : Int32) (st_farEnd st_queue st_cameAlong : Nat → Int32) : Option (Int32 × (Nat → Int32) × (Nat → Int32) × Int32 × Int32 × Int32 × Int32 × Int32 × (Nat → Int32) × (Nat → Int32) × (Nat → Int32)) := ((FX6_isPin p1 fr_pins).bind (fun r1 => (if r1 = 0 then (some ((-2), st_tiedTo, st_parts, st_partCount, st_carrying, st_rank, st_freedoms, st_isStiff, st_farEnd, st_queue, st_cameAlong)) else (if p2 = 0 then ((FX0_neighbours p1 fr_bars fr_lesser fr_greater).bind (fun r4 => ((FJ6_bitCount r4).bind (fun r5 => (some (r5, st_tiedTo, st_parts, st_partCount, st_carrying, st_rank, st_freedoms, st_isStiff, st_farEnd, st_queue, st_cameAlong)))))) else (if p2 = 1 then ((FX0_neighbours p1 fr_bars fr_lesser fr_greater).bind (fun r7 => (some (r7, st_tiedTo, st_parts, st_partCount, st_carrying, st_rank, st_freedoms, st_isStiff, st_farEnd, st_queue, st_cameAlong)))) else (if p2 = 2 then ((FX3_settle st_carrying st_rank st_freedoms st_isStiff st_farEnd st_queue st_cameAlong fr_pins fr_bars fr_lesser fr_greater).bind (fun r9 => ((FX3_findParts fr_pins st_tiedTo st_parts st_partCount r9.2.2.2.2.1 r9.2.2.2.2.2.1 r9.2.2.2.2.2.2).bind (fun r10 => ((FX3_countPartsOf p1 r10.2.1 r10.2.2.1).bind (fun r11 => (some (r11, r10.1, r10.2.1, r10.2.2.1, r9.1, r9.2.1, r9.2.2.1, r9.2.2.2.1, r10.2.2.2.1, r10.2.2.2.2.1, r10.2.2.2.2.2)))))))) else (if p2 = 3 then ((FX0_letters p1 fr_names).bind (fun r13 => (some (r13, st_tiedTo, st_parts, st_partCount, st_carrying, st_rank, st_freedoms, st_isStiff, st_farEnd, st_queue, st_cameAlong)))) else (if p2 < 10 then (some ((-2), st_tiedTo, st_parts, st_partCount, st_carrying, st_rank, st_freedoms, st_isStiff, st_farEnd, st_queue, st_cameAlong)) else (if p2 < 14 then ((FX0_letter p1 (p2 - 10) fr_names).bind (fun r16 => (some (r16, st_tiedTo, st_parts, st_partCount, st_carrying, st_rank, st_freedoms, st_isStiff, st_farEnd, st_queue, st_cameAlong)))) else (some ((-2), st_tiedTo, st_parts, st_partCount, st_carrying, st_rank, st_freedoms, st_isStiff, st_farEnd, st_queue, st_cameAlong)))))))))))
set_option maxHeartbeats 4000000 in
set_option maxRecDepth 100000 in
theorem c_X6_pin (l : Launch) (D : va_G) (cI cZ cS : ClassId) (a0 a1 a2 a3 a4 a5 a6 a7 a8 a9 a10 a11 a12 a13 a14 a15 a16 : Nat) (v_isKept fr_pins fr_bars : Int32) (fr_names fr_lesser fr_greater st_near st_tiedTo st_parts : Nat → Int32) (st_partCount st_carrying st_rank st_freedoms st_isStiff st_worstBy st_worstPins : Int32) (st_farEnd st_queue st_cameAlong : Nat → Int32) (p1 p2 : Int32) (u : Int32 × (Nat → Int32) × (Nat → Int32) × Int32 × Int32 × Int32 × Int32 × Int32 × (Nat → Int32) × (Nat → Int32) × (Nat → Int32)) (hF : FX6_pin p1 p2 fr_pins fr_bars fr_names fr_lesser fr_greater st_tiedTo st_parts st_partCount st_carrying st_rank st_freedoms st_isStiff st_farEnd st_queue st_cameAlong = some u) : MCi l D (tyL cI cZ cS) yX6_pin cX6_pin 3 (some .int) 5 127 [.ref a0, .int p1, .int p2] (wX6 a0 a1 a2 a3 a4 a5 a6 v_isKept ++ wX0 cI a1 a7 a8 a9 fr_pins fr_bars fr_names fr_lesser fr_greater ++ wX3 cI a4 a10 a11 a12 a13 a14 a15 a16 st_near st_tiedTo st_parts st_partCount st_carrying st_rank st_freedoms st_isStiff st_worstBy st_worstPins st_farEnd st_queue st_cameAlong) (wX6 a0 a1 a2 a3 a4 a5 a6 v_isKept ++ wX0 cI a1 a7 a8 a9 fr_pins fr_bars fr_names fr_lesser fr_greater ++ wX3 cI a4 a10 a11 a12 a13 a14 a15 a16 st_near u.2.1 u.2.2.1 u.2.2.2.1 u.2.2.2.2.1 u.2.2.2.2.2.1 u.2.2.2.2.2.2.1 u.2.2.2.2.2.2.2.1 st_worstBy st_worstPins u.2.2.2.2.2.2.2.2.1 u.2.2.2.2.2.2.2.2.2.1 u.2.2.2.2.2.2.2.2.2.2) u.1 := by
  refine MCi.mk (by decide) (Nat.le_of_ble_eq_true rfl) ?_
  intro p e s m args below meth c A ls Q h0 hP hD hA hS hl hfin0
  have hfin : ∀ (u' : Int32 × (Nat → Int32) × (Nat → Int32) × Int32 × Int32 × Int32 × Int32 × Int32 × (Nat → Int32) × (Nat → Int32) × (Nat → Int32)), u' = u → ∀ (H : Heap) (locs : List Loc) (ls : Array Slot) (pc : Nat), va_P D vwCl (wX6 a0 a1 a2 a3 a4 a5 a6 v_isKept ++ wX0 cI a1 a7 a8 a9 fr_pins fr_bars fr_names fr_lesser fr_greater ++ wX3 cI a4 a10 a11 a12 a13 a14 a15 a16 st_near u'.2.1 u'.2.2.1 u'.2.2.2.1 u'.2.2.2.2.1 u'.2.2.2.2.2.1 u'.2.2.2.2.2.2.1 u'.2.2.2.2.2.2.2.1 st_worstBy st_worstPins u'.2.2.2.2.2.2.2.2.1 u'.2.2.2.2.2.2.2.2.2.1 u'.2.2.2.2.2.2.2.2.2.2) H → va_D A (wX6 a0 a1 a2 a3 a4 a5 a6 v_isKept ++ wX0 cI a1 a7 a8 a9 fr_pins fr_bars fr_names fr_lesser fr_greater ++ wX3 cI a4 a10 a11 a12 a13 a14 a15 a16 st_near u'.2.1 u'.2.2.1 u'.2.2.2.1 u'.2.2.2.2.1 u'.2.2.2.2.2.1 u'.2.2.2.2.2.2.1 u'.2.2.2.2.2.2.2.1 st_worstBy st_worstPins u'.2.2.2.2.2.2.2.2.1 u'.2.2.2.2.2.2.2.2.2.1 u'.2.2.2.2.2.2.2.2.2.2) → va_S A s.heap H locs → decode cX6_pin pc = .ok (.ireturn, 1) → W p l e (uR 5 127) s m args below meth c H locs 0 0 Q (F0 m pc ls [.int u'.1]) := by intro u' hu; subst hu; exact hfin0
  clear hfin0
  obtain ⟨hx, hb, hr, hlk, hml, hown, hts, hK⟩ := id h0
  have hl : lv_has ls 3 [(0, .ref a0), (1, .int p1), (2, .int p2)] := hl
  have E := hF
  refine lv_aload_n hx hb dX6_pin_0 rfl (lv_at hl 0 rfl) ?_
  refine lv_iload_n hx hb dX6_pin_1 rfl (lv_at hl 1 rfl) ?_
  obtain ⟨r1, hF, E⟩ := bn_e E
  refine callVi (wo := (wX6 a0 a1 a2 a3 a4 a5 a6 v_isKept ++ wX0 cI a1 a7 a8 a9 fr_pins fr_bars fr_names fr_lesser fr_greater ++ wX3 cI a4 a10 a11 a12 a13 a14 a15 a16 st_near st_tiedTo st_parts st_partCount st_carrying st_rank st_freedoms st_isStiff st_worstBy st_worstPins st_farEnd st_queue st_cameAlong)) h0 (c_X6_isPin l D cI cZ cS a0 a1 a2 a3 a4 a5 a6 a7 a8 a9 v_isKept fr_pins fr_bars fr_names fr_lesser fr_greater p1 r1 hF) (gV wq_276 wq_278 wp_5 wq_1 wq_279) hdX6_isPin ⟨Nat.le_of_ble_eq_true rfl, Nat.le_of_ble_eq_true rfl⟩ ⟨Nat.le_refl _, Nat.le_refl _⟩ hP hD hS hA 0 6 rfl rfl rfl [0, 1, 2, 3, 4] rfl rfl rfl rfl hl.1 rfl (Nat.le_of_ble_eq_true rfl) dX6_pin_2 (fun H locs hP hD hS => ?_)
  refine lv_if_ne (tgt := 11) hx hb dX6_pin_5 (by decide) (fun c2 => ?_) (fun c2 => ?_)
  · have E := br_n E c2
    refine lv_iload_n hx hb dX6_pin_11 rfl (lv_at hl 2 rfl) ?_
    by_cases c3 : p2 = 0
    · have E := br_p E c3
      refine lv_tableIn (off := 32) (tgt := 44) hx hb dX6_pin_12 (by rw [c3]; decide) (by rw [c3]; decide) (by rw [c3]; decide) (by decide) ?_
      refine lv_aload_n hx hb dX6_pin_44 rfl (lv_at hl 0 rfl) ?_
      refine gf_X6_10 h0 hP 0 rfl rfl dX6_pin_45 ?_
      refine lv_iload_n hx hb dX6_pin_48 rfl (lv_at hl 1 rfl) ?_
      obtain ⟨r4, hF, E⟩ := bn_e E
      refine callVi (wo := (wX6 a0 a1 a2 a3 a4 a5 a6 v_isKept ++ wX0 cI a1 a7 a8 a9 fr_pins fr_bars fr_names fr_lesser fr_greater ++ wX3 cI a4 a10 a11 a12 a13 a14 a15 a16 st_near st_tiedTo st_parts st_partCount st_carrying st_rank st_freedoms st_isStiff st_worstBy st_worstPins st_farEnd st_queue st_cameAlong)) h0 (c_X0_neighbours l D cI cZ cS a1 a7 a8 a9 fr_pins fr_bars fr_names fr_lesser fr_greater p1 r4 hF) (gV wq_392 wq_393 wq_394 wq_2 wq_395) hdX0_neighbours ⟨Nat.le_of_ble_eq_true rfl, Nat.le_of_ble_eq_true rfl⟩ ⟨Nat.le_refl _, Nat.le_refl _⟩ hP hD hS hA 0 0 rfl rfl rfl [1, 2, 3, 4] rfl rfl rfl rfl hl.1 rfl (Nat.le_of_ble_eq_true rfl) dX6_pin_49 (fun H locs hP hD hS => ?_)
      obtain ⟨r5, hF, E⟩ := bn_e E
      refine callSi (wo := (wX6 a0 a1 a2 a3 a4 a5 a6 v_isKept ++ wX0 cI a1 a7 a8 a9 fr_pins fr_bars fr_names fr_lesser fr_greater ++ wX3 cI a4 a10 a11 a12 a13 a14 a15 a16 st_near st_tiedTo st_parts st_partCount st_carrying st_rank st_freedoms st_isStiff st_worstBy st_worstPins st_farEnd st_queue st_cameAlong)) h0 (c_J6_bitCount l D cI cZ cS r4 r5 hF) (gS wq_396 wq_358 wq_10 wq_359) hdJ6_bitCount ⟨Nat.le_of_ble_eq_true rfl, Nat.le_of_ble_eq_true rfl⟩ ⟨Nat.le_refl _, Nat.le_refl _⟩ hP hD hS hA [] rfl rfl rfl rfl hl.1 rfl (Nat.le_of_ble_eq_true rfl) dX6_pin_52 (fun H locs hP hD hS => ?_)
      exact hfin _ (Option.some.inj E) _ _ _ _ hP hD hS dX6_pin_55
    · have E := br_n E c3
      by_cases c6 : p2 = 1
      · have E := br_p E c6
        refine lv_tableIn (off := 44) (tgt := 56) hx hb dX6_pin_12 (by rw [c6]; decide) (by rw [c6]; decide) (by rw [c6]; decide) (by decide) ?_
        refine lv_aload_n hx hb dX6_pin_56 rfl (lv_at hl 0 rfl) ?_
        refine gf_X6_10 h0 hP 0 rfl rfl dX6_pin_57 ?_
        refine lv_iload_n hx hb dX6_pin_60 rfl (lv_at hl 1 rfl) ?_
        obtain ⟨r7, hF, E⟩ := bn_e E
        refine callVi (wo := (wX6 a0 a1 a2 a3 a4 a5 a6 v_isKept ++ wX0 cI a1 a7 a8 a9 fr_pins fr_bars fr_names fr_lesser fr_greater ++ wX3 cI a4 a10 a11 a12 a13 a14 a15 a16 st_near st_tiedTo st_parts st_partCount st_carrying st_rank st_freedoms st_isStiff st_worstBy st_worstPins st_farEnd st_queue st_cameAlong)) h0 (c_X0_neighbours l D cI cZ cS a1 a7 a8 a9 fr_pins fr_bars fr_names fr_lesser fr_greater p1 r7 hF) (gV wq_392 wq_393 wq_394 wq_2 wq_395) hdX0_neighbours ⟨Nat.le_of_ble_eq_true rfl, Nat.le_of_ble_eq_true rfl⟩ ⟨Nat.le_refl _, Nat.le_refl _⟩ hP hD hS hA 0 0 rfl rfl rfl [1, 2, 3, 4] rfl rfl rfl rfl hl.1 rfl (Nat.le_of_ble_eq_true rfl) dX6_pin_61 (fun H locs hP hD hS => ?_)
        exact hfin _ (Option.some.inj E) _ _ _ _ hP hD hS dX6_pin_64
      · have E := br_n E c6
        by_cases c8 : p2 = 2
        · have E := br_p E c8
          refine lv_tableIn (off := 53) (tgt := 65) hx hb dX6_pin_12 (by rw [c8]; decide) (by rw [c8]; decide) (by rw [c8]; decide) (by decide) ?_
          refine lv_aload_n hx hb dX6_pin_65 rfl (lv_at hl 0 rfl) ?_
          refine gf_X6_33 h0 hP 0 rfl rfl dX6_pin_66 ?_
          refine lv_aload_n hx hb dX6_pin_69 rfl (lv_at hl 0 rfl) ?_
          refine gf_X6_10 h0 hP 0 rfl rfl dX6_pin_70 ?_
          obtain ⟨r9, hF, E⟩ := bn_e E
          refine callVv (wo := (wX6 a0 a1 a2 a3 a4 a5 a6 v_isKept ++ wX0 cI a1 a7 a8 a9 fr_pins fr_bars fr_names fr_lesser fr_greater ++ wX3 cI a4 a10 a11 a12 a13 a14 a15 a16 st_near st_tiedTo st_parts st_partCount r9.1 r9.2.1 r9.2.2.1 r9.2.2.2.1 st_worstBy st_worstPins r9.2.2.2.2.1 r9.2.2.2.2.2.1 r9.2.2.2.2.2.2)) h0 (c_X3_settle l D cI cZ cS a4 a10 a11 a12 a13 a14 a15 a16 a1 a7 a8 a9 st_near st_tiedTo st_parts st_partCount st_carrying st_rank st_freedoms st_isStiff st_worstBy st_worstPins st_farEnd st_queue st_cameAlong fr_pins fr_bars fr_names fr_lesser fr_greater r9 hF) (gV wq_321 wq_322 wq_323 wq_4 wq_324) hdX3_settle ⟨Nat.le_of_ble_eq_true rfl, Nat.le_of_ble_eq_true rfl⟩ ⟨Nat.le_refl _, Nat.le_refl _⟩ hP hD hS hA 0 3 rfl rfl rfl [5, 6, 7, 8, 9, 10, 11, 12, 1, 2, 3, 4] rfl rfl rfl rfl hl.1 rfl (Nat.le_of_ble_eq_true rfl) dX6_pin_73 (fun H locs hP hD hS => ?_)
          refine lv_aload_n hx hb dX6_pin_76 rfl (lv_at hl 0 rfl) ?_
          refine gf_X6_33 h0 hP 0 rfl rfl dX6_pin_77 ?_
          refine lv_aload_n hx hb dX6_pin_80 rfl (lv_at hl 0 rfl) ?_
          refine gf_X6_10 h0 hP 0 rfl rfl dX6_pin_81 ?_
          refine gf_X6_95 h0 hP 1 rfl rfl dX6_pin_84 ?_
          obtain ⟨r10, hF, E⟩ := bn_e E
          refine callVv (wo := (wX6 a0 a1 a2 a3 a4 a5 a6 v_isKept ++ wX0 cI a1 a7 a8 a9 fr_pins fr_bars fr_names fr_lesser fr_greater ++ wX3 cI a4 a10 a11 a12 a13 a14 a15 a16 st_near r10.1 r10.2.1 r10.2.2.1 r9.1 r9.2.1 r9.2.2.1 r9.2.2.2.1 st_worstBy st_worstPins r10.2.2.2.1 r10.2.2.2.2.1 r10.2.2.2.2.2)) h0 (c_X3_findParts l D cI cZ cS a4 a10 a11 a12 a13 a14 a15 a16 st_near st_tiedTo st_parts st_partCount r9.1 r9.2.1 r9.2.2.1 r9.2.2.2.1 st_worstBy st_worstPins r9.2.2.2.2.1 r9.2.2.2.2.2.1 r9.2.2.2.2.2.2 fr_pins r10 hF) (gV wq_363 wq_364 wq_365 wq_4 wq_366) hdX3_findParts ⟨Nat.le_of_ble_eq_true rfl, Nat.le_of_ble_eq_true rfl⟩ ⟨Nat.le_refl _, Nat.le_refl _⟩ hP hD hS hA 0 3 rfl rfl rfl [5, 6, 7, 8, 9, 10, 11, 12] rfl rfl rfl rfl hl.1 rfl (Nat.le_of_ble_eq_true rfl) dX6_pin_87 (fun H locs hP hD hS => ?_)
          refine lv_aload_n hx hb dX6_pin_90 rfl (lv_at hl 0 rfl) ?_
          refine gf_X6_33 h0 hP 0 rfl rfl dX6_pin_91 ?_
          refine lv_iload_n hx hb dX6_pin_94 rfl (lv_at hl 1 rfl) ?_
          obtain ⟨r11, hF, E⟩ := bn_e E
          refine callVi (wo := (wX6 a0 a1 a2 a3 a4 a5 a6 v_isKept ++ wX0 cI a1 a7 a8 a9 fr_pins fr_bars fr_names fr_lesser fr_greater ++ wX3 cI a4 a10 a11 a12 a13 a14 a15 a16 st_near r10.1 r10.2.1 r10.2.2.1 r9.1 r9.2.1 r9.2.2.1 r9.2.2.2.1 st_worstBy st_worstPins r10.2.2.2.1 r10.2.2.2.2.1 r10.2.2.2.2.2)) h0 (c_X3_countPartsOf l D cI cZ cS a4 a10 a11 a12 a13 a14 a15 a16 st_near r10.1 r10.2.1 r10.2.2.1 r9.1 r9.2.1 r9.2.2.1 r9.2.2.2.1 st_worstBy st_worstPins r10.2.2.2.1 r10.2.2.2.2.1 r10.2.2.2.2.2 p1 r11 hF) (gV wq_397 wq_398 wq_399 wq_4 wq_400) hdX3_countPartsOf ⟨Nat.le_of_ble_eq_true rfl, Nat.le_of_ble_eq_true rfl⟩ ⟨Nat.le_refl _, Nat.le_refl _⟩ hP hD hS hA 0 3 rfl rfl rfl [5, 6, 7, 8, 9, 10, 11, 12] rfl rfl rfl rfl hl.1 rfl (Nat.le_of_ble_eq_true rfl) dX6_pin_95 (fun H locs hP hD hS => ?_)
          exact hfin _ (Option.some.inj E) _ _ _ _ hP hD hS dX6_pin_98
        · have E := br_n E c8
          by_cases c12 : p2 = 3
          · have E := br_p E c12
            refine lv_tableIn (off := 87) (tgt := 99) hx hb dX6_pin_12 (by rw [c12]; decide) (by rw [c12]; decide) (by rw [c12]; decide) (by decide) ?_
            refine lv_aload_n hx hb dX6_pin_99 rfl (lv_at hl 0 rfl) ?_
            refine gf_X6_10 h0 hP 0 rfl rfl dX6_pin_100 ?_
            refine lv_iload_n hx hb dX6_pin_103 rfl (lv_at hl 1 rfl) ?_
            obtain ⟨r13, hF, E⟩ := bn_e E
            refine callVi (wo := (wX6 a0 a1 a2 a3 a4 a5 a6 v_isKept ++ wX0 cI a1 a7 a8 a9 fr_pins fr_bars fr_names fr_lesser fr_greater ++ wX3 cI a4 a10 a11 a12 a13 a14 a15 a16 st_near st_tiedTo st_parts st_partCount st_carrying st_rank st_freedoms st_isStiff st_worstBy st_worstPins st_farEnd st_queue st_cameAlong)) h0 (c_X0_letters l D cI cZ cS a1 a7 a8 a9 fr_pins fr_bars fr_names fr_lesser fr_greater p1 r13 hF) (gV wq_401 wq_402 wq_403 wq_2 wq_404) hdX0_letters ⟨Nat.le_of_ble_eq_true rfl, Nat.le_of_ble_eq_true rfl⟩ ⟨Nat.le_refl _, Nat.le_refl _⟩ hP hD hS hA 0 0 rfl rfl rfl [1, 2, 3, 4] rfl rfl rfl rfl hl.1 rfl (Nat.le_of_ble_eq_true rfl) dX6_pin_104 (fun H locs hP hD hS => ?_)
            exact hfin _ (Option.some.inj E) _ _ _ _ hP hD hS dX6_pin_107
          · have E := br_n E c12
            refine lv_tableOut (tgt := 108) hx hb dX6_pin_12 (tsw_out 3 (by decide) (fun k hk => by match k, hk with | 0, _ => exact c3 | 1, _ => exact c6 | 2, _ => exact c8 | 3, _ => exact c12 | k + 4, hk => exact absurd hk (by omega))) (by decide) ?_
            refine lv_iload_n hx hb dX6_pin_108 rfl (lv_at hl 2 rfl) ?_
            refine lv_bipush (v := 10) hx hb dX6_pin_109 (by decide) ?_
            refine lv_icmp_lt (tgt := 120) hx hb dX6_pin_111 (by decide) (fun c14 => ?_) (fun c14 => ?_)
            · have E := br_p E c14
              refine lv_bipush (v := (-2)) hx hb dX6_pin_120 (by decide) ?_
              exact hfin _ (Option.some.inj E) _ _ _ _ hP hD hS dX6_pin_122
            · have E := br_n E c14
              refine lv_iload_n hx hb dX6_pin_114 rfl (lv_at hl 2 rfl) ?_
              refine lv_bipush (v := 14) hx hb dX6_pin_115 (by decide) ?_
              refine lv_icmp_lt (tgt := 123) hx hb dX6_pin_117 (by decide) (fun c15 => ?_) (fun c15 => ?_)
              · have E := br_p E c15
                refine lv_aload_n hx hb dX6_pin_123 rfl (lv_at hl 0 rfl) ?_
                refine gf_X6_10 h0 hP 0 rfl rfl dX6_pin_124 ?_
                refine lv_iload_n hx hb dX6_pin_127 rfl (lv_at hl 1 rfl) ?_
                refine lv_iload_n hx hb dX6_pin_128 rfl (lv_at hl 2 rfl) ?_
                refine lv_bipush (v := 10) hx hb dX6_pin_129 (by decide) ?_
                refine lv_isub hx hb dX6_pin_131 ?_
                obtain ⟨r16, hF, E⟩ := bn_e E
                refine callVi (wo := (wX6 a0 a1 a2 a3 a4 a5 a6 v_isKept ++ wX0 cI a1 a7 a8 a9 fr_pins fr_bars fr_names fr_lesser fr_greater ++ wX3 cI a4 a10 a11 a12 a13 a14 a15 a16 st_near st_tiedTo st_parts st_partCount st_carrying st_rank st_freedoms st_isStiff st_worstBy st_worstPins st_farEnd st_queue st_cameAlong)) h0 (c_X0_letter l D cI cZ cS a1 a7 a8 a9 fr_pins fr_bars fr_names fr_lesser fr_greater p1 (p2 - 10) r16 hF) (gV wq_405 wq_406 wq_407 wq_2 wq_408) hdX0_letter ⟨Nat.le_of_ble_eq_true rfl, Nat.le_of_ble_eq_true rfl⟩ ⟨Nat.le_refl _, Nat.le_refl _⟩ hP hD hS hA 0 0 rfl rfl rfl [1, 2, 3, 4] rfl rfl rfl rfl hl.1 rfl (Nat.le_of_ble_eq_true rfl) dX6_pin_132 (fun H locs hP hD hS => ?_)
                exact hfin _ (Option.some.inj E) _ _ _ _ hP hD hS dX6_pin_135
              · have E := br_n E c15
                refine lv_bipush (v := (-2)) hx hb dX6_pin_120 (by decide) ?_
                exact hfin _ (Option.some.inj E) _ _ _ _ hP hD hS dX6_pin_122
  · have E := br_p E c2
    refine lv_bipush (v := (-2)) hx hb dX6_pin_8 (by decide) ?_
    exact hfin _ (Option.some.inj E) _ _ _ _ hP hD hS dX6_pin_10
theorem hdX6_between : yX6_between.cls = RX6 ∧ yX6_between.cls ≠ "java/lang/invoke/MethodHandle" ∧ yX6_between.cls ≠ "java/lang/invoke/VarHandle" ∧ (parseMethodDescriptor yX6_between.desc).map (fun d => d.parameters.length) = some 2 := by decide +kernel
noncomputable def FX6_between (p1 p2 : Int32) (fr_pins fr_bars : Int32) (fr_lesser fr_greater : Nat → Int32) : Option (Int32) := ((FX6_areUnlikePins p1 p2 fr_pins).bind (fun r1 => (if r1 = 0 then (some (-2)) else ((FX0_placeOf p1 p2 fr_bars fr_lesser fr_greater).bind (fun r3 => (some r3))))))
set_option maxHeartbeats 4000000 in
set_option maxRecDepth 100000 in
theorem c_X6_between (l : Launch) (D : va_G) (cI cZ cS : ClassId) (a0 a1 a2 a3 a4 a5 a6 a7 a8 a9 : Nat) (v_isKept fr_pins fr_bars : Int32) (fr_names fr_lesser fr_greater : Nat → Int32) (p1 p2 : Int32) (u : Int32) (hF : FX6_between p1 p2 fr_pins fr_bars fr_lesser fr_greater = some u) : MCi l D (tyL cI cZ cS) yX6_between cX6_between 3 (some .int) 2 46 [.ref a0, .int p1, .int p2] (wX6 a0 a1 a2 a3 a4 a5 a6 v_isKept ++ wX0 cI a1 a7 a8 a9 fr_pins fr_bars fr_names fr_lesser fr_greater) (wX6 a0 a1 a2 a3 a4 a5 a6 v_isKept ++ wX0 cI a1 a7 a8 a9 fr_pins fr_bars fr_names fr_lesser fr_greater) u := by
  refine MCi.mk (by decide) (Nat.le_of_ble_eq_true rfl) ?_
  intro p e s m args below meth c A ls Q h0 hP hD hA hS hl hfin0
  have hfin : ∀ (u' : Int32), u' = u → ∀ (H : Heap) (locs : List Loc) (ls : Array Slot) (pc : Nat), va_P D vwCl (wX6 a0 a1 a2 a3 a4 a5 a6 v_isKept ++ wX0 cI a1 a7 a8 a9 fr_pins fr_bars fr_names fr_lesser fr_greater) H → va_D A (wX6 a0 a1 a2 a3 a4 a5 a6 v_isKept ++ wX0 cI a1 a7 a8 a9 fr_pins fr_bars fr_names fr_lesser fr_greater) → va_S A s.heap H locs → decode cX6_between pc = .ok (.ireturn, 1) → W p l e (uR 2 46) s m args below meth c H locs 0 0 Q (F0 m pc ls [.int u']) := by intro u' hu; subst hu; exact hfin0
  clear hfin0
  obtain ⟨hx, hb, hr, hlk, hml, hown, hts, hK⟩ := id h0
  have hl : lv_has ls 3 [(0, .ref a0), (1, .int p1), (2, .int p2)] := hl
  have E := hF
  refine lv_aload_n hx hb dX6_between_0 rfl (lv_at hl 0 rfl) ?_
  refine lv_iload_n hx hb dX6_between_1 rfl (lv_at hl 1 rfl) ?_
  refine lv_iload_n hx hb dX6_between_2 rfl (lv_at hl 2 rfl) ?_
  obtain ⟨r1, hF, E⟩ := bn_e E
  refine callVfi (wo := (wX6 a0 a1 a2 a3 a4 a5 a6 v_isKept ++ wX0 cI a1 a7 a8 a9 fr_pins fr_bars fr_names fr_lesser fr_greater)) h0 (c_X6_areUnlikePins l D cI cZ cS a0 a1 a2 a3 a4 a5 a6 a7 a8 a9 v_isKept fr_pins fr_bars fr_names fr_lesser fr_greater p1 p2 r1 hF) (gV wq_272 wq_274 wp_4 wq_1 wq_275) hdX6_areUnlikePins ⟨Nat.le_of_ble_eq_true rfl, Nat.le_of_ble_eq_true rfl⟩ ⟨Nat.le_refl _, Nat.le_refl _⟩ hP hD hS hA 0 6 rfl rfl rfl hl.1 rfl (Nat.le_of_ble_eq_true rfl) dX6_between_3 (fun H locs hP hD hS => ?_)
  refine lv_if_ne (tgt := 12) hx hb dX6_between_6 (by decide) (fun c2 => ?_) (fun c2 => ?_)
  · have E := br_n E c2
    refine lv_aload_n hx hb dX6_between_12 rfl (lv_at hl 0 rfl) ?_
    refine gf_X6_10 h0 hP 0 rfl rfl dX6_between_13 ?_
    refine lv_iload_n hx hb dX6_between_16 rfl (lv_at hl 1 rfl) ?_
    refine lv_iload_n hx hb dX6_between_17 rfl (lv_at hl 2 rfl) ?_
    obtain ⟨r3, hF, E⟩ := bn_e E
    refine callVi (wo := (wX6 a0 a1 a2 a3 a4 a5 a6 v_isKept ++ wX0 cI a1 a7 a8 a9 fr_pins fr_bars fr_names fr_lesser fr_greater)) h0 (c_X0_placeOf l D cI cZ cS a1 a7 a8 a9 fr_pins fr_bars fr_names fr_lesser fr_greater p1 p2 r3 hF) (gV wq_280 wq_281 wq_282 wq_2 wq_283) hdX0_placeOf ⟨Nat.le_of_ble_eq_true rfl, Nat.le_of_ble_eq_true rfl⟩ ⟨Nat.le_refl _, Nat.le_refl _⟩ hP hD hS hA 0 0 rfl rfl rfl [1, 2, 3, 4] rfl rfl rfl rfl hl.1 rfl (Nat.le_of_ble_eq_true rfl) dX6_between_18 (fun H locs hP hD hS => ?_)
    exact hfin _ (Option.some.inj E) _ _ _ _ hP hD hS dX6_between_21
  · have E := br_p E c2
    refine lv_bipush (v := (-2)) hx hb dX6_between_9 (by decide) ?_
    exact hfin _ (Option.some.inj E) _ _ _ _ hP hD hS dX6_between_11
theorem hdX6_tied : yX6_tied.cls = RX6 ∧ yX6_tied.cls ≠ "java/lang/invoke/MethodHandle" ∧ yX6_tied.cls ≠ "java/lang/invoke/VarHandle" ∧ (parseMethodDescriptor yX6_tied.desc).map (fun d => d.parameters.length) = some 2 := by decide +kernel
noncomputable def FX6_tied (p1 p2 : Int32) (fr_pins fr_bars : Int32) (fr_lesser fr_greater : Nat → Int32) (st_carrying st_rank st_freedoms st_isStiff : Int32) (st_farEnd st_queue st_cameAlong : Nat → Int32) : Option (Int32 × Int32 × Int32 × Int32 × Int32 × (Nat → Int32) × (Nat → Int32) × (Nat → Int32)) := ((FX6_areUnlikePins p1 p2 fr_pins).bind (fun r1 => (if r1 = 0 then (some ((-2), st_carrying, st_rank, st_freedoms, st_isStiff, st_farEnd, st_queue, st_cameAlong)) else ((FX3_settle st_carrying st_rank st_freedoms st_isStiff st_farEnd st_queue st_cameAlong fr_pins fr_bars fr_lesser fr_greater).bind (fun r3 => ((FX3_isTied p1 p2 r3.2.2.2.2.1 r3.2.2.2.2.2.1 r3.2.2.2.2.2.2).bind (fun r4 => (if r4.1 = 0 then (some (0, r3.1, r3.2.1, r3.2.2.1, r3.2.2.2.1, r4.2.1, r4.2.2.1, r4.2.2.2)) else (some (1, r3.1, r3.2.1, r3.2.2.1, r3.2.2.2.1, r4.2.1, r4.2.2.1, r4.2.2.2))))))))))
set_option maxHeartbeats 4000000 in
set_option maxRecDepth 100000 in
theorem c_X6_tied (l : Launch) (D : va_G) (cI cZ cS : ClassId) (a0 a1 a2 a3 a4 a5 a6 a7 a8 a9 a10 a11 a12 a13 a14 a15 a16 : Nat) (v_isKept fr_pins fr_bars : Int32) (fr_names fr_lesser fr_greater st_near st_tiedTo st_parts : Nat → Int32) (st_partCount st_carrying st_rank st_freedoms st_isStiff st_worstBy st_worstPins : Int32) (st_farEnd st_queue st_cameAlong : Nat → Int32) (p1 p2 : Int32) (u : Int32 × Int32 × Int32 × Int32 × Int32 × (Nat → Int32) × (Nat → Int32) × (Nat → Int32)) (hF : FX6_tied p1 p2 fr_pins fr_bars fr_lesser fr_greater st_carrying st_rank st_freedoms st_isStiff st_farEnd st_queue st_cameAlong = some u) : MCi l D (tyL cI cZ cS) yX6_tied cX6_tied 3 (some .int) 5 126 [.ref a0, .int p1, .int p2] (wX6 a0 a1 a2 a3 a4 a5 a6 v_isKept ++ wX0 cI a1 a7 a8 a9 fr_pins fr_bars fr_names fr_lesser fr_greater ++ wX3 cI a4 a10 a11 a12 a13 a14 a15 a16 st_near st_tiedTo st_parts st_partCount st_carrying st_rank st_freedoms st_isStiff st_worstBy st_worstPins st_farEnd st_queue st_cameAlong) (wX6 a0 a1 a2 a3 a4 a5 a6 v_isKept ++ wX0 cI a1 a7 a8 a9 fr_pins fr_bars fr_names fr_lesser fr_greater ++ wX3 cI a4 a10 a11 a12 a13 a14 a15 a16 st_near st_tiedTo st_parts st_partCount u.2.1 u.2.2.1 u.2.2.2.1 u.2.2.2.2.1 st_worstBy st_worstPins u.2.2.2.2.2.1 u.2.2.2.2.2.2.1 u.2.2.2.2.2.2.2) u.1 := by
  refine MCi.mk (by decide) (Nat.le_of_ble_eq_true rfl) ?_
  intro p e s m args below meth c A ls Q h0 hP hD hA hS hl hfin0
  have hfin : ∀ (u' : Int32 × Int32 × Int32 × Int32 × Int32 × (Nat → Int32) × (Nat → Int32) × (Nat → Int32)), u' = u → ∀ (H : Heap) (locs : List Loc) (ls : Array Slot) (pc : Nat), va_P D vwCl (wX6 a0 a1 a2 a3 a4 a5 a6 v_isKept ++ wX0 cI a1 a7 a8 a9 fr_pins fr_bars fr_names fr_lesser fr_greater ++ wX3 cI a4 a10 a11 a12 a13 a14 a15 a16 st_near st_tiedTo st_parts st_partCount u'.2.1 u'.2.2.1 u'.2.2.2.1 u'.2.2.2.2.1 st_worstBy st_worstPins u'.2.2.2.2.2.1 u'.2.2.2.2.2.2.1 u'.2.2.2.2.2.2.2) H → va_D A (wX6 a0 a1 a2 a3 a4 a5 a6 v_isKept ++ wX0 cI a1 a7 a8 a9 fr_pins fr_bars fr_names fr_lesser fr_greater ++ wX3 cI a4 a10 a11 a12 a13 a14 a15 a16 st_near st_tiedTo st_parts st_partCount u'.2.1 u'.2.2.1 u'.2.2.2.1 u'.2.2.2.2.1 st_worstBy st_worstPins u'.2.2.2.2.2.1 u'.2.2.2.2.2.2.1 u'.2.2.2.2.2.2.2) → va_S A s.heap H locs → decode cX6_tied pc = .ok (.ireturn, 1) → W p l e (uR 5 126) s m args below meth c H locs 0 0 Q (F0 m pc ls [.int u'.1]) := by intro u' hu; subst hu; exact hfin0
  clear hfin0
  obtain ⟨hx, hb, hr, hlk, hml, hown, hts, hK⟩ := id h0
  have hl : lv_has ls 3 [(0, .ref a0), (1, .int p1), (2, .int p2)] := hl
  have E := hF
  refine lv_aload_n hx hb dX6_tied_0 rfl (lv_at hl 0 rfl) ?_
  refine lv_iload_n hx hb dX6_tied_1 rfl (lv_at hl 1 rfl) ?_
  refine lv_iload_n hx hb dX6_tied_2 rfl (lv_at hl 2 rfl) ?_
  obtain ⟨r1, hF, E⟩ := bn_e E
  refine callVi (wo := (wX6 a0 a1 a2 a3 a4 a5 a6 v_isKept ++ wX0 cI a1 a7 a8 a9 fr_pins fr_bars fr_names fr_lesser fr_greater ++ wX3 cI a4 a10 a11 a12 a13 a14 a15 a16 st_near st_tiedTo st_parts st_partCount st_carrying st_rank st_freedoms st_isStiff st_worstBy st_worstPins st_farEnd st_queue st_cameAlong)) h0 (c_X6_areUnlikePins l D cI cZ cS a0 a1 a2 a3 a4 a5 a6 a7 a8 a9 v_isKept fr_pins fr_bars fr_names fr_lesser fr_greater p1 p2 r1 hF) (gV wq_272 wq_274 wp_4 wq_1 wq_275) hdX6_areUnlikePins ⟨Nat.le_of_ble_eq_true rfl, Nat.le_of_ble_eq_true rfl⟩ ⟨Nat.le_refl _, Nat.le_refl _⟩ hP hD hS hA 0 6 rfl rfl rfl [0, 1, 2, 3, 4] rfl rfl rfl rfl hl.1 rfl (Nat.le_of_ble_eq_true rfl) dX6_tied_3 (fun H locs hP hD hS => ?_)
  refine lv_if_ne (tgt := 12) hx hb dX6_tied_6 (by decide) (fun c2 => ?_) (fun c2 => ?_)
  · have E := br_n E c2
    refine lv_aload_n hx hb dX6_tied_12 rfl (lv_at hl 0 rfl) ?_
    refine gf_X6_33 h0 hP 0 rfl rfl dX6_tied_13 ?_
    refine lv_aload_n hx hb dX6_tied_16 rfl (lv_at hl 0 rfl) ?_
    refine gf_X6_10 h0 hP 0 rfl rfl dX6_tied_17 ?_
    obtain ⟨r3, hF, E⟩ := bn_e E
    refine callVv (wo := (wX6 a0 a1 a2 a3 a4 a5 a6 v_isKept ++ wX0 cI a1 a7 a8 a9 fr_pins fr_bars fr_names fr_lesser fr_greater ++ wX3 cI a4 a10 a11 a12 a13 a14 a15 a16 st_near st_tiedTo st_parts st_partCount r3.1 r3.2.1 r3.2.2.1 r3.2.2.2.1 st_worstBy st_worstPins r3.2.2.2.2.1 r3.2.2.2.2.2.1 r3.2.2.2.2.2.2)) h0 (c_X3_settle l D cI cZ cS a4 a10 a11 a12 a13 a14 a15 a16 a1 a7 a8 a9 st_near st_tiedTo st_parts st_partCount st_carrying st_rank st_freedoms st_isStiff st_worstBy st_worstPins st_farEnd st_queue st_cameAlong fr_pins fr_bars fr_names fr_lesser fr_greater r3 hF) (gV wq_321 wq_322 wq_323 wq_4 wq_324) hdX3_settle ⟨Nat.le_of_ble_eq_true rfl, Nat.le_of_ble_eq_true rfl⟩ ⟨Nat.le_refl _, Nat.le_refl _⟩ hP hD hS hA 0 3 rfl rfl rfl [5, 6, 7, 8, 9, 10, 11, 12, 1, 2, 3, 4] rfl rfl rfl rfl hl.1 rfl (Nat.le_of_ble_eq_true rfl) dX6_tied_20 (fun H locs hP hD hS => ?_)
    refine lv_aload_n hx hb dX6_tied_23 rfl (lv_at hl 0 rfl) ?_
    refine gf_X6_33 h0 hP 0 rfl rfl dX6_tied_24 ?_
    refine lv_iload_n hx hb dX6_tied_27 rfl (lv_at hl 1 rfl) ?_
    refine lv_iload_n hx hb dX6_tied_28 rfl (lv_at hl 2 rfl) ?_
    obtain ⟨r4, hF, E⟩ := bn_e E
    refine callVi (wo := (wX6 a0 a1 a2 a3 a4 a5 a6 v_isKept ++ wX0 cI a1 a7 a8 a9 fr_pins fr_bars fr_names fr_lesser fr_greater ++ wX3 cI a4 a10 a11 a12 a13 a14 a15 a16 st_near st_tiedTo st_parts st_partCount r3.1 r3.2.1 r3.2.2.1 r3.2.2.2.1 st_worstBy st_worstPins r4.2.1 r4.2.2.1 r4.2.2.2)) h0 (c_X3_isTied l D cI cZ cS a4 a10 a11 a12 a13 a14 a15 a16 st_near st_tiedTo st_parts st_partCount r3.1 r3.2.1 r3.2.2.1 r3.2.2.2.1 st_worstBy st_worstPins r3.2.2.2.2.1 r3.2.2.2.2.2.1 r3.2.2.2.2.2.2 p1 p2 r4 hF) (gV wq_418 wq_419 wq_420 wq_4 wq_421) hdX3_isTied ⟨Nat.le_of_ble_eq_true rfl, Nat.le_of_ble_eq_true rfl⟩ ⟨Nat.le_refl _, Nat.le_refl _⟩ hP hD hS hA 0 3 rfl rfl rfl [5, 6, 7, 8, 9, 10, 11, 12] rfl rfl rfl rfl hl.1 rfl (Nat.le_of_ble_eq_true rfl) dX6_tied_29 (fun H locs hP hD hS => ?_)
    refine lv_if_eq (tgt := 39) hx hb dX6_tied_32 (by decide) (fun c5 => ?_) (fun c5 => ?_)
    · have E := br_p E c5
      refine lv_iconst (v := 0) hx hb dX6_tied_39 (by decide) ?_
      exact hfin _ (Option.some.inj E) _ _ _ _ hP hD hS dX6_tied_40
    · have E := br_n E c5
      refine lv_iconst (v := 1) hx hb dX6_tied_35 (by decide) ?_
      refine lv_goto (tgt := 40) hx hb dX6_tied_36 (by decide) ?_
      exact hfin _ (Option.some.inj E) _ _ _ _ hP hD hS dX6_tied_40
  · have E := br_p E c2
    refine lv_bipush (v := (-2)) hx hb dX6_tied_9 (by decide) ?_
    exact hfin _ (Option.some.inj E) _ _ _ _ hP hD hS dX6_tied_11
theorem hdX6_part : yX6_part.cls = RX6 ∧ yX6_part.cls ≠ "java/lang/invoke/MethodHandle" ∧ yX6_part.cls ≠ "java/lang/invoke/VarHandle" ∧ (parseMethodDescriptor yX6_part.desc).map (fun d => d.parameters.length) = some 1 := by decide +kernel
noncomputable def FX6_part (p1 : Int32) (fr_pins fr_bars : Int32) (fr_lesser fr_greater st_tiedTo st_parts : Nat → Int32) (st_partCount st_carrying st_rank st_freedoms st_isStiff : Int32) (st_farEnd st_queue st_cameAlong : Nat → Int32) : Option (Int32 × (Nat → Int32) × (Nat → Int32) × Int32 × Int32 × Int32 × Int32 × Int32 × (Nat → Int32) × (Nat → Int32) × (Nat → Int32)) := ((FX3_settle st_carrying st_rank st_freedoms st_isStiff st_farEnd st_queue st_cameAlong fr_pins fr_bars fr_lesser fr_greater).bind (fun r1 => ((FX3_findParts fr_pins st_tiedTo st_parts st_partCount r1.2.2.2.2.1 r1.2.2.2.2.2.1 r1.2.2.2.2.2.2).bind (fun r2 => (if p1 < 0 then (some ((-12), r2.1, r2.2.1, r2.2.2.1, r1.1, r1.2.1, r1.2.2.1, r1.2.2.2.1, r2.2.2.2.1, r2.2.2.2.2.1, r2.2.2.2.2.2)) else (if p1 < r2.2.2.1 then (gd (vp_in p1 24) (some ((r2.2.1 p1.toNatClampNeg), r2.1, r2.2.1, r2.2.2.1, r1.1, r1.2.1, r1.2.2.1, r1.2.2.2.1, r2.2.2.2.1, r2.2.2.2.2.1, r2.2.2.2.2.2))) else (some ((-12), r2.1, r2.2.1, r2.2.2.1, r1.1, r1.2.1, r1.2.2.1, r1.2.2.2.1, r2.2.2.2.1, r2.2.2.2.2.1, r2.2.2.2.2.2))))))))
set_option maxHeartbeats 4000000 in
set_option maxRecDepth 100000 in
theorem c_X6_part (l : Launch) (D : va_G) (cI cZ cS : ClassId) (a0 a1 a2 a3 a4 a5 a6 a7 a8 a9 a10 a11 a12 a13 a14 a15 a16 : Nat) (v_isKept fr_pins fr_bars : Int32) (fr_names fr_lesser fr_greater st_near st_tiedTo st_parts : Nat → Int32) (st_partCount st_carrying st_rank st_freedoms st_isStiff st_worstBy st_worstPins : Int32) (st_farEnd st_queue st_cameAlong : Nat → Int32) (p1 : Int32) (u : Int32 × (Nat → Int32) × (Nat → Int32) × Int32 × Int32 × Int32 × Int32 × Int32 × (Nat → Int32) × (Nat → Int32) × (Nat → Int32)) (hF : FX6_part p1 fr_pins fr_bars fr_lesser fr_greater st_tiedTo st_parts st_partCount st_carrying st_rank st_freedoms st_isStiff st_farEnd st_queue st_cameAlong = some u) : MCi l D (tyL cI cZ cS) yX6_part cX6_part 2 (some .int) 5 127 [.ref a0, .int p1] (wX6 a0 a1 a2 a3 a4 a5 a6 v_isKept ++ wX0 cI a1 a7 a8 a9 fr_pins fr_bars fr_names fr_lesser fr_greater ++ wX3 cI a4 a10 a11 a12 a13 a14 a15 a16 st_near st_tiedTo st_parts st_partCount st_carrying st_rank st_freedoms st_isStiff st_worstBy st_worstPins st_farEnd st_queue st_cameAlong) (wX6 a0 a1 a2 a3 a4 a5 a6 v_isKept ++ wX0 cI a1 a7 a8 a9 fr_pins fr_bars fr_names fr_lesser fr_greater ++ wX3 cI a4 a10 a11 a12 a13 a14 a15 a16 st_near u.2.1 u.2.2.1 u.2.2.2.1 u.2.2.2.2.1 u.2.2.2.2.2.1 u.2.2.2.2.2.2.1 u.2.2.2.2.2.2.2.1 st_worstBy st_worstPins u.2.2.2.2.2.2.2.2.1 u.2.2.2.2.2.2.2.2.2.1 u.2.2.2.2.2.2.2.2.2.2) u.1 := by
  refine MCi.mk (by decide) (Nat.le_of_ble_eq_true rfl) ?_
  intro p e s m args below meth c A ls Q h0 hP hD hA hS hl hfin0
  have hfin : ∀ (u' : Int32 × (Nat → Int32) × (Nat → Int32) × Int32 × Int32 × Int32 × Int32 × Int32 × (Nat → Int32) × (Nat → Int32) × (Nat → Int32)), u' = u → ∀ (H : Heap) (locs : List Loc) (ls : Array Slot) (pc : Nat), va_P D vwCl (wX6 a0 a1 a2 a3 a4 a5 a6 v_isKept ++ wX0 cI a1 a7 a8 a9 fr_pins fr_bars fr_names fr_lesser fr_greater ++ wX3 cI a4 a10 a11 a12 a13 a14 a15 a16 st_near u'.2.1 u'.2.2.1 u'.2.2.2.1 u'.2.2.2.2.1 u'.2.2.2.2.2.1 u'.2.2.2.2.2.2.1 u'.2.2.2.2.2.2.2.1 st_worstBy st_worstPins u'.2.2.2.2.2.2.2.2.1 u'.2.2.2.2.2.2.2.2.2.1 u'.2.2.2.2.2.2.2.2.2.2) H → va_D A (wX6 a0 a1 a2 a3 a4 a5 a6 v_isKept ++ wX0 cI a1 a7 a8 a9 fr_pins fr_bars fr_names fr_lesser fr_greater ++ wX3 cI a4 a10 a11 a12 a13 a14 a15 a16 st_near u'.2.1 u'.2.2.1 u'.2.2.2.1 u'.2.2.2.2.1 u'.2.2.2.2.2.1 u'.2.2.2.2.2.2.1 u'.2.2.2.2.2.2.2.1 st_worstBy st_worstPins u'.2.2.2.2.2.2.2.2.1 u'.2.2.2.2.2.2.2.2.2.1 u'.2.2.2.2.2.2.2.2.2.2) → va_S A s.heap H locs → decode cX6_part pc = .ok (.ireturn, 1) → W p l e (uR 5 127) s m args below meth c H locs 0 0 Q (F0 m pc ls [.int u'.1]) := by intro u' hu; subst hu; exact hfin0
  clear hfin0
  obtain ⟨hx, hb, hr, hlk, hml, hown, hts, hK⟩ := id h0
  have hl : lv_has ls 2 [(0, .ref a0), (1, .int p1)] := hl
  have E := hF
  refine lv_aload_n hx hb dX6_part_0 rfl (lv_at hl 0 rfl) ?_
  refine gf_X6_33 h0 hP 0 rfl rfl dX6_part_1 ?_
  refine lv_aload_n hx hb dX6_part_4 rfl (lv_at hl 0 rfl) ?_
  refine gf_X6_10 h0 hP 0 rfl rfl dX6_part_5 ?_
  obtain ⟨r1, hF, E⟩ := bn_e E
  refine callVv (wo := (wX6 a0 a1 a2 a3 a4 a5 a6 v_isKept ++ wX0 cI a1 a7 a8 a9 fr_pins fr_bars fr_names fr_lesser fr_greater ++ wX3 cI a4 a10 a11 a12 a13 a14 a15 a16 st_near st_tiedTo st_parts st_partCount r1.1 r1.2.1 r1.2.2.1 r1.2.2.2.1 st_worstBy st_worstPins r1.2.2.2.2.1 r1.2.2.2.2.2.1 r1.2.2.2.2.2.2)) h0 (c_X3_settle l D cI cZ cS a4 a10 a11 a12 a13 a14 a15 a16 a1 a7 a8 a9 st_near st_tiedTo st_parts st_partCount st_carrying st_rank st_freedoms st_isStiff st_worstBy st_worstPins st_farEnd st_queue st_cameAlong fr_pins fr_bars fr_names fr_lesser fr_greater r1 hF) (gV wq_321 wq_322 wq_323 wq_4 wq_324) hdX3_settle ⟨Nat.le_of_ble_eq_true rfl, Nat.le_of_ble_eq_true rfl⟩ ⟨Nat.le_refl _, Nat.le_refl _⟩ hP hD hS hA 0 3 rfl rfl rfl [5, 6, 7, 8, 9, 10, 11, 12, 1, 2, 3, 4] rfl rfl rfl rfl hl.1 rfl (Nat.le_of_ble_eq_true rfl) dX6_part_8 (fun H locs hP hD hS => ?_)
  refine lv_aload_n hx hb dX6_part_11 rfl (lv_at hl 0 rfl) ?_
  refine gf_X6_33 h0 hP 0 rfl rfl dX6_part_12 ?_
  refine lv_aload_n hx hb dX6_part_15 rfl (lv_at hl 0 rfl) ?_
  refine gf_X6_10 h0 hP 0 rfl rfl dX6_part_16 ?_
  refine gf_X6_95 h0 hP 1 rfl rfl dX6_part_19 ?_
  obtain ⟨r2, hF, E⟩ := bn_e E
  refine callVv (wo := (wX6 a0 a1 a2 a3 a4 a5 a6 v_isKept ++ wX0 cI a1 a7 a8 a9 fr_pins fr_bars fr_names fr_lesser fr_greater ++ wX3 cI a4 a10 a11 a12 a13 a14 a15 a16 st_near r2.1 r2.2.1 r2.2.2.1 r1.1 r1.2.1 r1.2.2.1 r1.2.2.2.1 st_worstBy st_worstPins r2.2.2.2.1 r2.2.2.2.2.1 r2.2.2.2.2.2)) h0 (c_X3_findParts l D cI cZ cS a4 a10 a11 a12 a13 a14 a15 a16 st_near st_tiedTo st_parts st_partCount r1.1 r1.2.1 r1.2.2.1 r1.2.2.2.1 st_worstBy st_worstPins r1.2.2.2.2.1 r1.2.2.2.2.2.1 r1.2.2.2.2.2.2 fr_pins r2 hF) (gV wq_363 wq_364 wq_365 wq_4 wq_366) hdX3_findParts ⟨Nat.le_of_ble_eq_true rfl, Nat.le_of_ble_eq_true rfl⟩ ⟨Nat.le_refl _, Nat.le_refl _⟩ hP hD hS hA 0 3 rfl rfl rfl [5, 6, 7, 8, 9, 10, 11, 12] rfl rfl rfl rfl hl.1 rfl (Nat.le_of_ble_eq_true rfl) dX6_part_22 (fun H locs hP hD hS => ?_)
  refine lv_iload_n hx hb dX6_part_25 rfl (lv_at hl 1 rfl) ?_
  refine lv_if_lt (tgt := 40) hx hb dX6_part_26 (by decide) (fun c3 => ?_) (fun c3 => ?_)
  · have E := br_p E c3
    refine lv_bipush (v := (-12)) hx hb dX6_part_40 (by decide) ?_
    exact hfin _ (Option.some.inj E) _ _ _ _ hP hD hS dX6_part_42
  · have E := br_n E c3
    refine lv_iload_n hx hb dX6_part_29 rfl (lv_at hl 1 rfl) ?_
    refine lv_aload_n hx hb dX6_part_30 rfl (lv_at hl 0 rfl) ?_
    refine gf_X6_33 h0 hP 0 rfl rfl dX6_part_31 ?_
    refine gf_X6_113 h0 hP 5 rfl rfl dX6_part_34 ?_
    refine lv_icmp_lt (tgt := 43) hx hb dX6_part_37 (by decide) (fun c4 => ?_) (fun c4 => ?_)
    · have E := br_p E c4
      refine lv_aload_n hx hb dX6_part_43 rfl (lv_at hl 0 rfl) ?_
      refine gf_X6_33 h0 hP 0 rfl rfl dX6_part_44 ?_
      refine gf_X6_160 h0 hP 5 rfl rfl dX6_part_47 ?_
      refine lv_iload_n hx hb dX6_part_50 rfl (lv_at hl 1 rfl) ?_
      obtain ⟨g5, E⟩ := gd_e E
      refine aldi hx hb hK hP 8 rfl rfl g5 dX6_part_51 ?_
      exact hfin _ (Option.some.inj E) _ _ _ _ hP hD hS dX6_part_52
    · have E := br_n E c4
      refine lv_bipush (v := (-12)) hx hb dX6_part_40 (by decide) ?_
      exact hfin _ (Option.some.inj E) _ _ _ _ hP hD hS dX6_part_42
theorem hdX6_ring : yX6_ring.cls = RX6 ∧ yX6_ring.cls ≠ "java/lang/invoke/MethodHandle" ∧ yX6_ring.cls ≠ "java/lang/invoke/VarHandle" ∧ (parseMethodDescriptor yX6_ring.desc).map (fun d => d.parameters.length) = some 1 := by decide +kernel
noncomputable def FX6_ring (p1 : Int32) (fr_pins fr_bars : Int32) (fr_lesser fr_greater : Nat → Int32) (st_carrying st_rank st_freedoms st_isStiff : Int32) (st_farEnd st_queue st_cameAlong : Nat → Int32) : Option (Int32 × Int32 × Int32 × Int32 × Int32 × (Nat → Int32) × (Nat → Int32) × (Nat → Int32)) := ((FX6_isPlace p1 fr_bars).bind (fun r1 => (if r1 = 0 then (some ((-12), st_carrying, st_rank, st_freedoms, st_isStiff, st_farEnd, st_queue, st_cameAlong)) else ((FX3_settle st_carrying st_rank st_freedoms st_isStiff st_farEnd st_queue st_cameAlong fr_pins fr_bars fr_lesser fr_greater).bind (fun r3 => (if ((r3.1 >>> (p1 &&& 31)) &&& 1) = 1 then (some ((-3), r3.1, r3.2.1, r3.2.2.1, r3.2.2.2.1, r3.2.2.2.2.1, r3.2.2.2.2.2.1, r3.2.2.2.2.2.2)) else ((FX3_ringOf p1 r3.1 r3.2.2.2.2.1 r3.2.2.2.2.2.1 r3.2.2.2.2.2.2 fr_lesser fr_greater).bind (fun r5 => (some (r5.1, r3.1, r3.2.1, r3.2.2.1, r3.2.2.2.1, r5.2.1, r5.2.2.1, r5.2.2.2))))))))))
set_option maxHeartbeats 4000000 in
set_option maxRecDepth 100000 in
theorem c_X6_ring (l : Launch) (D : va_G) (cI cZ cS : ClassId) (a0 a1 a2 a3 a4 a5 a6 a7 a8 a9 a10 a11 a12 a13 a14 a15 a16 : Nat) (v_isKept fr_pins fr_bars : Int32) (fr_names fr_lesser fr_greater st_near st_tiedTo st_parts : Nat → Int32) (st_partCount st_carrying st_rank st_freedoms st_isStiff st_worstBy st_worstPins : Int32) (st_farEnd st_queue st_cameAlong : Nat → Int32) (p1 : Int32) (u : Int32 × Int32 × Int32 × Int32 × Int32 × (Nat → Int32) × (Nat → Int32) × (Nat → Int32)) (hF : FX6_ring p1 fr_pins fr_bars fr_lesser fr_greater st_carrying st_rank st_freedoms st_isStiff st_farEnd st_queue st_cameAlong = some u) : MCi l D (tyL cI cZ cS) yX6_ring cX6_ring 2 (some .int) 5 128 [.ref a0, .int p1] (wX6 a0 a1 a2 a3 a4 a5 a6 v_isKept ++ wX0 cI a1 a7 a8 a9 fr_pins fr_bars fr_names fr_lesser fr_greater ++ wX3 cI a4 a10 a11 a12 a13 a14 a15 a16 st_near st_tiedTo st_parts st_partCount st_carrying st_rank st_freedoms st_isStiff st_worstBy st_worstPins st_farEnd st_queue st_cameAlong) (wX6 a0 a1 a2 a3 a4 a5 a6 v_isKept ++ wX0 cI a1 a7 a8 a9 fr_pins fr_bars fr_names fr_lesser fr_greater ++ wX3 cI a4 a10 a11 a12 a13 a14 a15 a16 st_near st_tiedTo st_parts st_partCount u.2.1 u.2.2.1 u.2.2.2.1 u.2.2.2.2.1 st_worstBy st_worstPins u.2.2.2.2.2.1 u.2.2.2.2.2.2.1 u.2.2.2.2.2.2.2) u.1 := by
  refine MCi.mk (by decide) (Nat.le_of_ble_eq_true rfl) ?_
  intro p e s m args below meth c A ls Q h0 hP hD hA hS hl hfin0
  have hfin : ∀ (u' : Int32 × Int32 × Int32 × Int32 × Int32 × (Nat → Int32) × (Nat → Int32) × (Nat → Int32)), u' = u → ∀ (H : Heap) (locs : List Loc) (ls : Array Slot) (pc : Nat), va_P D vwCl (wX6 a0 a1 a2 a3 a4 a5 a6 v_isKept ++ wX0 cI a1 a7 a8 a9 fr_pins fr_bars fr_names fr_lesser fr_greater ++ wX3 cI a4 a10 a11 a12 a13 a14 a15 a16 st_near st_tiedTo st_parts st_partCount u'.2.1 u'.2.2.1 u'.2.2.2.1 u'.2.2.2.2.1 st_worstBy st_worstPins u'.2.2.2.2.2.1 u'.2.2.2.2.2.2.1 u'.2.2.2.2.2.2.2) H → va_D A (wX6 a0 a1 a2 a3 a4 a5 a6 v_isKept ++ wX0 cI a1 a7 a8 a9 fr_pins fr_bars fr_names fr_lesser fr_greater ++ wX3 cI a4 a10 a11 a12 a13 a14 a15 a16 st_near st_tiedTo st_parts st_partCount u'.2.1 u'.2.2.1 u'.2.2.2.1 u'.2.2.2.2.1 st_worstBy st_worstPins u'.2.2.2.2.2.1 u'.2.2.2.2.2.2.1 u'.2.2.2.2.2.2.2) → va_S A s.heap H locs → decode cX6_ring pc = .ok (.ireturn, 1) → W p l e (uR 5 128) s m args below meth c H locs 0 0 Q (F0 m pc ls [.int u'.1]) := by intro u' hu; subst hu; exact hfin0
  clear hfin0
  obtain ⟨hx, hb, hr, hlk, hml, hown, hts, hK⟩ := id h0
  have hl : lv_has ls 2 [(0, .ref a0), (1, .int p1)] := hl
  have E := hF
  refine lv_aload_n hx hb dX6_ring_0 rfl (lv_at hl 0 rfl) ?_
  refine lv_iload_n hx hb dX6_ring_1 rfl (lv_at hl 1 rfl) ?_
  obtain ⟨r1, hF, E⟩ := bn_e E
  refine callVi (wo := (wX6 a0 a1 a2 a3 a4 a5 a6 v_isKept ++ wX0 cI a1 a7 a8 a9 fr_pins fr_bars fr_names fr_lesser fr_greater ++ wX3 cI a4 a10 a11 a12 a13 a14 a15 a16 st_near st_tiedTo st_parts st_partCount st_carrying st_rank st_freedoms st_isStiff st_worstBy st_worstPins st_farEnd st_queue st_cameAlong)) h0 (c_X6_isPlace l D cI cZ cS a0 a1 a2 a3 a4 a5 a6 a7 a8 a9 v_isKept fr_pins fr_bars fr_names fr_lesser fr_greater p1 r1 hF) (gV wq_383 wq_385 wp_11 wq_1 wq_386) hdX6_isPlace ⟨Nat.le_of_ble_eq_true rfl, Nat.le_of_ble_eq_true rfl⟩ ⟨Nat.le_refl _, Nat.le_refl _⟩ hP hD hS hA 0 6 rfl rfl rfl [0, 1, 2, 3, 4] rfl rfl rfl rfl hl.1 rfl (Nat.le_of_ble_eq_true rfl) dX6_ring_2 (fun H locs hP hD hS => ?_)
  refine lv_if_ne (tgt := 11) hx hb dX6_ring_5 (by decide) (fun c2 => ?_) (fun c2 => ?_)
  · have E := br_n E c2
    refine lv_aload_n hx hb dX6_ring_11 rfl (lv_at hl 0 rfl) ?_
    refine gf_X6_33 h0 hP 0 rfl rfl dX6_ring_12 ?_
    refine lv_aload_n hx hb dX6_ring_15 rfl (lv_at hl 0 rfl) ?_
    refine gf_X6_10 h0 hP 0 rfl rfl dX6_ring_16 ?_
    obtain ⟨r3, hF, E⟩ := bn_e E
    refine callVv (wo := (wX6 a0 a1 a2 a3 a4 a5 a6 v_isKept ++ wX0 cI a1 a7 a8 a9 fr_pins fr_bars fr_names fr_lesser fr_greater ++ wX3 cI a4 a10 a11 a12 a13 a14 a15 a16 st_near st_tiedTo st_parts st_partCount r3.1 r3.2.1 r3.2.2.1 r3.2.2.2.1 st_worstBy st_worstPins r3.2.2.2.2.1 r3.2.2.2.2.2.1 r3.2.2.2.2.2.2)) h0 (c_X3_settle l D cI cZ cS a4 a10 a11 a12 a13 a14 a15 a16 a1 a7 a8 a9 st_near st_tiedTo st_parts st_partCount st_carrying st_rank st_freedoms st_isStiff st_worstBy st_worstPins st_farEnd st_queue st_cameAlong fr_pins fr_bars fr_names fr_lesser fr_greater r3 hF) (gV wq_321 wq_322 wq_323 wq_4 wq_324) hdX3_settle ⟨Nat.le_of_ble_eq_true rfl, Nat.le_of_ble_eq_true rfl⟩ ⟨Nat.le_refl _, Nat.le_refl _⟩ hP hD hS hA 0 3 rfl rfl rfl [5, 6, 7, 8, 9, 10, 11, 12, 1, 2, 3, 4] rfl rfl rfl rfl hl.1 rfl (Nat.le_of_ble_eq_true rfl) dX6_ring_19 (fun H locs hP hD hS => ?_)
    refine lv_aload_n hx hb dX6_ring_22 rfl (lv_at hl 0 rfl) ?_
    refine gf_X6_33 h0 hP 0 rfl rfl dX6_ring_23 ?_
    refine gf_X6_130 h0 hP 5 rfl rfl dX6_ring_26 ?_
    refine lv_iload_n hx hb dX6_ring_29 rfl (lv_at hl 1 rfl) ?_
    refine lv_ishr hx hb dX6_ring_30 ?_
    refine lv_iconst (v := 1) hx hb dX6_ring_31 (by decide) ?_
    refine lv_iand hx hb dX6_ring_32 ?_
    refine lv_iconst (v := 1) hx hb dX6_ring_33 (by decide) ?_
    refine lv_icmp_ne (tgt := 40) hx hb dX6_ring_34 (by decide) (fun c4 => ?_) (fun c4 => ?_)
    · have E := br_n E c4
      refine lv_aload_n hx hb dX6_ring_40 rfl (lv_at hl 0 rfl) ?_
      refine gf_X6_33 h0 hP 0 rfl rfl dX6_ring_41 ?_
      refine lv_aload_n hx hb dX6_ring_44 rfl (lv_at hl 0 rfl) ?_
      refine gf_X6_10 h0 hP 0 rfl rfl dX6_ring_45 ?_
      refine lv_iload_n hx hb dX6_ring_48 rfl (lv_at hl 1 rfl) ?_
      obtain ⟨r5, hF, E⟩ := bn_e E
      refine callVi (wo := (wX6 a0 a1 a2 a3 a4 a5 a6 v_isKept ++ wX0 cI a1 a7 a8 a9 fr_pins fr_bars fr_names fr_lesser fr_greater ++ wX3 cI a4 a10 a11 a12 a13 a14 a15 a16 st_near st_tiedTo st_parts st_partCount r3.1 r3.2.1 r3.2.2.1 r3.2.2.2.1 st_worstBy st_worstPins r5.2.1 r5.2.2.1 r5.2.2.2)) h0 (c_X3_ringOf l D cI cZ cS a4 a10 a11 a12 a13 a14 a15 a16 a1 a7 a8 a9 st_near st_tiedTo st_parts st_partCount r3.1 r3.2.1 r3.2.2.1 r3.2.2.2.1 st_worstBy st_worstPins r3.2.2.2.2.1 r3.2.2.2.2.2.1 r3.2.2.2.2.2.2 fr_pins fr_bars fr_names fr_lesser fr_greater p1 r5 hF) (gV wq_430 wq_431 wq_432 wq_4 wq_433) hdX3_ringOf ⟨Nat.le_of_ble_eq_true rfl, Nat.le_of_ble_eq_true rfl⟩ ⟨Nat.le_refl _, Nat.le_refl _⟩ hP hD hS hA 0 3 rfl rfl rfl [5, 6, 7, 8, 9, 10, 11, 12, 1, 2, 3, 4] rfl rfl rfl rfl hl.1 rfl (Nat.le_of_ble_eq_true rfl) dX6_ring_49 (fun H locs hP hD hS => ?_)
      exact hfin _ (Option.some.inj E) _ _ _ _ hP hD hS dX6_ring_52
    · have E := br_p E c4
      refine lv_bipush (v := (-3)) hx hb dX6_ring_37 (by decide) ?_
      exact hfin _ (Option.some.inj E) _ _ _ _ hP hD hS dX6_ring_39
  · have E := br_p E c2
    refine lv_bipush (v := (-12)) hx hb dX6_ring_8 (by decide) ?_
    exact hfin _ (Option.some.inj E) _ _ _ _ hP hD hS dX6_ring_10
theorem hdX6_worst : yX6_worst.cls = RX6 ∧ yX6_worst.cls ≠ "java/lang/invoke/MethodHandle" ∧ yX6_worst.cls ≠ "java/lang/invoke/VarHandle" ∧ (parseMethodDescriptor yX6_worst.desc).map (fun d => d.parameters.length) = some 1 := by decide +kernel
noncomputable def FX6_worst_b12 (p1 fr_pins fr_bars : Int32) (fr_lesser fr_greater : Nat → Int32)  (st_near : Nat → Int32) (st_worstBy st_worstPins : Int32) : Option (Int32 × (Nat → Int32) × Int32 × Int32) := (if 2 ≤ fr_pins then ((FX3_seekWorst st_near st_worstBy st_worstPins fr_pins fr_bars fr_lesser fr_greater).bind (fun r2 => (if p1 = 0 then (some ((1000 + r2.2.1), r2.1, r2.2.1, r2.2.2)) else (some (r2.2.2, r2.1, r2.2.1, r2.2.2))))) else (some ((-3), st_near, st_worstBy, st_worstPins)))
noncomputable def FX6_worst (p1 : Int32) (fr_pins fr_bars : Int32) (fr_lesser fr_greater st_near : Nat → Int32) (st_worstBy st_worstPins : Int32) : Option (Int32 × (Nat → Int32) × Int32 × Int32) := (if p1 = 0 then (FX6_worst_b12 p1 fr_pins fr_bars fr_lesser fr_greater  st_near st_worstBy st_worstPins) else (if p1 = 1 then (FX6_worst_b12 p1 fr_pins fr_bars fr_lesser fr_greater  st_near st_worstBy st_worstPins) else (some ((-2), st_near, st_worstBy, st_worstPins))))
set_option maxHeartbeats 4000000 in
set_option maxRecDepth 100000 in
theorem c_X6_worst (l : Launch) (D : va_G) (cI cZ cS : ClassId) (a0 a1 a2 a3 a4 a5 a6 a7 a8 a9 a10 a11 a12 a13 a14 a15 a16 : Nat) (v_isKept fr_pins fr_bars : Int32) (fr_names fr_lesser fr_greater st_near st_tiedTo st_parts : Nat → Int32) (st_partCount st_carrying st_rank st_freedoms st_isStiff st_worstBy st_worstPins : Int32) (st_farEnd st_queue st_cameAlong : Nat → Int32) (p1 : Int32) (u : Int32 × (Nat → Int32) × Int32 × Int32) (hF : FX6_worst p1 fr_pins fr_bars fr_lesser fr_greater st_near st_worstBy st_worstPins = some u) : MCi l D (tyL cI cZ cS) yX6_worst cX6_worst 2 (some .int) 3 70 [.ref a0, .int p1] (wX6 a0 a1 a2 a3 a4 a5 a6 v_isKept ++ wX0 cI a1 a7 a8 a9 fr_pins fr_bars fr_names fr_lesser fr_greater ++ wX3 cI a4 a10 a11 a12 a13 a14 a15 a16 st_near st_tiedTo st_parts st_partCount st_carrying st_rank st_freedoms st_isStiff st_worstBy st_worstPins st_farEnd st_queue st_cameAlong) (wX6 a0 a1 a2 a3 a4 a5 a6 v_isKept ++ wX0 cI a1 a7 a8 a9 fr_pins fr_bars fr_names fr_lesser fr_greater ++ wX3 cI a4 a10 a11 a12 a13 a14 a15 a16 u.2.1 st_tiedTo st_parts st_partCount st_carrying st_rank st_freedoms st_isStiff u.2.2.1 u.2.2.2 st_farEnd st_queue st_cameAlong) u.1 := by
  refine MCi.mk (by decide) (Nat.le_of_ble_eq_true rfl) ?_
  intro p e s m args below meth c A ls Q h0 hP hD hA hS hl hfin0
  have hfin : ∀ (u' : Int32 × (Nat → Int32) × Int32 × Int32), u' = u → ∀ (H : Heap) (locs : List Loc) (ls : Array Slot) (pc : Nat), va_P D vwCl (wX6 a0 a1 a2 a3 a4 a5 a6 v_isKept ++ wX0 cI a1 a7 a8 a9 fr_pins fr_bars fr_names fr_lesser fr_greater ++ wX3 cI a4 a10 a11 a12 a13 a14 a15 a16 u'.2.1 st_tiedTo st_parts st_partCount st_carrying st_rank st_freedoms st_isStiff u'.2.2.1 u'.2.2.2 st_farEnd st_queue st_cameAlong) H → va_D A (wX6 a0 a1 a2 a3 a4 a5 a6 v_isKept ++ wX0 cI a1 a7 a8 a9 fr_pins fr_bars fr_names fr_lesser fr_greater ++ wX3 cI a4 a10 a11 a12 a13 a14 a15 a16 u'.2.1 st_tiedTo st_parts st_partCount st_carrying st_rank st_freedoms st_isStiff u'.2.2.1 u'.2.2.2 st_farEnd st_queue st_cameAlong) → va_S A s.heap H locs → decode cX6_worst pc = .ok (.ireturn, 1) → W p l e (uR 3 70) s m args below meth c H locs 0 0 Q (F0 m pc ls [.int u'.1]) := by intro u' hu; subst hu; exact hfin0
  clear hfin0
  obtain ⟨hx, hb, hr, hlk, hml, hown, hts, hK⟩ := id h0
  have hl : lv_has ls 2 [(0, .ref a0), (1, .int p1)] := hl
  have E := hF
  have J12 : ∀ (st_near : Nat → Int32) (st_worstBy st_worstPins : Int32) (H : Heap) (locs : List Loc) (ls : Array Slot), FX6_worst_b12 p1 fr_pins fr_bars fr_lesser fr_greater  st_near st_worstBy st_worstPins = some u → va_P D vwCl (wX6 a0 a1 a2 a3 a4 a5 a6 v_isKept ++ wX0 cI a1 a7 a8 a9 fr_pins fr_bars fr_names fr_lesser fr_greater ++ wX3 cI a4 a10 a11 a12 a13 a14 a15 a16 st_near st_tiedTo st_parts st_partCount st_carrying st_rank st_freedoms st_isStiff st_worstBy st_worstPins st_farEnd st_queue st_cameAlong) H → va_D A (wX6 a0 a1 a2 a3 a4 a5 a6 v_isKept ++ wX0 cI a1 a7 a8 a9 fr_pins fr_bars fr_names fr_lesser fr_greater ++ wX3 cI a4 a10 a11 a12 a13 a14 a15 a16 st_near st_tiedTo st_parts st_partCount st_carrying st_rank st_freedoms st_isStiff st_worstBy st_worstPins st_farEnd st_queue st_cameAlong) → va_S A s.heap H locs → lv_has ls 2 [(0, .ref a0), (1, .int p1)] → W p l e (uR 3 70) s m args below meth c H locs 0 0 Q (F0 m 12 ls []) := by
    intro st_near st_worstBy st_worstPins H locs ls E hP hD hS hl
    refine lv_aload_n hx hb dX6_worst_12 rfl (lv_at hl 0 rfl) ?_
    refine gf_X6_10 h0 hP 0 rfl rfl dX6_worst_13 ?_
    refine gf_X6_95 h0 hP 1 rfl rfl dX6_worst_16 ?_
    refine lv_iconst (v := 2) hx hb dX6_worst_19 (by decide) ?_
    refine lv_icmp_ge (tgt := 26) hx hb dX6_worst_20 (by decide) (fun c1 => ?_) (fun c1 => ?_)
    · have E := br_p E c1
      refine lv_aload_n hx hb dX6_worst_26 rfl (lv_at hl 0 rfl) ?_
      refine gf_X6_33 h0 hP 0 rfl rfl dX6_worst_27 ?_
      refine lv_aload_n hx hb dX6_worst_30 rfl (lv_at hl 0 rfl) ?_
      refine gf_X6_10 h0 hP 0 rfl rfl dX6_worst_31 ?_
      obtain ⟨r2, hF, E⟩ := bn_e E
      refine callVv (wo := (wX6 a0 a1 a2 a3 a4 a5 a6 v_isKept ++ wX0 cI a1 a7 a8 a9 fr_pins fr_bars fr_names fr_lesser fr_greater ++ wX3 cI a4 a10 a11 a12 a13 a14 a15 a16 r2.1 st_tiedTo st_parts st_partCount st_carrying st_rank st_freedoms st_isStiff r2.2.1 r2.2.2 st_farEnd st_queue st_cameAlong)) h0 (c_X3_seekWorst l D cI cZ cS a4 a10 a11 a12 a13 a14 a15 a16 a1 a7 a8 a9 st_near st_tiedTo st_parts st_partCount st_carrying st_rank st_freedoms st_isStiff st_worstBy st_worstPins st_farEnd st_queue st_cameAlong fr_pins fr_bars fr_names fr_lesser fr_greater r2 hF) (gV wq_442 wq_443 wq_444 wq_4 wq_445) hdX3_seekWorst ⟨Nat.le_of_ble_eq_true rfl, Nat.le_of_ble_eq_true rfl⟩ ⟨Nat.le_refl _, Nat.le_refl _⟩ hP hD hS hA 0 3 rfl rfl rfl [5, 6, 7, 8, 9, 10, 11, 12, 1, 2, 3, 4] rfl rfl rfl rfl hl.1 rfl (Nat.le_of_ble_eq_true rfl) dX6_worst_34 (fun H locs hP hD hS => ?_)
      refine lv_iload_n hx hb dX6_worst_37 rfl (lv_at hl 1 rfl) ?_
      refine lv_if_ne (tgt := 55) hx hb dX6_worst_38 (by decide) (fun c3 => ?_) (fun c3 => ?_)
      · have E := br_n E c3
        refine lv_aload_n hx hb dX6_worst_55 rfl (lv_at hl 0 rfl) ?_
        refine gf_X6_33 h0 hP 0 rfl rfl dX6_worst_56 ?_
        refine gf_X6_173 h0 hP 5 rfl rfl dX6_worst_59 ?_
        exact hfin _ (Option.some.inj E) _ _ _ _ hP hD hS dX6_worst_62
      · have E := br_p E c3
        refine lv_sipush (v := 1000) hx hb dX6_worst_41 (by decide) ?_
        refine lv_aload_n hx hb dX6_worst_44 rfl (lv_at hl 0 rfl) ?_
        refine gf_X6_33 h0 hP 0 rfl rfl dX6_worst_45 ?_
        refine gf_X6_170 h0 hP 5 rfl rfl dX6_worst_48 ?_
        refine lv_iadd hx hb dX6_worst_51 ?_
        refine lv_goto (tgt := 62) hx hb dX6_worst_52 (by decide) ?_
        exact hfin _ (Option.some.inj E) _ _ _ _ hP hD hS dX6_worst_62
    · have E := br_n E c1
      refine lv_bipush (v := (-3)) hx hb dX6_worst_23 (by decide) ?_
      exact hfin _ (Option.some.inj E) _ _ _ _ hP hD hS dX6_worst_25
  refine lv_iload_n hx hb dX6_worst_0 rfl (lv_at hl 1 rfl) ?_
  refine lv_if_eq (tgt := 12) hx hb dX6_worst_1 (by decide) (fun c4 => ?_) (fun c4 => ?_)
  · have E := br_p E c4
    exact J12 _ _ _ _ _ _ E hP hD hS (lv_sub hl [0, 1] rfl)
  · have E := br_n E c4
    refine lv_iload_n hx hb dX6_worst_4 rfl (lv_at hl 1 rfl) ?_
    refine lv_iconst (v := 1) hx hb dX6_worst_5 (by decide) ?_
    refine lv_icmp_eq (tgt := 12) hx hb dX6_worst_6 (by decide) (fun c5 => ?_) (fun c5 => ?_)
    · have E := br_p E c5
      exact J12 _ _ _ _ _ _ E hP hD hS (lv_sub hl [0, 1] rfl)
    · have E := br_n E c5
      refine lv_bipush (v := (-2)) hx hb dX6_worst_9 (by decide) ?_
      exact hfin _ (Option.some.inj E) _ _ _ _ hP hD hS dX6_worst_11
theorem hdX6_without : yX6_without.cls = RX6 ∧ yX6_without.cls ≠ "java/lang/invoke/MethodHandle" ∧ yX6_without.cls ≠ "java/lang/invoke/VarHandle" ∧ (parseMethodDescriptor yX6_without.desc).map (fun d => d.parameters.length) = some 1 := by decide +kernel
noncomputable def FX6_without (p1 : Int32) (fr_pins fr_bars : Int32) (fr_lesser fr_greater st_farEnd st_queue st_cameAlong : Nat → Int32) : Option (Int32 × (Nat → Int32) × (Nat → Int32) × (Nat → Int32)) := ((FX6_isPlace p1 fr_bars).bind (fun r1 => (if r1 = 0 then (some ((-12), st_farEnd, st_queue, st_cameAlong)) else ((FX3_freedomsWithout p1 st_farEnd st_queue st_cameAlong fr_pins fr_bars fr_lesser fr_greater).bind (fun r3 => (some (r3.1, r3.2.1, r3.2.2.1, r3.2.2.2)))))))
set_option maxHeartbeats 4000000 in
set_option maxRecDepth 100000 in
theorem c_X6_without (l : Launch) (D : va_G) (cI cZ cS : ClassId) (a0 a1 a2 a3 a4 a5 a6 a7 a8 a9 a10 a11 a12 a13 a14 a15 a16 : Nat) (v_isKept fr_pins fr_bars : Int32) (fr_names fr_lesser fr_greater st_near st_tiedTo st_parts : Nat → Int32) (st_partCount st_carrying st_rank st_freedoms st_isStiff st_worstBy st_worstPins : Int32) (st_farEnd st_queue st_cameAlong : Nat → Int32) (p1 : Int32) (u : Int32 × (Nat → Int32) × (Nat → Int32) × (Nat → Int32)) (hF : FX6_without p1 fr_pins fr_bars fr_lesser fr_greater st_farEnd st_queue st_cameAlong = some u) : MCi l D (tyL cI cZ cS) yX6_without cX6_without 2 (some .int) 5 128 [.ref a0, .int p1] (wX6 a0 a1 a2 a3 a4 a5 a6 v_isKept ++ wX0 cI a1 a7 a8 a9 fr_pins fr_bars fr_names fr_lesser fr_greater ++ wX3 cI a4 a10 a11 a12 a13 a14 a15 a16 st_near st_tiedTo st_parts st_partCount st_carrying st_rank st_freedoms st_isStiff st_worstBy st_worstPins st_farEnd st_queue st_cameAlong) (wX6 a0 a1 a2 a3 a4 a5 a6 v_isKept ++ wX0 cI a1 a7 a8 a9 fr_pins fr_bars fr_names fr_lesser fr_greater ++ wX3 cI a4 a10 a11 a12 a13 a14 a15 a16 st_near st_tiedTo st_parts st_partCount st_carrying st_rank st_freedoms st_isStiff st_worstBy st_worstPins u.2.1 u.2.2.1 u.2.2.2) u.1 := by
  refine MCi.mk (by decide) (Nat.le_of_ble_eq_true rfl) ?_
  intro p e s m args below meth c A ls Q h0 hP hD hA hS hl hfin0
  have hfin : ∀ (u' : Int32 × (Nat → Int32) × (Nat → Int32) × (Nat → Int32)), u' = u → ∀ (H : Heap) (locs : List Loc) (ls : Array Slot) (pc : Nat), va_P D vwCl (wX6 a0 a1 a2 a3 a4 a5 a6 v_isKept ++ wX0 cI a1 a7 a8 a9 fr_pins fr_bars fr_names fr_lesser fr_greater ++ wX3 cI a4 a10 a11 a12 a13 a14 a15 a16 st_near st_tiedTo st_parts st_partCount st_carrying st_rank st_freedoms st_isStiff st_worstBy st_worstPins u'.2.1 u'.2.2.1 u'.2.2.2) H → va_D A (wX6 a0 a1 a2 a3 a4 a5 a6 v_isKept ++ wX0 cI a1 a7 a8 a9 fr_pins fr_bars fr_names fr_lesser fr_greater ++ wX3 cI a4 a10 a11 a12 a13 a14 a15 a16 st_near st_tiedTo st_parts st_partCount st_carrying st_rank st_freedoms st_isStiff st_worstBy st_worstPins u'.2.1 u'.2.2.1 u'.2.2.2) → va_S A s.heap H locs → decode cX6_without pc = .ok (.ireturn, 1) → W p l e (uR 5 128) s m args below meth c H locs 0 0 Q (F0 m pc ls [.int u'.1]) := by intro u' hu; subst hu; exact hfin0
  clear hfin0
  obtain ⟨hx, hb, hr, hlk, hml, hown, hts, hK⟩ := id h0
  have hl : lv_has ls 2 [(0, .ref a0), (1, .int p1)] := hl
  have E := hF
  refine lv_aload_n hx hb dX6_without_0 rfl (lv_at hl 0 rfl) ?_
  refine lv_iload_n hx hb dX6_without_1 rfl (lv_at hl 1 rfl) ?_
  obtain ⟨r1, hF, E⟩ := bn_e E
  refine callVi (wo := (wX6 a0 a1 a2 a3 a4 a5 a6 v_isKept ++ wX0 cI a1 a7 a8 a9 fr_pins fr_bars fr_names fr_lesser fr_greater ++ wX3 cI a4 a10 a11 a12 a13 a14 a15 a16 st_near st_tiedTo st_parts st_partCount st_carrying st_rank st_freedoms st_isStiff st_worstBy st_worstPins st_farEnd st_queue st_cameAlong)) h0 (c_X6_isPlace l D cI cZ cS a0 a1 a2 a3 a4 a5 a6 a7 a8 a9 v_isKept fr_pins fr_bars fr_names fr_lesser fr_greater p1 r1 hF) (gV wq_383 wq_385 wp_11 wq_1 wq_386) hdX6_isPlace ⟨Nat.le_of_ble_eq_true rfl, Nat.le_of_ble_eq_true rfl⟩ ⟨Nat.le_refl _, Nat.le_refl _⟩ hP hD hS hA 0 6 rfl rfl rfl [0, 1, 2, 3, 4] rfl rfl rfl rfl hl.1 rfl (Nat.le_of_ble_eq_true rfl) dX6_without_2 (fun H locs hP hD hS => ?_)
  refine lv_if_ne (tgt := 11) hx hb dX6_without_5 (by decide) (fun c2 => ?_) (fun c2 => ?_)
  · have E := br_n E c2
    refine lv_aload_n hx hb dX6_without_11 rfl (lv_at hl 0 rfl) ?_
    refine gf_X6_33 h0 hP 0 rfl rfl dX6_without_12 ?_
    refine lv_aload_n hx hb dX6_without_15 rfl (lv_at hl 0 rfl) ?_
    refine gf_X6_10 h0 hP 0 rfl rfl dX6_without_16 ?_
    refine lv_iload_n hx hb dX6_without_19 rfl (lv_at hl 1 rfl) ?_
    obtain ⟨r3, hF, E⟩ := bn_e E
    refine callVi (wo := (wX6 a0 a1 a2 a3 a4 a5 a6 v_isKept ++ wX0 cI a1 a7 a8 a9 fr_pins fr_bars fr_names fr_lesser fr_greater ++ wX3 cI a4 a10 a11 a12 a13 a14 a15 a16 st_near st_tiedTo st_parts st_partCount st_carrying st_rank st_freedoms st_isStiff st_worstBy st_worstPins r3.2.1 r3.2.2.1 r3.2.2.2)) h0 (c_X3_freedomsWithout l D cI cZ cS a4 a10 a11 a12 a13 a14 a15 a16 a1 a7 a8 a9 st_near st_tiedTo st_parts st_partCount st_carrying st_rank st_freedoms st_isStiff st_worstBy st_worstPins st_farEnd st_queue st_cameAlong fr_pins fr_bars fr_names fr_lesser fr_greater p1 r3 hF) (gV wq_458 wq_459 wq_460 wq_4 wq_461) hdX3_freedomsWithout ⟨Nat.le_of_ble_eq_true rfl, Nat.le_of_ble_eq_true rfl⟩ ⟨Nat.le_refl _, Nat.le_refl _⟩ hP hD hS hA 0 3 rfl rfl rfl [5, 6, 7, 8, 9, 10, 11, 12, 1, 2, 3, 4] rfl rfl rfl rfl hl.1 rfl (Nat.le_of_ble_eq_true rfl) dX6_without_20 (fun H locs hP hD hS => ?_)
    exact hfin _ (Option.some.inj E) _ _ _ _ hP hD hS dX6_without_23
  · have E := br_p E c2
    refine lv_bipush (v := (-12)) hx hb dX6_without_8 (by decide) ?_
    exact hfin _ (Option.some.inj E) _ _ _ _ hP hD hS dX6_without_10
theorem hdX6_with : yX6_with.cls = RX6 ∧ yX6_with.cls ≠ "java/lang/invoke/MethodHandle" ∧ yX6_with.cls ≠ "java/lang/invoke/VarHandle" ∧ (parseMethodDescriptor yX6_with.desc).map (fun d => d.parameters.length) = some 2 := by decide +kernel
noncomputable def FX6_with (p1 p2 : Int32) (fr_pins fr_bars : Int32) (fr_lesser fr_greater : Nat → Int32) (st_carrying st_rank st_freedoms st_isStiff : Int32) (st_farEnd st_queue st_cameAlong : Nat → Int32) : Option (Int32 × Int32 × Int32 × Int32 × Int32 × (Nat → Int32) × (Nat → Int32) × (Nat → Int32)) := ((FX6_areUnlikePins p1 p2 fr_pins).bind (fun r1 => (if r1 = 0 then (some ((-2), st_carrying, st_rank, st_freedoms, st_isStiff, st_farEnd, st_queue, st_cameAlong)) else ((FX3_settle st_carrying st_rank st_freedoms st_isStiff st_farEnd st_queue st_cameAlong fr_pins fr_bars fr_lesser fr_greater).bind (fun r3 => ((FX3_isTied p1 p2 r3.2.2.2.2.1 r3.2.2.2.2.2.1 r3.2.2.2.2.2.2).bind (fun r4 => (if r4.1 = 0 then (some ((r3.2.2.1 - 1), r3.1, r3.2.1, r3.2.2.1, r3.2.2.2.1, r4.2.1, r4.2.2.1, r4.2.2.2)) else (some (r3.2.2.1, r3.1, r3.2.1, r3.2.2.1, r3.2.2.2.1, r4.2.1, r4.2.2.1, r4.2.2.2))))))))))
set_option maxHeartbeats 4000000 in
set_option maxRecDepth 100000 in
theorem c_X6_with (l : Launch) (D : va_G) (cI cZ cS : ClassId) (a0 a1 a2 a3 a4 a5 a6 a7 a8 a9 a10 a11 a12 a13 a14 a15 a16 : Nat) (v_isKept fr_pins fr_bars : Int32) (fr_names fr_lesser fr_greater st_near st_tiedTo st_parts : Nat → Int32) (st_partCount st_carrying st_rank st_freedoms st_isStiff st_worstBy st_worstPins : Int32) (st_farEnd st_queue st_cameAlong : Nat → Int32) (p1 p2 : Int32) (u : Int32 × Int32 × Int32 × Int32 × Int32 × (Nat → Int32) × (Nat → Int32) × (Nat → Int32)) (hF : FX6_with p1 p2 fr_pins fr_bars fr_lesser fr_greater st_carrying st_rank st_freedoms st_isStiff st_farEnd st_queue st_cameAlong = some u) : MCi l D (tyL cI cZ cS) yX6_with cX6_with 3 (some .int) 5 126 [.ref a0, .int p1, .int p2] (wX6 a0 a1 a2 a3 a4 a5 a6 v_isKept ++ wX0 cI a1 a7 a8 a9 fr_pins fr_bars fr_names fr_lesser fr_greater ++ wX3 cI a4 a10 a11 a12 a13 a14 a15 a16 st_near st_tiedTo st_parts st_partCount st_carrying st_rank st_freedoms st_isStiff st_worstBy st_worstPins st_farEnd st_queue st_cameAlong) (wX6 a0 a1 a2 a3 a4 a5 a6 v_isKept ++ wX0 cI a1 a7 a8 a9 fr_pins fr_bars fr_names fr_lesser fr_greater ++ wX3 cI a4 a10 a11 a12 a13 a14 a15 a16 st_near st_tiedTo st_parts st_partCount u.2.1 u.2.2.1 u.2.2.2.1 u.2.2.2.2.1 st_worstBy st_worstPins u.2.2.2.2.2.1 u.2.2.2.2.2.2.1 u.2.2.2.2.2.2.2) u.1 := by
  refine MCi.mk (by decide) (Nat.le_of_ble_eq_true rfl) ?_
  intro p e s m args below meth c A ls Q h0 hP hD hA hS hl hfin0
  have hfin : ∀ (u' : Int32 × Int32 × Int32 × Int32 × Int32 × (Nat → Int32) × (Nat → Int32) × (Nat → Int32)), u' = u → ∀ (H : Heap) (locs : List Loc) (ls : Array Slot) (pc : Nat), va_P D vwCl (wX6 a0 a1 a2 a3 a4 a5 a6 v_isKept ++ wX0 cI a1 a7 a8 a9 fr_pins fr_bars fr_names fr_lesser fr_greater ++ wX3 cI a4 a10 a11 a12 a13 a14 a15 a16 st_near st_tiedTo st_parts st_partCount u'.2.1 u'.2.2.1 u'.2.2.2.1 u'.2.2.2.2.1 st_worstBy st_worstPins u'.2.2.2.2.2.1 u'.2.2.2.2.2.2.1 u'.2.2.2.2.2.2.2) H → va_D A (wX6 a0 a1 a2 a3 a4 a5 a6 v_isKept ++ wX0 cI a1 a7 a8 a9 fr_pins fr_bars fr_names fr_lesser fr_greater ++ wX3 cI a4 a10 a11 a12 a13 a14 a15 a16 st_near st_tiedTo st_parts st_partCount u'.2.1 u'.2.2.1 u'.2.2.2.1 u'.2.2.2.2.1 st_worstBy st_worstPins u'.2.2.2.2.2.1 u'.2.2.2.2.2.2.1 u'.2.2.2.2.2.2.2) → va_S A s.heap H locs → decode cX6_with pc = .ok (.ireturn, 1) → W p l e (uR 5 126) s m args below meth c H locs 0 0 Q (F0 m pc ls [.int u'.1]) := by intro u' hu; subst hu; exact hfin0
  clear hfin0
  obtain ⟨hx, hb, hr, hlk, hml, hown, hts, hK⟩ := id h0
  have hl : lv_has ls 3 [(0, .ref a0), (1, .int p1), (2, .int p2)] := hl
  have E := hF
  refine lv_aload_n hx hb dX6_with_0 rfl (lv_at hl 0 rfl) ?_
  refine lv_iload_n hx hb dX6_with_1 rfl (lv_at hl 1 rfl) ?_
  refine lv_iload_n hx hb dX6_with_2 rfl (lv_at hl 2 rfl) ?_
  obtain ⟨r1, hF, E⟩ := bn_e E
  refine callVi (wo := (wX6 a0 a1 a2 a3 a4 a5 a6 v_isKept ++ wX0 cI a1 a7 a8 a9 fr_pins fr_bars fr_names fr_lesser fr_greater ++ wX3 cI a4 a10 a11 a12 a13 a14 a15 a16 st_near st_tiedTo st_parts st_partCount st_carrying st_rank st_freedoms st_isStiff st_worstBy st_worstPins st_farEnd st_queue st_cameAlong)) h0 (c_X6_areUnlikePins l D cI cZ cS a0 a1 a2 a3 a4 a5 a6 a7 a8 a9 v_isKept fr_pins fr_bars fr_names fr_lesser fr_greater p1 p2 r1 hF) (gV wq_272 wq_274 wp_4 wq_1 wq_275) hdX6_areUnlikePins ⟨Nat.le_of_ble_eq_true rfl, Nat.le_of_ble_eq_true rfl⟩ ⟨Nat.le_refl _, Nat.le_refl _⟩ hP hD hS hA 0 6 rfl rfl rfl [0, 1, 2, 3, 4] rfl rfl rfl rfl hl.1 rfl (Nat.le_of_ble_eq_true rfl) dX6_with_3 (fun H locs hP hD hS => ?_)
  refine lv_if_ne (tgt := 12) hx hb dX6_with_6 (by decide) (fun c2 => ?_) (fun c2 => ?_)
  · have E := br_n E c2
    refine lv_aload_n hx hb dX6_with_12 rfl (lv_at hl 0 rfl) ?_
    refine gf_X6_33 h0 hP 0 rfl rfl dX6_with_13 ?_
    refine lv_aload_n hx hb dX6_with_16 rfl (lv_at hl 0 rfl) ?_
    refine gf_X6_10 h0 hP 0 rfl rfl dX6_with_17 ?_
    obtain ⟨r3, hF, E⟩ := bn_e E
    refine callVv (wo := (wX6 a0 a1 a2 a3 a4 a5 a6 v_isKept ++ wX0 cI a1 a7 a8 a9 fr_pins fr_bars fr_names fr_lesser fr_greater ++ wX3 cI a4 a10 a11 a12 a13 a14 a15 a16 st_near st_tiedTo st_parts st_partCount r3.1 r3.2.1 r3.2.2.1 r3.2.2.2.1 st_worstBy st_worstPins r3.2.2.2.2.1 r3.2.2.2.2.2.1 r3.2.2.2.2.2.2)) h0 (c_X3_settle l D cI cZ cS a4 a10 a11 a12 a13 a14 a15 a16 a1 a7 a8 a9 st_near st_tiedTo st_parts st_partCount st_carrying st_rank st_freedoms st_isStiff st_worstBy st_worstPins st_farEnd st_queue st_cameAlong fr_pins fr_bars fr_names fr_lesser fr_greater r3 hF) (gV wq_321 wq_322 wq_323 wq_4 wq_324) hdX3_settle ⟨Nat.le_of_ble_eq_true rfl, Nat.le_of_ble_eq_true rfl⟩ ⟨Nat.le_refl _, Nat.le_refl _⟩ hP hD hS hA 0 3 rfl rfl rfl [5, 6, 7, 8, 9, 10, 11, 12, 1, 2, 3, 4] rfl rfl rfl rfl hl.1 rfl (Nat.le_of_ble_eq_true rfl) dX6_with_20 (fun H locs hP hD hS => ?_)
    refine lv_aload_n hx hb dX6_with_23 rfl (lv_at hl 0 rfl) ?_
    refine gf_X6_33 h0 hP 0 rfl rfl dX6_with_24 ?_
    refine lv_iload_n hx hb dX6_with_27 rfl (lv_at hl 1 rfl) ?_
    refine lv_iload_n hx hb dX6_with_28 rfl (lv_at hl 2 rfl) ?_
    obtain ⟨r4, hF, E⟩ := bn_e E
    refine callVi (wo := (wX6 a0 a1 a2 a3 a4 a5 a6 v_isKept ++ wX0 cI a1 a7 a8 a9 fr_pins fr_bars fr_names fr_lesser fr_greater ++ wX3 cI a4 a10 a11 a12 a13 a14 a15 a16 st_near st_tiedTo st_parts st_partCount r3.1 r3.2.1 r3.2.2.1 r3.2.2.2.1 st_worstBy st_worstPins r4.2.1 r4.2.2.1 r4.2.2.2)) h0 (c_X3_isTied l D cI cZ cS a4 a10 a11 a12 a13 a14 a15 a16 st_near st_tiedTo st_parts st_partCount r3.1 r3.2.1 r3.2.2.1 r3.2.2.2.1 st_worstBy st_worstPins r3.2.2.2.2.1 r3.2.2.2.2.2.1 r3.2.2.2.2.2.2 p1 p2 r4 hF) (gV wq_418 wq_419 wq_420 wq_4 wq_421) hdX3_isTied ⟨Nat.le_of_ble_eq_true rfl, Nat.le_of_ble_eq_true rfl⟩ ⟨Nat.le_refl _, Nat.le_refl _⟩ hP hD hS hA 0 3 rfl rfl rfl [5, 6, 7, 8, 9, 10, 11, 12] rfl rfl rfl rfl hl.1 rfl (Nat.le_of_ble_eq_true rfl) dX6_with_29 (fun H locs hP hD hS => ?_)
    refine lv_if_eq (tgt := 45) hx hb dX6_with_32 (by decide) (fun c5 => ?_) (fun c5 => ?_)
    · have E := br_p E c5
      refine lv_aload_n hx hb dX6_with_45 rfl (lv_at hl 0 rfl) ?_
      refine gf_X6_33 h0 hP 0 rfl rfl dX6_with_46 ?_
      refine gf_X6_104 h0 hP 5 rfl rfl dX6_with_49 ?_
      refine lv_iconst (v := 1) hx hb dX6_with_52 (by decide) ?_
      refine lv_isub hx hb dX6_with_53 ?_
      exact hfin _ (Option.some.inj E) _ _ _ _ hP hD hS dX6_with_54
    · have E := br_n E c5
      refine lv_aload_n hx hb dX6_with_35 rfl (lv_at hl 0 rfl) ?_
      refine gf_X6_33 h0 hP 0 rfl rfl dX6_with_36 ?_
      refine gf_X6_104 h0 hP 5 rfl rfl dX6_with_39 ?_
      refine lv_goto (tgt := 54) hx hb dX6_with_42 (by decide) ?_
      exact hfin _ (Option.some.inj E) _ _ _ _ hP hD hS dX6_with_54
  · have E := br_p E c2
    refine lv_bipush (v := (-2)) hx hb dX6_with_9 (by decide) ?_
    exact hfin _ (Option.some.inj E) _ _ _ _ hP hD hS dX6_with_11
theorem hdX6_lacking : yX6_lacking.cls = RX6 ∧ yX6_lacking.cls ≠ "java/lang/invoke/MethodHandle" ∧ yX6_lacking.cls ≠ "java/lang/invoke/VarHandle" ∧ (parseMethodDescriptor yX6_lacking.desc).map (fun d => d.parameters.length) = some 1 := by decide +kernel
noncomputable def FX6_lacking (p1 : Int32) (fr_pins fr_bars : Int32) (fr_lesser fr_greater : Nat → Int32) (st_carrying st_rank st_freedoms st_isStiff : Int32) (st_farEnd st_queue st_cameAlong : Nat → Int32) : Option (Int32 × Int32 × Int32 × Int32 × Int32 × (Nat → Int32) × (Nat → Int32) × (Nat → Int32)) := (if (-1) ≤ p1 then ((FX3_settle st_carrying st_rank st_freedoms st_isStiff st_farEnd st_queue st_cameAlong fr_pins fr_bars fr_lesser fr_greater).bind (fun r2 => ((FX3_lackingAt fr_pins p1 r2.2.2.2.2.1 r2.2.2.2.2.2.1 r2.2.2.2.2.2.2).bind (fun r3 => (some (r3.1, r2.1, r2.2.1, r2.2.2.1, r2.2.2.2.1, r3.2.1, r3.2.2.1, r3.2.2.2)))))) else (some ((-12), st_carrying, st_rank, st_freedoms, st_isStiff, st_farEnd, st_queue, st_cameAlong)))
set_option maxHeartbeats 4000000 in
set_option maxRecDepth 100000 in
theorem c_X6_lacking (l : Launch) (D : va_G) (cI cZ cS : ClassId) (a0 a1 a2 a3 a4 a5 a6 a7 a8 a9 a10 a11 a12 a13 a14 a15 a16 : Nat) (v_isKept fr_pins fr_bars : Int32) (fr_names fr_lesser fr_greater st_near st_tiedTo st_parts : Nat → Int32) (st_partCount st_carrying st_rank st_freedoms st_isStiff st_worstBy st_worstPins : Int32) (st_farEnd st_queue st_cameAlong : Nat → Int32) (p1 : Int32) (u : Int32 × Int32 × Int32 × Int32 × Int32 × (Nat → Int32) × (Nat → Int32) × (Nat → Int32)) (hF : FX6_lacking p1 fr_pins fr_bars fr_lesser fr_greater st_carrying st_rank st_freedoms st_isStiff st_farEnd st_queue st_cameAlong = some u) : MCi l D (tyL cI cZ cS) yX6_lacking cX6_lacking 2 (some .int) 5 126 [.ref a0, .int p1] (wX6 a0 a1 a2 a3 a4 a5 a6 v_isKept ++ wX0 cI a1 a7 a8 a9 fr_pins fr_bars fr_names fr_lesser fr_greater ++ wX3 cI a4 a10 a11 a12 a13 a14 a15 a16 st_near st_tiedTo st_parts st_partCount st_carrying st_rank st_freedoms st_isStiff st_worstBy st_worstPins st_farEnd st_queue st_cameAlong) (wX6 a0 a1 a2 a3 a4 a5 a6 v_isKept ++ wX0 cI a1 a7 a8 a9 fr_pins fr_bars fr_names fr_lesser fr_greater ++ wX3 cI a4 a10 a11 a12 a13 a14 a15 a16 st_near st_tiedTo st_parts st_partCount u.2.1 u.2.2.1 u.2.2.2.1 u.2.2.2.2.1 st_worstBy st_worstPins u.2.2.2.2.2.1 u.2.2.2.2.2.2.1 u.2.2.2.2.2.2.2) u.1 := by
  refine MCi.mk (by decide) (Nat.le_of_ble_eq_true rfl) ?_
  intro p e s m args below meth c A ls Q h0 hP hD hA hS hl hfin0
  have hfin : ∀ (u' : Int32 × Int32 × Int32 × Int32 × Int32 × (Nat → Int32) × (Nat → Int32) × (Nat → Int32)), u' = u → ∀ (H : Heap) (locs : List Loc) (ls : Array Slot) (pc : Nat), va_P D vwCl (wX6 a0 a1 a2 a3 a4 a5 a6 v_isKept ++ wX0 cI a1 a7 a8 a9 fr_pins fr_bars fr_names fr_lesser fr_greater ++ wX3 cI a4 a10 a11 a12 a13 a14 a15 a16 st_near st_tiedTo st_parts st_partCount u'.2.1 u'.2.2.1 u'.2.2.2.1 u'.2.2.2.2.1 st_worstBy st_worstPins u'.2.2.2.2.2.1 u'.2.2.2.2.2.2.1 u'.2.2.2.2.2.2.2) H → va_D A (wX6 a0 a1 a2 a3 a4 a5 a6 v_isKept ++ wX0 cI a1 a7 a8 a9 fr_pins fr_bars fr_names fr_lesser fr_greater ++ wX3 cI a4 a10 a11 a12 a13 a14 a15 a16 st_near st_tiedTo st_parts st_partCount u'.2.1 u'.2.2.1 u'.2.2.2.1 u'.2.2.2.2.1 st_worstBy st_worstPins u'.2.2.2.2.2.1 u'.2.2.2.2.2.2.1 u'.2.2.2.2.2.2.2) → va_S A s.heap H locs → decode cX6_lacking pc = .ok (.ireturn, 1) → W p l e (uR 5 126) s m args below meth c H locs 0 0 Q (F0 m pc ls [.int u'.1]) := by intro u' hu; subst hu; exact hfin0
  clear hfin0
  obtain ⟨hx, hb, hr, hlk, hml, hown, hts, hK⟩ := id h0
  have hl : lv_has ls 2 [(0, .ref a0), (1, .int p1)] := hl
  have E := hF
  refine lv_iload_n hx hb dX6_lacking_0 rfl (lv_at hl 1 rfl) ?_
  refine lv_iconst (v := (-1)) hx hb dX6_lacking_1 (by decide) ?_
  refine lv_icmp_ge (tgt := 8) hx hb dX6_lacking_2 (by decide) (fun c1 => ?_) (fun c1 => ?_)
  · have E := br_p E c1
    refine lv_aload_n hx hb dX6_lacking_8 rfl (lv_at hl 0 rfl) ?_
    refine gf_X6_33 h0 hP 0 rfl rfl dX6_lacking_9 ?_
    refine lv_aload_n hx hb dX6_lacking_12 rfl (lv_at hl 0 rfl) ?_
    refine gf_X6_10 h0 hP 0 rfl rfl dX6_lacking_13 ?_
    obtain ⟨r2, hF, E⟩ := bn_e E
    refine callVv (wo := (wX6 a0 a1 a2 a3 a4 a5 a6 v_isKept ++ wX0 cI a1 a7 a8 a9 fr_pins fr_bars fr_names fr_lesser fr_greater ++ wX3 cI a4 a10 a11 a12 a13 a14 a15 a16 st_near st_tiedTo st_parts st_partCount r2.1 r2.2.1 r2.2.2.1 r2.2.2.2.1 st_worstBy st_worstPins r2.2.2.2.2.1 r2.2.2.2.2.2.1 r2.2.2.2.2.2.2)) h0 (c_X3_settle l D cI cZ cS a4 a10 a11 a12 a13 a14 a15 a16 a1 a7 a8 a9 st_near st_tiedTo st_parts st_partCount st_carrying st_rank st_freedoms st_isStiff st_worstBy st_worstPins st_farEnd st_queue st_cameAlong fr_pins fr_bars fr_names fr_lesser fr_greater r2 hF) (gV wq_321 wq_322 wq_323 wq_4 wq_324) hdX3_settle ⟨Nat.le_of_ble_eq_true rfl, Nat.le_of_ble_eq_true rfl⟩ ⟨Nat.le_refl _, Nat.le_refl _⟩ hP hD hS hA 0 3 rfl rfl rfl [5, 6, 7, 8, 9, 10, 11, 12, 1, 2, 3, 4] rfl rfl rfl rfl hl.1 rfl (Nat.le_of_ble_eq_true rfl) dX6_lacking_16 (fun H locs hP hD hS => ?_)
    refine lv_aload_n hx hb dX6_lacking_19 rfl (lv_at hl 0 rfl) ?_
    refine gf_X6_33 h0 hP 0 rfl rfl dX6_lacking_20 ?_
    refine lv_aload_n hx hb dX6_lacking_23 rfl (lv_at hl 0 rfl) ?_
    refine gf_X6_10 h0 hP 0 rfl rfl dX6_lacking_24 ?_
    refine gf_X6_95 h0 hP 1 rfl rfl dX6_lacking_27 ?_
    refine lv_iload_n hx hb dX6_lacking_30 rfl (lv_at hl 1 rfl) ?_
    obtain ⟨r3, hF, E⟩ := bn_e E
    refine callVi (wo := (wX6 a0 a1 a2 a3 a4 a5 a6 v_isKept ++ wX0 cI a1 a7 a8 a9 fr_pins fr_bars fr_names fr_lesser fr_greater ++ wX3 cI a4 a10 a11 a12 a13 a14 a15 a16 st_near st_tiedTo st_parts st_partCount r2.1 r2.2.1 r2.2.2.1 r2.2.2.2.1 st_worstBy st_worstPins r3.2.1 r3.2.2.1 r3.2.2.2)) h0 (c_X3_lackingAt l D cI cZ cS a4 a10 a11 a12 a13 a14 a15 a16 st_near st_tiedTo st_parts st_partCount r2.1 r2.2.1 r2.2.2.1 r2.2.2.2.1 st_worstBy st_worstPins r2.2.2.2.2.1 r2.2.2.2.2.2.1 r2.2.2.2.2.2.2 fr_pins p1 r3 hF) (gV wq_470 wq_471 wq_472 wq_4 wq_473) hdX3_lackingAt ⟨Nat.le_of_ble_eq_true rfl, Nat.le_of_ble_eq_true rfl⟩ ⟨Nat.le_refl _, Nat.le_refl _⟩ hP hD hS hA 0 3 rfl rfl rfl [5, 6, 7, 8, 9, 10, 11, 12] rfl rfl rfl rfl hl.1 rfl (Nat.le_of_ble_eq_true rfl) dX6_lacking_31 (fun H locs hP hD hS => ?_)
    exact hfin _ (Option.some.inj E) _ _ _ _ hP hD hS dX6_lacking_34
  · have E := br_n E c1
    refine lv_bipush (v := (-12)) hx hb dX6_lacking_5 (by decide) ?_
    exact hfin _ (Option.some.inj E) _ _ _ _ hP hD hS dX6_lacking_7
