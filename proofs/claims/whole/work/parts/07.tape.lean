theorem hdX5_add : yX5_add.cls = RX5 ∧ yX5_add.cls ≠ "java/lang/invoke/MethodHandle" ∧ yX5_add.cls ≠ "java/lang/invoke/VarHandle" ∧ (parseMethodDescriptor yX5_add.desc).map (fun d => d.parameters.length) = some 1 := by decide +kernel
noncomputable def FX5_add (p1 : Int32) (v_bytes : Nat → Int32) (v_size : Int32) : Option ((Nat → Int32) × Int32) := (if 30 ≤ v_size then (some (v_bytes, v_size)) else (gd (vp_in v_size 30) (some ((upd v_bytes v_size.toNatClampNeg p1), (v_size + 1)))))
set_option maxHeartbeats 4000000 in
set_option maxRecDepth 100000 in
theorem c_X5_add (l : Launch) (D : va_G) (cI cZ cS : ClassId) (a0 a1 : Nat) (v_bytes : Nat → Int32) (v_size v_start v_behind : Int32) (p1 : Int32) (u : (Nat → Int32) × Int32) (hF : FX5_add p1 v_bytes v_size = some u) : MCv l D (tyL cI cZ cS) yX5_add cX5_add 2 none 0 0 [.ref a0, .int p1] (wX5 cI a0 a1 v_bytes v_size v_start v_behind) (wX5 cI a0 a1 u.1 u.2 v_start v_behind) := by
  refine MCv.mk (by decide) (Nat.le_of_ble_eq_true rfl) ?_
  intro p e s m args below meth c A ls Q h0 hP hD hA hS hl hfin0
  have hfin : ∀ (u' : (Nat → Int32) × Int32), u' = u → ∀ (H : Heap) (locs : List Loc) (ls : Array Slot) (pc : Nat), va_P D vwCl (wX5 cI a0 a1 u'.1 u'.2 v_start v_behind) H → va_D A (wX5 cI a0 a1 u'.1 u'.2 v_start v_behind) → va_S A s.heap H locs → decode cX5_add pc = .ok (.return_, 1) → W p l e (uR 0 0) s m args below meth c H locs 0 0 Q (F0 m pc ls []) := by intro u' hu; subst hu; exact hfin0
  clear hfin0
  obtain ⟨hx, hb, hr, hlk, hml, hown, hts, hK⟩ := id h0
  have hl : lv_has ls 2 [(0, .ref a0), (1, .int p1)] := hl
  have E := hF
  refine lv_aload_n hx hb dX5_add_0 rfl (lv_at hl 0 rfl) ?_
  refine gf_X5_15 h0 hP 0 rfl rfl dX5_add_1 ?_
  refine lv_bipush (v := 30) hx hb dX5_add_4 (by decide) ?_
  refine lv_icmp_ge (tgt := 29) hx hb dX5_add_6 (by decide) (fun c1 => ?_) (fun c1 => ?_)
  · have E := br_p E c1
    exact hfin _ (Option.some.inj E) _ _ _ _ hP hD hS dX5_add_29
  · have E := br_n E c1
    refine lv_aload_n hx hb dX5_add_9 rfl (lv_at hl 0 rfl) ?_
    refine gf_X5_9 h0 hP 0 rfl rfl dX5_add_10 ?_
    refine lv_aload_n hx hb dX5_add_13 rfl (lv_at hl 0 rfl) ?_
    refine gf_X5_15 h0 hP 0 rfl rfl dX5_add_14 ?_
    refine lv_iload_n hx hb dX5_add_17 rfl (lv_at hl 1 rfl) ?_
    obtain ⟨g2, E⟩ := gd_e E
    refine asti (wo := (wX5 cI a0 a1 (upd v_bytes v_size.toNatClampNeg p1) v_size v_start v_behind)) hx hb hK hP hD hS 1 rfl rfl g2 rfl dX5_add_18 (fun H locs hP hD hS => ?_)
    refine lv_aload_n hx hb dX5_add_19 rfl (lv_at hl 0 rfl) ?_
    refine lv_dup hx hb dX5_add_20 rfl ?_
    refine gf_X5_15 h0 hP 0 rfl rfl dX5_add_21 ?_
    refine lv_iconst (v := 1) hx hb dX5_add_24 (by decide) ?_
    refine lv_iadd hx hb dX5_add_25 ?_
    refine pf_X5_15 (wo := (wX5 cI a0 a1 (upd v_bytes v_size.toNatClampNeg p1) (v_size + 1) v_start v_behind)) h0 hP hD hS 0 rfl (Nat.le_of_ble_eq_true rfl) rfl dX5_add_26 (fun H locs hP hD hS => ?_)
    exact hfin _ (Option.some.inj E) _ _ _ _ hP hD hS dX5_add_29
theorem hdX5_nextWord : yX5_nextWord.cls = RX5 ∧ yX5_nextWord.cls ≠ "java/lang/invoke/MethodHandle" ∧ yX5_nextWord.cls ≠ "java/lang/invoke/VarHandle" ∧ (parseMethodDescriptor yX5_nextWord.desc).map (fun d => d.parameters.length) = some 0 := by decide +kernel
noncomputable def FX5_nextWord_b139 (v_bytes : Nat → Int32) (v_size : Int32)  (k139 : Int32 → Int32 → Int32 → Int32 → Option (Int32 × Int32 × Int32)) (l1 l2 v_start v_behind : Int32) : Option (Int32 × Int32 × Int32) := (if v_behind ≤ l2 then (some (l1, v_start, v_behind)) else (gd (vp_in l2 30) (k139 ((l1 <<< ((8 : Int32) &&& 31)) ||| (v_bytes l2.toNatClampNeg)) (l2 + 1) v_start v_behind)))
noncomputable def FX5_nextWord_h139 (v_bytes : Nat → Int32) (v_size : Int32)  : Nat → Int32 → Int32 → Int32 → Int32 → Option (Int32 × Int32 × Int32)
  | 0 => fun _ _ _ _ => none
  | n + 1 => fun l1 l2 v_start v_behind => FX5_nextWord_b139 v_bytes v_size  (FX5_nextWord_h139 v_bytes v_size  n) l1 l2 v_start v_behind
noncomputable def FX5_nextWord_b106 (v_bytes : Nat → Int32) (v_size : Int32)  (v_start v_behind : Int32) : Option (Int32 × Int32 × Int32) := (if v_behind = v_start then (some ((-1), v_start, v_behind)) else (if (v_behind - v_start) ≤ 4 then (FX5_nextWord_h139 v_bytes v_size  5000 0 v_start v_start v_behind) else (some ((-1), v_start, v_behind))))
noncomputable def FX5_nextWord_b54 (v_bytes : Nat → Int32) (v_size : Int32)  (k54 : Int32 → Int32 → Option (Int32 × Int32 × Int32)) (v_start v_behind : Int32) : Option (Int32 × Int32 × Int32) := (if v_size ≤ v_behind then (FX5_nextWord_b106 v_bytes v_size  v_start v_behind) else (gd (vp_in v_behind 30) (if (v_bytes v_behind.toNatClampNeg) < 97 then (FX5_nextWord_b106 v_bytes v_size  v_start v_behind) else (gd (vp_in v_behind 30) (if 122 < (v_bytes v_behind.toNatClampNeg) then (FX5_nextWord_b106 v_bytes v_size  v_start v_behind) else (k54 v_start (v_behind + 1)))))))
noncomputable def FX5_nextWord_h54 (v_bytes : Nat → Int32) (v_size : Int32)  : Nat → Int32 → Int32 → Option (Int32 × Int32 × Int32)
  | 0 => fun _ _ => none
  | n + 1 => fun v_start v_behind => FX5_nextWord_b54 v_bytes v_size  (FX5_nextWord_h54 v_bytes v_size  n) v_start v_behind
noncomputable def FX5_nextWord_b46 (v_bytes : Nat → Int32) (v_size : Int32)  (v_start v_behind : Int32) : Option (Int32 × Int32 × Int32) := (FX5_nextWord_h54 v_bytes v_size  5000 v_start v_start)
noncomputable def FX5_nextWord_b8 (v_bytes : Nat → Int32) (v_size : Int32)  (k8 : Int32 → Int32 → Option (Int32 × Int32 × Int32)) (v_start v_behind : Int32) : Option (Int32 × Int32 × Int32) := (if v_size ≤ v_start then (FX5_nextWord_b46 v_bytes v_size  v_start v_behind) else (gd (vp_in v_start 30) (if (v_bytes v_start.toNatClampNeg) = 32 then (k8 (v_start + 1) v_behind) else (FX5_nextWord_b46 v_bytes v_size  v_start v_behind))))
noncomputable def FX5_nextWord_h8 (v_bytes : Nat → Int32) (v_size : Int32)  : Nat → Int32 → Int32 → Option (Int32 × Int32 × Int32)
  | 0 => fun _ _ => none
  | n + 1 => fun v_start v_behind => FX5_nextWord_b8 v_bytes v_size  (FX5_nextWord_h8 v_bytes v_size  n) v_start v_behind
noncomputable def FX5_nextWord (v_bytes : Nat → Int32) (v_size v_start v_behind : Int32) : Option (Int32 × Int32 × Int32) := (FX5_nextWord_h8 v_bytes v_size  5000 v_behind v_behind)
set_option maxHeartbeats 4000000 in
set_option maxRecDepth 100000 in
theorem c_X5_nextWord (l : Launch) (D : va_G) (cI cZ cS : ClassId) (a0 a1 : Nat) (v_bytes : Nat → Int32) (v_size v_start v_behind : Int32)  (u : Int32 × Int32 × Int32) (hF : FX5_nextWord v_bytes v_size v_start v_behind = some u) : MCi l D (tyL cI cZ cS) yX5_nextWord cX5_nextWord 3 (some .int) 0 0 [.ref a0] (wX5 cI a0 a1 v_bytes v_size v_start v_behind) (wX5 cI a0 a1 v_bytes v_size u.2.1 u.2.2) u.1 := by
  refine MCi.mk (by decide) (Nat.le_of_ble_eq_true rfl) ?_
  intro p e s m args below meth c A ls Q h0 hP hD hA hS hl hfin0
  have hfin : ∀ (u' : Int32 × Int32 × Int32), u' = u → ∀ (H : Heap) (locs : List Loc) (ls : Array Slot) (pc : Nat), va_P D vwCl (wX5 cI a0 a1 v_bytes v_size u'.2.1 u'.2.2) H → va_D A (wX5 cI a0 a1 v_bytes v_size u'.2.1 u'.2.2) → va_S A s.heap H locs → decode cX5_nextWord pc = .ok (.ireturn, 1) → W p l e (uR 0 0) s m args below meth c H locs 0 0 Q (F0 m pc ls [.int u'.1]) := by intro u' hu; subst hu; exact hfin0
  clear hfin0
  obtain ⟨hx, hb, hr, hlk, hml, hown, hts, hK⟩ := id h0
  have hl : lv_has ls 3 [(0, .ref a0)] := hl
  have E := hF
  have J139 : ∀ (n139 : Nat) (l1 l2 v_start v_behind : Int32) (H : Heap) (locs : List Loc) (ls : Array Slot), FX5_nextWord_h139 v_bytes v_size  n139 l1 l2 v_start v_behind = some u → va_P D vwCl (wX5 cI a0 a1 v_bytes v_size v_start v_behind) H → va_D A (wX5 cI a0 a1 v_bytes v_size v_start v_behind) → va_S A s.heap H locs → lv_has ls 3 [(0, .ref a0), (1, .int l1), (2, .int l2)] → W p l e (uR 0 0) s m args below meth c H locs 0 0 Q (F0 m 139 ls []) := by
    intro n139
    induction n139 with
    | zero => intro l1 l2 v_start v_behind H locs ls E; exact none_e E
    | succ n139 ih139 =>
      intro l1 l2 v_start v_behind H locs ls E hP hD hS hl
      have E : FX5_nextWord_b139 v_bytes v_size  (FX5_nextWord_h139 v_bytes v_size  n139) l1 l2 v_start v_behind = some u := E
      refine lv_iload_n hx hb dX5_nextWord_139 rfl (lv_at hl 2 rfl) ?_
      refine lv_aload_n hx hb dX5_nextWord_140 rfl (lv_at hl 0 rfl) ?_
      refine gf_X5_22 h0 hP 0 rfl rfl dX5_nextWord_141 ?_
      refine lv_icmp_ge (tgt := 165) hx hb dX5_nextWord_144 (by decide) (fun c1 => ?_) (fun c1 => ?_)
      · have E := br_p E c1
        refine lv_iload_n hx hb dX5_nextWord_165 rfl (lv_at hl 1 rfl) ?_
        exact hfin _ (Option.some.inj E) _ _ _ _ hP hD hS dX5_nextWord_166
      · have E := br_n E c1
        refine lv_iload_n hx hb dX5_nextWord_147 rfl (lv_at hl 1 rfl) ?_
        refine lv_bipush (v := 8) hx hb dX5_nextWord_148 (by decide) ?_
        refine lv_ishl hx hb dX5_nextWord_150 ?_
        refine lv_aload_n hx hb dX5_nextWord_151 rfl (lv_at hl 0 rfl) ?_
        refine gf_X5_9 h0 hP 0 rfl rfl dX5_nextWord_152 ?_
        refine lv_iload_n hx hb dX5_nextWord_155 rfl (lv_at hl 2 rfl) ?_
        obtain ⟨g2, E⟩ := gd_e E
        refine aldi hx hb hK hP 1 rfl rfl g2 dX5_nextWord_156 ?_
        refine lv_ior hx hb dX5_nextWord_157 ?_
        refine lv_istore_n (lv' := [(1, .int ((l1 <<< ((8 : Int32) &&& 31)) ||| (v_bytes l2.toNatClampNeg))), (0, .ref a0), (2, .int l2)]) hx hb dX5_nextWord_158 rfl hl (by decide) rfl (fun ls hl => ?_)
        refine lv_iinc (v := (l2 + 1)) (lv' := [(2, .int (l2 + 1)), (1, .int ((l1 <<< ((8 : Int32) &&& 31)) ||| (v_bytes l2.toNatClampNeg))), (0, .ref a0)]) hx hb dX5_nextWord_159 hl (k := 2) rfl rfl (by decide) rfl (fun ls hl => ?_)
        refine lv_goto (tgt := 139) hx hb dX5_nextWord_162 (by decide) ?_
        exact ih139 _ _ _ _ _ _ _ E hP hD hS (lv_sub hl [2, 1, 0] rfl)
  have J106 : ∀ (v_start v_behind : Int32) (H : Heap) (locs : List Loc) (ls : Array Slot), FX5_nextWord_b106 v_bytes v_size  v_start v_behind = some u → va_P D vwCl (wX5 cI a0 a1 v_bytes v_size v_start v_behind) H → va_D A (wX5 cI a0 a1 v_bytes v_size v_start v_behind) → va_S A s.heap H locs → lv_has ls 3 [(0, .ref a0)] → W p l e (uR 0 0) s m args below meth c H locs 0 0 Q (F0 m 106 ls []) := by
    intro v_start v_behind H locs ls E hP hD hS hl
    refine lv_aload_n hx hb dX5_nextWord_106 rfl (lv_at hl 0 rfl) ?_
    refine gf_X5_22 h0 hP 0 rfl rfl dX5_nextWord_107 ?_
    refine lv_aload_n hx hb dX5_nextWord_110 rfl (lv_at hl 0 rfl) ?_
    refine gf_X5_19 h0 hP 0 rfl rfl dX5_nextWord_111 ?_
    refine lv_icmp_eq (tgt := 130) hx hb dX5_nextWord_114 (by decide) (fun c3 => ?_) (fun c3 => ?_)
    · have E := br_p E c3
      refine lv_iconst (v := (-1)) hx hb dX5_nextWord_130 (by decide) ?_
      exact hfin _ (Option.some.inj E) _ _ _ _ hP hD hS dX5_nextWord_131
    · have E := br_n E c3
      refine lv_aload_n hx hb dX5_nextWord_117 rfl (lv_at hl 0 rfl) ?_
      refine gf_X5_22 h0 hP 0 rfl rfl dX5_nextWord_118 ?_
      refine lv_aload_n hx hb dX5_nextWord_121 rfl (lv_at hl 0 rfl) ?_
      refine gf_X5_19 h0 hP 0 rfl rfl dX5_nextWord_122 ?_
      refine lv_isub hx hb dX5_nextWord_125 ?_
      refine lv_iconst (v := 4) hx hb dX5_nextWord_126 (by decide) ?_
      refine lv_icmp_le (tgt := 132) hx hb dX5_nextWord_127 (by decide) (fun c4 => ?_) (fun c4 => ?_)
      · have E := br_p E c4
        refine lv_iconst (v := 0) hx hb dX5_nextWord_132 (by decide) ?_
        refine lv_istore_n (lv' := [(1, .int 0), (0, .ref a0)]) hx hb dX5_nextWord_133 rfl hl (by decide) rfl (fun ls hl => ?_)
        refine lv_aload_n hx hb dX5_nextWord_134 rfl (lv_at hl 1 rfl) ?_
        refine gf_X5_19 h0 hP 0 rfl rfl dX5_nextWord_135 ?_
        refine lv_istore_n (lv' := [(2, .int v_start), (1, .int 0), (0, .ref a0)]) hx hb dX5_nextWord_138 rfl hl (by decide) rfl (fun ls hl => ?_)
        exact J139 5000 _ _ _ _ _ _ _ E hP hD hS (lv_sub hl [2, 1, 0] rfl)
      · have E := br_n E c4
        refine lv_iconst (v := (-1)) hx hb dX5_nextWord_130 (by decide) ?_
        exact hfin _ (Option.some.inj E) _ _ _ _ hP hD hS dX5_nextWord_131
  have J54 : ∀ (n54 : Nat) (v_start v_behind : Int32) (H : Heap) (locs : List Loc) (ls : Array Slot), FX5_nextWord_h54 v_bytes v_size  n54 v_start v_behind = some u → va_P D vwCl (wX5 cI a0 a1 v_bytes v_size v_start v_behind) H → va_D A (wX5 cI a0 a1 v_bytes v_size v_start v_behind) → va_S A s.heap H locs → lv_has ls 3 [(0, .ref a0)] → W p l e (uR 0 0) s m args below meth c H locs 0 0 Q (F0 m 54 ls []) := by
    intro n54
    induction n54 with
    | zero => intro v_start v_behind H locs ls E; exact none_e E
    | succ n54 ih54 =>
      intro v_start v_behind H locs ls E hP hD hS hl
      have E : FX5_nextWord_b54 v_bytes v_size  (FX5_nextWord_h54 v_bytes v_size  n54) v_start v_behind = some u := E
      refine lv_aload_n hx hb dX5_nextWord_54 rfl (lv_at hl 0 rfl) ?_
      refine gf_X5_22 h0 hP 0 rfl rfl dX5_nextWord_55 ?_
      refine lv_aload_n hx hb dX5_nextWord_58 rfl (lv_at hl 0 rfl) ?_
      refine gf_X5_15 h0 hP 0 rfl rfl dX5_nextWord_59 ?_
      refine lv_icmp_ge (tgt := 106) hx hb dX5_nextWord_62 (by decide) (fun c5 => ?_) (fun c5 => ?_)
      · have E := br_p E c5
        exact J106 _ _ _ _ _ E hP hD hS (lv_sub hl [0] rfl)
      · have E := br_n E c5
        refine lv_aload_n hx hb dX5_nextWord_65 rfl (lv_at hl 0 rfl) ?_
        refine gf_X5_9 h0 hP 0 rfl rfl dX5_nextWord_66 ?_
        refine lv_aload_n hx hb dX5_nextWord_69 rfl (lv_at hl 0 rfl) ?_
        refine gf_X5_22 h0 hP 0 rfl rfl dX5_nextWord_70 ?_
        obtain ⟨g6, E⟩ := gd_e E
        refine aldi hx hb hK hP 1 rfl rfl g6 dX5_nextWord_73 ?_
        refine lv_bipush (v := 97) hx hb dX5_nextWord_74 (by decide) ?_
        refine lv_icmp_lt (tgt := 106) hx hb dX5_nextWord_76 (by decide) (fun c7 => ?_) (fun c7 => ?_)
        · have E := br_p E c7
          exact J106 _ _ _ _ _ E hP hD hS (lv_sub hl [0] rfl)
        · have E := br_n E c7
          refine lv_aload_n hx hb dX5_nextWord_79 rfl (lv_at hl 0 rfl) ?_
          refine gf_X5_9 h0 hP 0 rfl rfl dX5_nextWord_80 ?_
          refine lv_aload_n hx hb dX5_nextWord_83 rfl (lv_at hl 0 rfl) ?_
          refine gf_X5_22 h0 hP 0 rfl rfl dX5_nextWord_84 ?_
          obtain ⟨g8, E⟩ := gd_e E
          refine aldi hx hb hK hP 1 rfl rfl g8 dX5_nextWord_87 ?_
          refine lv_bipush (v := 122) hx hb dX5_nextWord_88 (by decide) ?_
          refine lv_icmp_gt (tgt := 106) hx hb dX5_nextWord_90 (by decide) (fun c9 => ?_) (fun c9 => ?_)
          · have E := br_p E c9
            exact J106 _ _ _ _ _ E hP hD hS (lv_sub hl [0] rfl)
          · have E := br_n E c9
            refine lv_aload_n hx hb dX5_nextWord_93 rfl (lv_at hl 0 rfl) ?_
            refine lv_dup hx hb dX5_nextWord_94 rfl ?_
            refine gf_X5_22 h0 hP 0 rfl rfl dX5_nextWord_95 ?_
            refine lv_iconst (v := 1) hx hb dX5_nextWord_98 (by decide) ?_
            refine lv_iadd hx hb dX5_nextWord_99 ?_
            refine pf_X5_22 (wo := (wX5 cI a0 a1 v_bytes v_size v_start (v_behind + 1))) h0 hP hD hS 0 rfl (Nat.le_of_ble_eq_true rfl) rfl dX5_nextWord_100 (fun H locs hP hD hS => ?_)
            refine lv_goto (tgt := 54) hx hb dX5_nextWord_103 (by decide) ?_
            exact ih54 _ _ _ _ _ E hP hD hS (lv_sub hl [0] rfl)
  have J46 : ∀ (v_start v_behind : Int32) (H : Heap) (locs : List Loc) (ls : Array Slot), FX5_nextWord_b46 v_bytes v_size  v_start v_behind = some u → va_P D vwCl (wX5 cI a0 a1 v_bytes v_size v_start v_behind) H → va_D A (wX5 cI a0 a1 v_bytes v_size v_start v_behind) → va_S A s.heap H locs → lv_has ls 3 [(0, .ref a0)] → W p l e (uR 0 0) s m args below meth c H locs 0 0 Q (F0 m 46 ls []) := by
    intro v_start v_behind H locs ls E hP hD hS hl
    refine lv_aload_n hx hb dX5_nextWord_46 rfl (lv_at hl 0 rfl) ?_
    refine lv_aload_n hx hb dX5_nextWord_47 rfl (lv_at hl 0 rfl) ?_
    refine gf_X5_19 h0 hP 0 rfl rfl dX5_nextWord_48 ?_
    refine pf_X5_22 (wo := (wX5 cI a0 a1 v_bytes v_size v_start v_start)) h0 hP hD hS 0 rfl (Nat.le_of_ble_eq_true rfl) rfl dX5_nextWord_51 (fun H locs hP hD hS => ?_)
    exact J54 5000 _ _ _ _ _ E hP hD hS (lv_sub hl [0] rfl)
  have J8 : ∀ (n8 : Nat) (v_start v_behind : Int32) (H : Heap) (locs : List Loc) (ls : Array Slot), FX5_nextWord_h8 v_bytes v_size  n8 v_start v_behind = some u → va_P D vwCl (wX5 cI a0 a1 v_bytes v_size v_start v_behind) H → va_D A (wX5 cI a0 a1 v_bytes v_size v_start v_behind) → va_S A s.heap H locs → lv_has ls 3 [(0, .ref a0)] → W p l e (uR 0 0) s m args below meth c H locs 0 0 Q (F0 m 8 ls []) := by
    intro n8
    induction n8 with
    | zero => intro v_start v_behind H locs ls E; exact none_e E
    | succ n8 ih8 =>
      intro v_start v_behind H locs ls E hP hD hS hl
      have E : FX5_nextWord_b8 v_bytes v_size  (FX5_nextWord_h8 v_bytes v_size  n8) v_start v_behind = some u := E
      refine lv_aload_n hx hb dX5_nextWord_8 rfl (lv_at hl 0 rfl) ?_
      refine gf_X5_19 h0 hP 0 rfl rfl dX5_nextWord_9 ?_
      refine lv_aload_n hx hb dX5_nextWord_12 rfl (lv_at hl 0 rfl) ?_
      refine gf_X5_15 h0 hP 0 rfl rfl dX5_nextWord_13 ?_
      refine lv_icmp_ge (tgt := 46) hx hb dX5_nextWord_16 (by decide) (fun c10 => ?_) (fun c10 => ?_)
      · have E := br_p E c10
        exact J46 _ _ _ _ _ E hP hD hS (lv_sub hl [0] rfl)
      · have E := br_n E c10
        refine lv_aload_n hx hb dX5_nextWord_19 rfl (lv_at hl 0 rfl) ?_
        refine gf_X5_9 h0 hP 0 rfl rfl dX5_nextWord_20 ?_
        refine lv_aload_n hx hb dX5_nextWord_23 rfl (lv_at hl 0 rfl) ?_
        refine gf_X5_19 h0 hP 0 rfl rfl dX5_nextWord_24 ?_
        obtain ⟨g11, E⟩ := gd_e E
        refine aldi hx hb hK hP 1 rfl rfl g11 dX5_nextWord_27 ?_
        refine lv_bipush (v := 32) hx hb dX5_nextWord_28 (by decide) ?_
        refine lv_icmp_ne (tgt := 46) hx hb dX5_nextWord_30 (by decide) (fun c12 => ?_) (fun c12 => ?_)
        · have E := br_n E c12
          exact J46 _ _ _ _ _ E hP hD hS (lv_sub hl [0] rfl)
        · have E := br_p E c12
          refine lv_aload_n hx hb dX5_nextWord_33 rfl (lv_at hl 0 rfl) ?_
          refine lv_dup hx hb dX5_nextWord_34 rfl ?_
          refine gf_X5_19 h0 hP 0 rfl rfl dX5_nextWord_35 ?_
          refine lv_iconst (v := 1) hx hb dX5_nextWord_38 (by decide) ?_
          refine lv_iadd hx hb dX5_nextWord_39 ?_
          refine pf_X5_19 (wo := (wX5 cI a0 a1 v_bytes v_size (v_start + 1) v_behind)) h0 hP hD hS 0 rfl (Nat.le_of_ble_eq_true rfl) rfl dX5_nextWord_40 (fun H locs hP hD hS => ?_)
          refine lv_goto (tgt := 8) hx hb dX5_nextWord_43 (by decide) ?_
          exact ih8 _ _ _ _ _ E hP hD hS (lv_sub hl [0] rfl)
  refine lv_aload_n hx hb dX5_nextWord_0 rfl (lv_at hl 0 rfl) ?_
  refine lv_aload_n hx hb dX5_nextWord_1 rfl (lv_at hl 0 rfl) ?_
  refine gf_X5_22 h0 hP 0 rfl rfl dX5_nextWord_2 ?_
  refine pf_X5_19 (wo := (wX5 cI a0 a1 v_bytes v_size v_behind v_behind)) h0 hP hD hS 0 rfl (Nat.le_of_ble_eq_true rfl) rfl dX5_nextWord_5 (fun H locs hP hD hS => ?_)
  exact J8 5000 _ _ _ _ _ E hP hD hS (lv_sub hl [0] rfl)
theorem hdX5_firstWord : yX5_firstWord.cls = RX5 ∧ yX5_firstWord.cls ≠ "java/lang/invoke/MethodHandle" ∧ yX5_firstWord.cls ≠ "java/lang/invoke/VarHandle" ∧ (parseMethodDescriptor yX5_firstWord.desc).map (fun d => d.parameters.length) = some 0 := by decide +kernel
noncomputable def FX5_firstWord (v_bytes : Nat → Int32) (v_size v_start v_behind : Int32) : Option (Int32 × Int32 × Int32) := ((FX5_nextWord v_bytes v_size v_start 0).bind (fun r1 => (some (r1.1, r1.2.1, r1.2.2))))
set_option maxHeartbeats 4000000 in
set_option maxRecDepth 100000 in
theorem c_X5_firstWord (l : Launch) (D : va_G) (cI cZ cS : ClassId) (a0 a1 : Nat) (v_bytes : Nat → Int32) (v_size v_start v_behind : Int32)  (u : Int32 × Int32 × Int32) (hF : FX5_firstWord v_bytes v_size v_start v_behind = some u) : MCi l D (tyL cI cZ cS) yX5_firstWord cX5_firstWord 1 (some .int) 1 22 [.ref a0] (wX5 cI a0 a1 v_bytes v_size v_start v_behind) (wX5 cI a0 a1 v_bytes v_size u.2.1 u.2.2) u.1 := by
  refine MCi.mk (by decide) (Nat.le_of_ble_eq_true rfl) ?_
  intro p e s m args below meth c A ls Q h0 hP hD hA hS hl hfin0
  have hfin : ∀ (u' : Int32 × Int32 × Int32), u' = u → ∀ (H : Heap) (locs : List Loc) (ls : Array Slot) (pc : Nat), va_P D vwCl (wX5 cI a0 a1 v_bytes v_size u'.2.1 u'.2.2) H → va_D A (wX5 cI a0 a1 v_bytes v_size u'.2.1 u'.2.2) → va_S A s.heap H locs → decode cX5_firstWord pc = .ok (.ireturn, 1) → W p l e (uR 1 22) s m args below meth c H locs 0 0 Q (F0 m pc ls [.int u'.1]) := by intro u' hu; subst hu; exact hfin0
  clear hfin0
  obtain ⟨hx, hb, hr, hlk, hml, hown, hts, hK⟩ := id h0
  have hl : lv_has ls 1 [(0, .ref a0)] := hl
  have E := hF
  refine lv_aload_n hx hb dX5_firstWord_0 rfl (lv_at hl 0 rfl) ?_
  refine lv_iconst (v := 0) hx hb dX5_firstWord_1 (by decide) ?_
  refine pf_X5_22 (wo := (wX5 cI a0 a1 v_bytes v_size v_start 0)) h0 hP hD hS 0 rfl (Nat.le_of_ble_eq_true rfl) rfl dX5_firstWord_2 (fun H locs hP hD hS => ?_)
  refine lv_aload_n hx hb dX5_firstWord_5 rfl (lv_at hl 0 rfl) ?_
  obtain ⟨r1, hF, E⟩ := bn_e E
  refine callVfi (wo := (wX5 cI a0 a1 v_bytes v_size r1.2.1 r1.2.2)) h0 (c_X5_nextWord l D cI cZ cS a0 a1 v_bytes v_size v_start 0 r1 hF) (gV wq_233 wq_234 wq_235 wq_3 wq_236) hdX5_nextWord ⟨Nat.le_of_ble_eq_true rfl, Nat.le_of_ble_eq_true rfl⟩ ⟨Nat.le_refl _, Nat.le_refl _⟩ hP hD hS hA 0 5 rfl rfl rfl hl.1 rfl (Nat.le_of_ble_eq_true rfl) dX5_firstWord_6 (fun H locs hP hD hS => ?_)
  exact hfin _ (Option.some.inj E) _ _ _ _ hP hD hS dX5_firstWord_9
theorem hdX5_endsNext : yX5_endsNext.cls = RX5 ∧ yX5_endsNext.cls ≠ "java/lang/invoke/MethodHandle" ∧ yX5_endsNext.cls ≠ "java/lang/invoke/VarHandle" ∧ (parseMethodDescriptor yX5_endsNext.desc).map (fun d => d.parameters.length) = some 0 := by decide +kernel
noncomputable def FX5_endsNext (v_bytes : Nat → Int32) (v_size v_start v_behind : Int32) : Option (Int32 × Int32 × Int32) := ((FX5_nextWord v_bytes v_size v_start v_behind).bind (fun r1 => (if r1.2.1 = v_size then (some (1, r1.2.1, r1.2.2)) else (some (0, r1.2.1, r1.2.2)))))
set_option maxHeartbeats 4000000 in
set_option maxRecDepth 100000 in
theorem c_X5_endsNext (l : Launch) (D : va_G) (cI cZ cS : ClassId) (a0 a1 : Nat) (v_bytes : Nat → Int32) (v_size v_start v_behind : Int32)  (u : Int32 × Int32 × Int32) (hF : FX5_endsNext v_bytes v_size v_start v_behind = some u) : MCi l D (tyL cI cZ cS) yX5_endsNext cX5_endsNext 1 (some .boolean) 1 22 [.ref a0] (wX5 cI a0 a1 v_bytes v_size v_start v_behind) (wX5 cI a0 a1 v_bytes v_size u.2.1 u.2.2) u.1 := by
  refine MCz.mk (by decide) (Nat.le_of_ble_eq_true rfl) ?_
  intro p e s m args below meth c A ls Q h0 hP hD hA hS hl hfin0
  have hfin : ∀ (u' : Int32 × Int32 × Int32), u' = u → ∀ (H : Heap) (locs : List Loc) (ls : Array Slot) (pc : Nat), (u'.1 = 0 ∨ u'.1 = 1) → va_P D vwCl (wX5 cI a0 a1 v_bytes v_size u'.2.1 u'.2.2) H → va_D A (wX5 cI a0 a1 v_bytes v_size u'.2.1 u'.2.2) → va_S A s.heap H locs → decode cX5_endsNext pc = .ok (.ireturn, 1) → W p l e (uR 1 22) s m args below meth c H locs 0 0 Q (F0 m pc ls [.int u'.1]) := by intro u' hu; subst hu; exact hfin0
  clear hfin0
  obtain ⟨hx, hb, hr, hlk, hml, hown, hts, hK⟩ := id h0
  have hl : lv_has ls 1 [(0, .ref a0)] := hl
  have E := hF
  refine lv_aload_n hx hb dX5_endsNext_0 rfl (lv_at hl 0 rfl) ?_
  obtain ⟨r1, hF, E⟩ := bn_e E
  refine callVfi (wo := (wX5 cI a0 a1 v_bytes v_size r1.2.1 r1.2.2)) h0 (c_X5_nextWord l D cI cZ cS a0 a1 v_bytes v_size v_start v_behind r1 hF) (gV wq_233 wq_234 wq_235 wq_3 wq_236) hdX5_nextWord ⟨Nat.le_of_ble_eq_true rfl, Nat.le_of_ble_eq_true rfl⟩ ⟨Nat.le_refl _, Nat.le_refl _⟩ hP hD hS hA 0 5 rfl rfl rfl hl.1 rfl (Nat.le_of_ble_eq_true rfl) dX5_endsNext_1 (fun H locs hP hD hS => ?_)
  refine lv_pop hx hb dX5_endsNext_4 rfl ?_
  refine lv_aload_n hx hb dX5_endsNext_5 rfl (lv_at hl 0 rfl) ?_
  refine gf_X5_19 h0 hP 0 rfl rfl dX5_endsNext_6 ?_
  refine lv_aload_n hx hb dX5_endsNext_9 rfl (lv_at hl 0 rfl) ?_
  refine gf_X5_15 h0 hP 0 rfl rfl dX5_endsNext_10 ?_
  refine lv_icmp_ne (tgt := 20) hx hb dX5_endsNext_13 (by decide) (fun c2 => ?_) (fun c2 => ?_)
  · have E := br_n E c2
    refine lv_iconst (v := 0) hx hb dX5_endsNext_20 (by decide) ?_
    exact hfin _ (Option.some.inj E) _ _ _ _ (Or.inl rfl) hP hD hS dX5_endsNext_21
  · have E := br_p E c2
    refine lv_iconst (v := 1) hx hb dX5_endsNext_16 (by decide) ?_
    refine lv_goto (tgt := 21) hx hb dX5_endsNext_17 (by decide) ?_
    exact hfin _ (Option.some.inj E) _ _ _ _ (Or.inr rfl) hP hD hS dX5_endsNext_21
theorem hdX5_empty : yX5_empty.cls = RX5 ∧ yX5_empty.cls ≠ "java/lang/invoke/MethodHandle" ∧ yX5_empty.cls ≠ "java/lang/invoke/VarHandle" ∧ (parseMethodDescriptor yX5_empty.desc).map (fun d => d.parameters.length) = some 0 := by decide +kernel
noncomputable def FX5_empty (v_size : Int32) : Option (Int32) := (some 0)
set_option maxHeartbeats 4000000 in
set_option maxRecDepth 100000 in
theorem c_X5_empty (l : Launch) (D : va_G) (cI cZ cS : ClassId) (a0 a1 : Nat) (v_bytes : Nat → Int32) (v_size v_start v_behind : Int32)  (u : Int32) (hF : FX5_empty v_size = some u) : MCv l D (tyL cI cZ cS) yX5_empty cX5_empty 1 none 0 0 [.ref a0] (wX5 cI a0 a1 v_bytes v_size v_start v_behind) (wX5 cI a0 a1 v_bytes u v_start v_behind) := by
  refine MCv.mk (by decide) (Nat.le_of_ble_eq_true rfl) ?_
  intro p e s m args below meth c A ls Q h0 hP hD hA hS hl hfin0
  have hfin : ∀ (u' : Int32), u' = u → ∀ (H : Heap) (locs : List Loc) (ls : Array Slot) (pc : Nat), va_P D vwCl (wX5 cI a0 a1 v_bytes u' v_start v_behind) H → va_D A (wX5 cI a0 a1 v_bytes u' v_start v_behind) → va_S A s.heap H locs → decode cX5_empty pc = .ok (.return_, 1) → W p l e (uR 0 0) s m args below meth c H locs 0 0 Q (F0 m pc ls []) := by intro u' hu; subst hu; exact hfin0
  clear hfin0
  obtain ⟨hx, hb, hr, hlk, hml, hown, hts, hK⟩ := id h0
  have hl : lv_has ls 1 [(0, .ref a0)] := hl
  have E := hF
  refine lv_aload_n hx hb dX5_empty_0 rfl (lv_at hl 0 rfl) ?_
  refine lv_iconst (v := 0) hx hb dX5_empty_1 (by decide) ?_
  refine pf_X5_15 (wo := (wX5 cI a0 a1 v_bytes 0 v_start v_behind)) h0 hP hD hS 0 rfl (Nat.le_of_ble_eq_true rfl) rfl dX5_empty_2 (fun H locs hP hD hS => ?_)
  exact hfin _ (Option.some.inj E) _ _ _ _ hP hD hS dX5_empty_5
theorem hdX5_wholeWord : yX5_wholeWord.cls = RX5 ∧ yX5_wholeWord.cls ≠ "java/lang/invoke/MethodHandle" ∧ yX5_wholeWord.cls ≠ "java/lang/invoke/VarHandle" ∧ (parseMethodDescriptor yX5_wholeWord.desc).map (fun d => d.parameters.length) = some 0 := by decide +kernel
noncomputable def FX5_wholeWord (v_bytes : Nat → Int32) (v_size v_start v_behind : Int32) : Option (Int32 × Int32 × Int32) := ((FX5_firstWord v_bytes v_size v_start v_behind).bind (fun r1 => (if r1.2.1 = 0 then (if r1.2.2 = v_size then (some (r1.1, r1.2.1, r1.2.2)) else (some ((-1), r1.2.1, r1.2.2))) else (some ((-1), r1.2.1, r1.2.2)))))
set_option maxHeartbeats 4000000 in
set_option maxRecDepth 100000 in
theorem c_X5_wholeWord (l : Launch) (D : va_G) (cI cZ cS : ClassId) (a0 a1 : Nat) (v_bytes : Nat → Int32) (v_size v_start v_behind : Int32)  (u : Int32 × Int32 × Int32) (hF : FX5_wholeWord v_bytes v_size v_start v_behind = some u) : MCi l D (tyL cI cZ cS) yX5_wholeWord cX5_wholeWord 2 (some .int) 2 42 [.ref a0] (wX5 cI a0 a1 v_bytes v_size v_start v_behind) (wX5 cI a0 a1 v_bytes v_size u.2.1 u.2.2) u.1 := by
  refine MCi.mk (by decide) (Nat.le_of_ble_eq_true rfl) ?_
  intro p e s m args below meth c A ls Q h0 hP hD hA hS hl hfin0
  have hfin : ∀ (u' : Int32 × Int32 × Int32), u' = u → ∀ (H : Heap) (locs : List Loc) (ls : Array Slot) (pc : Nat), va_P D vwCl (wX5 cI a0 a1 v_bytes v_size u'.2.1 u'.2.2) H → va_D A (wX5 cI a0 a1 v_bytes v_size u'.2.1 u'.2.2) → va_S A s.heap H locs → decode cX5_wholeWord pc = .ok (.ireturn, 1) → W p l e (uR 2 42) s m args below meth c H locs 0 0 Q (F0 m pc ls [.int u'.1]) := by intro u' hu; subst hu; exact hfin0
  clear hfin0
  obtain ⟨hx, hb, hr, hlk, hml, hown, hts, hK⟩ := id h0
  have hl : lv_has ls 2 [(0, .ref a0)] := hl
  have E := hF
  refine lv_aload_n hx hb dX5_wholeWord_0 rfl (lv_at hl 0 rfl) ?_
  obtain ⟨r1, hF, E⟩ := bn_e E
  refine callVfi (wo := (wX5 cI a0 a1 v_bytes v_size r1.2.1 r1.2.2)) h0 (c_X5_firstWord l D cI cZ cS a0 a1 v_bytes v_size v_start v_behind r1 hF) (gV wq_314 wq_230 wq_231 wq_3 wq_232) hdX5_firstWord ⟨Nat.le_of_ble_eq_true rfl, Nat.le_of_ble_eq_true rfl⟩ ⟨Nat.le_refl _, Nat.le_refl _⟩ hP hD hS hA 0 5 rfl rfl rfl hl.1 rfl (Nat.le_of_ble_eq_true rfl) dX5_wholeWord_1 (fun H locs hP hD hS => ?_)
  refine lv_istore_n (lv' := [(1, .int r1.1), (0, .ref a0)]) hx hb dX5_wholeWord_4 rfl hl (by decide) rfl (fun ls hl => ?_)
  refine lv_aload_n hx hb dX5_wholeWord_5 rfl (lv_at hl 1 rfl) ?_
  refine gf_X5_19 h0 hP 0 rfl rfl dX5_wholeWord_6 ?_
  refine lv_if_ne (tgt := 27) hx hb dX5_wholeWord_9 (by decide) (fun c2 => ?_) (fun c2 => ?_)
  · have E := br_n E c2
    refine lv_iconst (v := (-1)) hx hb dX5_wholeWord_27 (by decide) ?_
    exact hfin _ (Option.some.inj E) _ _ _ _ hP hD hS dX5_wholeWord_28
  · have E := br_p E c2
    refine lv_aload_n hx hb dX5_wholeWord_12 rfl (lv_at hl 1 rfl) ?_
    refine gf_X5_22 h0 hP 0 rfl rfl dX5_wholeWord_13 ?_
    refine lv_aload_n hx hb dX5_wholeWord_16 rfl (lv_at hl 1 rfl) ?_
    refine gf_X5_15 h0 hP 0 rfl rfl dX5_wholeWord_17 ?_
    refine lv_icmp_ne (tgt := 27) hx hb dX5_wholeWord_20 (by decide) (fun c3 => ?_) (fun c3 => ?_)
    · have E := br_n E c3
      refine lv_iconst (v := (-1)) hx hb dX5_wholeWord_27 (by decide) ?_
      exact hfin _ (Option.some.inj E) _ _ _ _ hP hD hS dX5_wholeWord_28
    · have E := br_p E c3
      refine lv_iload_n hx hb dX5_wholeWord_23 rfl (lv_at hl 0 rfl) ?_
      refine lv_goto (tgt := 28) hx hb dX5_wholeWord_24 (by decide) ?_
      exact hfin _ (Option.some.inj E) _ _ _ _ hP hD hS dX5_wholeWord_28
