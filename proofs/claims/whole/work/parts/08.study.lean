theorem hdX3_carryingWithLast : yX3_carryingWithLast.cls = RX3 ∧ yX3_carryingWithLast.cls ≠ "java/lang/invoke/MethodHandle" ∧ yX3_carryingWithLast.cls ≠ "java/lang/invoke/VarHandle" ∧ (parseMethodDescriptor yX3_carryingWithLast.desc).map (fun d => d.parameters.length) = some 2 := by decide +kernel
noncomputable def FX3_carryingWithLast_b103 (p2 w_bars : Int32) (w_lesser w_greater : Nat → Int32) (k12 : Int32 → Int32 → (Nat → Int32) → (Nat → Int32) → (Nat → Int32) → Option (Int32 × (Nat → Int32) × (Nat → Int32) × (Nat → Int32))) (l3 l4 : Int32) (v_farEnd v_queue v_cameAlong : Nat → Int32) : Option (Int32 × (Nat → Int32) × (Nat → Int32) × (Nat → Int32)) := (k12 l3 (l4 + 1) v_farEnd v_queue v_cameAlong)
noncomputable def FX3_carryingWithLast_b51 (p2 w_bars : Int32) (w_lesser w_greater : Nat → Int32) (k12 : Int32 → Int32 → (Nat → Int32) → (Nat → Int32) → (Nat → Int32) → Option (Int32 × (Nat → Int32) × (Nat → Int32) × (Nat → Int32))) (l3 l4 t0 : Int32) (v_farEnd v_queue v_cameAlong : Nat → Int32) : Option (Int32 × (Nat → Int32) × (Nat → Int32) × (Nat → Int32)) := (gd (vp_in t0 24) (gd (vp_in t0 24) ((FX1_wouldCarry (w_lesser t0.toNatClampNeg) (w_greater t0.toNatClampNeg) v_farEnd v_queue v_cameAlong).bind (fun r3 => (if r3.1 = 0 then (FX3_carryingWithLast_b103 p2 w_bars w_lesser w_greater k12 l3 l4 r3.2.1 r3.2.2.1 r3.2.2.2) else ((FX1_lay (w_lesser t0.toNatClampNeg) (w_greater t0.toNatClampNeg) r3.2.1).bind (fun r5 => (FX3_carryingWithLast_b103 p2 w_bars w_lesser w_greater k12 (l3 ||| ((1 : Int32) <<< (l4 &&& 31))) l4 r5 r3.2.2.1 r3.2.2.2))))))))
noncomputable def FX3_carryingWithLast_b12 (p2 w_bars : Int32) (w_lesser w_greater : Nat → Int32)  (k12 : Int32 → Int32 → (Nat → Int32) → (Nat → Int32) → (Nat → Int32) → Option (Int32 × (Nat → Int32) × (Nat → Int32) × (Nat → Int32))) (l3 l4 : Int32) (v_farEnd v_queue v_cameAlong : Nat → Int32) : Option (Int32 × (Nat → Int32) × (Nat → Int32) × (Nat → Int32)) := (if w_bars ≤ l4 then (some (l3, v_farEnd, v_queue, v_cameAlong)) else (if l4 = (w_bars - 1) then (FX3_carryingWithLast_b51 p2 w_bars w_lesser w_greater k12 l3 l4 p2 v_farEnd v_queue v_cameAlong) else (if p2 ≤ l4 then (FX3_carryingWithLast_b51 p2 w_bars w_lesser w_greater k12 l3 l4 (l4 + 1) v_farEnd v_queue v_cameAlong) else (FX3_carryingWithLast_b51 p2 w_bars w_lesser w_greater k12 l3 l4 l4 v_farEnd v_queue v_cameAlong))))
noncomputable def FX3_carryingWithLast_h12 (p2 w_bars : Int32) (w_lesser w_greater : Nat → Int32)  : Nat → Int32 → Int32 → (Nat → Int32) → (Nat → Int32) → (Nat → Int32) → Option (Int32 × (Nat → Int32) × (Nat → Int32) × (Nat → Int32))
  | 0 => fun _ _ _ _ _ => none
  | n + 1 => fun l3 l4 v_farEnd v_queue v_cameAlong => FX3_carryingWithLast_b12 p2 w_bars w_lesser w_greater  (FX3_carryingWithLast_h12 p2 w_bars w_lesser w_greater  n) l3 l4 v_farEnd v_queue v_cameAlong
noncomputable def FX3_carryingWithLast (p2 : Int32) (v_farEnd v_queue v_cameAlong : Nat → Int32) (w_bars : Int32) (w_lesser w_greater : Nat → Int32) : Option (Int32 × (Nat → Int32) × (Nat → Int32) × (Nat → Int32)) := ((FX1_freeAll v_farEnd).bind (fun r9 => (FX3_carryingWithLast_h12 p2 w_bars w_lesser w_greater  5000 0 0 r9 v_queue v_cameAlong)))
set_option maxHeartbeats 4000000 in
set_option maxRecDepth 100000 in
theorem c_X3_carryingWithLast (l : Launch) (D : va_G) (cI cZ cS : ClassId) (a0 a1 a2 a3 a4 a5 a6 a7 a8 a9 a10 a11 : Nat) (v_near v_tiedTo v_parts : Nat → Int32) (v_partCount v_carrying v_rank v_freedoms v_isStiff v_worstBy v_worstPins : Int32) (v_farEnd v_queue v_cameAlong : Nat → Int32) (w_pins w_bars : Int32) (w_names w_lesser w_greater : Nat → Int32) (p2 : Int32) (u : Int32 × (Nat → Int32) × (Nat → Int32) × (Nat → Int32)) (hF : FX3_carryingWithLast p2 v_farEnd v_queue v_cameAlong w_bars w_lesser w_greater = some u) : MCi l D (tyL cI cZ cS) yX3_carryingWithLast cX3_carryingWithLast 8 (some .int) 3 78 [.ref a0, .ref a8, .int p2] (wX3 cI a0 a1 a2 a3 a4 a5 a6 a7 v_near v_tiedTo v_parts v_partCount v_carrying v_rank v_freedoms v_isStiff v_worstBy v_worstPins v_farEnd v_queue v_cameAlong ++ wX0 cI a8 a9 a10 a11 w_pins w_bars w_names w_lesser w_greater) (wX3 cI a0 a1 a2 a3 a4 a5 a6 a7 v_near v_tiedTo v_parts v_partCount v_carrying v_rank v_freedoms v_isStiff v_worstBy v_worstPins u.2.1 u.2.2.1 u.2.2.2 ++ wX0 cI a8 a9 a10 a11 w_pins w_bars w_names w_lesser w_greater) u.1 := by
  refine MCi.mk (by decide) (Nat.le_of_ble_eq_true rfl) ?_
  intro p e s m args below meth c A ls Q h0 hP hD hA hS hl hfin0
  have hfin : ∀ (u' : Int32 × (Nat → Int32) × (Nat → Int32) × (Nat → Int32)), u' = u → ∀ (H : Heap) (locs : List Loc) (ls : Array Slot) (pc : Nat), va_P D vwCl (wX3 cI a0 a1 a2 a3 a4 a5 a6 a7 v_near v_tiedTo v_parts v_partCount v_carrying v_rank v_freedoms v_isStiff v_worstBy v_worstPins u'.2.1 u'.2.2.1 u'.2.2.2 ++ wX0 cI a8 a9 a10 a11 w_pins w_bars w_names w_lesser w_greater) H → va_D A (wX3 cI a0 a1 a2 a3 a4 a5 a6 a7 v_near v_tiedTo v_parts v_partCount v_carrying v_rank v_freedoms v_isStiff v_worstBy v_worstPins u'.2.1 u'.2.2.1 u'.2.2.2 ++ wX0 cI a8 a9 a10 a11 w_pins w_bars w_names w_lesser w_greater) → va_S A s.heap H locs → decode cX3_carryingWithLast pc = .ok (.ireturn, 1) → W p l e (uR 3 78) s m args below meth c H locs 0 0 Q (F0 m pc ls [.int u'.1]) := by intro u' hu; subst hu; exact hfin0
  clear hfin0
  obtain ⟨hx, hb, hr, hlk, hml, hown, hts, hK⟩ := id h0
  have hl : lv_has ls 8 [(0, .ref a0), (1, .ref a8), (2, .int p2)] := hl
  have E := hF
  have J12 : ∀ (n12 : Nat) (l3 l4 : Int32) (v_farEnd v_queue v_cameAlong : Nat → Int32) (H : Heap) (locs : List Loc) (ls : Array Slot), FX3_carryingWithLast_h12 p2 w_bars w_lesser w_greater  n12 l3 l4 v_farEnd v_queue v_cameAlong = some u → va_P D vwCl (wX3 cI a0 a1 a2 a3 a4 a5 a6 a7 v_near v_tiedTo v_parts v_partCount v_carrying v_rank v_freedoms v_isStiff v_worstBy v_worstPins v_farEnd v_queue v_cameAlong ++ wX0 cI a8 a9 a10 a11 w_pins w_bars w_names w_lesser w_greater) H → va_D A (wX3 cI a0 a1 a2 a3 a4 a5 a6 a7 v_near v_tiedTo v_parts v_partCount v_carrying v_rank v_freedoms v_isStiff v_worstBy v_worstPins v_farEnd v_queue v_cameAlong ++ wX0 cI a8 a9 a10 a11 w_pins w_bars w_names w_lesser w_greater) → va_S A s.heap H locs → lv_has ls 8 [(0, .ref a0), (1, .ref a8), (2, .int p2), (3, .int l3), (4, .int l4)] → W p l e (uR 3 78) s m args below meth c H locs 0 0 Q (F0 m 12 ls []) := by
    intro n12
    induction n12 with
    | zero => intro l3 l4 v_farEnd v_queue v_cameAlong H locs ls E; exact none_e E
    | succ n12 ih12 =>
      intro l3 l4 v_farEnd v_queue v_cameAlong H locs ls E hP hD hS hl
      have E : FX3_carryingWithLast_b12 p2 w_bars w_lesser w_greater  (FX3_carryingWithLast_h12 p2 w_bars w_lesser w_greater  n12) l3 l4 v_farEnd v_queue v_cameAlong = some u := E
      have J103 : ∀ (l3 l4 : Int32) (v_farEnd v_queue v_cameAlong : Nat → Int32) (H : Heap) (locs : List Loc) (ls : Array Slot), FX3_carryingWithLast_b103 p2 w_bars w_lesser w_greater (FX3_carryingWithLast_h12 p2 w_bars w_lesser w_greater  n12) l3 l4 v_farEnd v_queue v_cameAlong = some u → va_P D vwCl (wX3 cI a0 a1 a2 a3 a4 a5 a6 a7 v_near v_tiedTo v_parts v_partCount v_carrying v_rank v_freedoms v_isStiff v_worstBy v_worstPins v_farEnd v_queue v_cameAlong ++ wX0 cI a8 a9 a10 a11 w_pins w_bars w_names w_lesser w_greater) H → va_D A (wX3 cI a0 a1 a2 a3 a4 a5 a6 a7 v_near v_tiedTo v_parts v_partCount v_carrying v_rank v_freedoms v_isStiff v_worstBy v_worstPins v_farEnd v_queue v_cameAlong ++ wX0 cI a8 a9 a10 a11 w_pins w_bars w_names w_lesser w_greater) → va_S A s.heap H locs → lv_has ls 8 [(0, .ref a0), (1, .ref a8), (2, .int p2), (3, .int l3), (4, .int l4)] → W p l e (uR 3 78) s m args below meth c H locs 0 0 Q (F0 m 103 ls []) := by
        intro l3 l4 v_farEnd v_queue v_cameAlong H locs ls E hP hD hS hl
        refine lv_iinc (v := (l4 + 1)) (lv' := [(4, .int (l4 + 1)), (0, .ref a0), (1, .ref a8), (2, .int p2), (3, .int l3)]) hx hb dX3_carryingWithLast_103 hl (k := 4) rfl rfl (by decide) rfl (fun ls hl => ?_)
        refine lv_goto (tgt := 12) hx hb dX3_carryingWithLast_106 (by decide) ?_
        exact ih12 _ _ _ _ _ _ _ _ E hP hD hS (lv_sub hl [1, 2, 3, 4, 0] rfl)
      have J51 : ∀ (l3 l4 t0 : Int32) (v_farEnd v_queue v_cameAlong : Nat → Int32) (H : Heap) (locs : List Loc) (ls : Array Slot), FX3_carryingWithLast_b51 p2 w_bars w_lesser w_greater (FX3_carryingWithLast_h12 p2 w_bars w_lesser w_greater  n12) l3 l4 t0 v_farEnd v_queue v_cameAlong = some u → va_P D vwCl (wX3 cI a0 a1 a2 a3 a4 a5 a6 a7 v_near v_tiedTo v_parts v_partCount v_carrying v_rank v_freedoms v_isStiff v_worstBy v_worstPins v_farEnd v_queue v_cameAlong ++ wX0 cI a8 a9 a10 a11 w_pins w_bars w_names w_lesser w_greater) H → va_D A (wX3 cI a0 a1 a2 a3 a4 a5 a6 a7 v_near v_tiedTo v_parts v_partCount v_carrying v_rank v_freedoms v_isStiff v_worstBy v_worstPins v_farEnd v_queue v_cameAlong ++ wX0 cI a8 a9 a10 a11 w_pins w_bars w_names w_lesser w_greater) → va_S A s.heap H locs → lv_has ls 8 [(0, .ref a0), (1, .ref a8), (2, .int p2), (3, .int l3), (4, .int l4)] → W p l e (uR 3 78) s m args below meth c H locs 0 0 Q (F0 m 51 ls [.int t0]) := by
        intro l3 l4 t0 v_farEnd v_queue v_cameAlong H locs ls E hP hD hS hl
        refine lv_istore (lv' := [(5, .int t0), (0, .ref a0), (1, .ref a8), (2, .int p2), (3, .int l3), (4, .int l4)]) hx hb dX3_carryingWithLast_51 hl (by decide) rfl (fun ls hl => ?_)
        refine lv_aload_n hx hb dX3_carryingWithLast_53 rfl (lv_at hl 2 rfl) ?_
        refine gf_X3_72 h0 hP 8 rfl rfl dX3_carryingWithLast_54 ?_
        refine lv_iload hx hb dX3_carryingWithLast_57 (lv_at hl 0 rfl) ?_
        obtain ⟨g1, E⟩ := gd_e E
        refine aldi hx hb hK hP 10 rfl rfl g1 dX3_carryingWithLast_59 ?_
        refine lv_istore (lv' := [(6, .int (w_lesser t0.toNatClampNeg)), (5, .int t0), (0, .ref a0), (1, .ref a8), (2, .int p2), (3, .int l3), (4, .int l4)]) hx hb dX3_carryingWithLast_60 hl (by decide) rfl (fun ls hl => ?_)
        refine lv_aload_n hx hb dX3_carryingWithLast_62 rfl (lv_at hl 3 rfl) ?_
        refine gf_X3_75 h0 hP 8 rfl rfl dX3_carryingWithLast_63 ?_
        refine lv_iload hx hb dX3_carryingWithLast_66 (lv_at hl 1 rfl) ?_
        obtain ⟨g2, E⟩ := gd_e E
        refine aldi hx hb hK hP 11 rfl rfl g2 dX3_carryingWithLast_68 ?_
        refine lv_istore (lv' := [(7, .int (w_greater t0.toNatClampNeg)), (6, .int (w_lesser t0.toNatClampNeg)), (5, .int t0), (0, .ref a0), (1, .ref a8), (2, .int p2), (3, .int l3), (4, .int l4)]) hx hb dX3_carryingWithLast_69 hl (by decide) rfl (fun ls hl => ?_)
        refine lv_aload_n hx hb dX3_carryingWithLast_71 rfl (lv_at hl 3 rfl) ?_
        refine gf_X3_12 h0 hP 0 rfl rfl dX3_carryingWithLast_72 ?_
        refine lv_iload hx hb dX3_carryingWithLast_75 (lv_at hl 1 rfl) ?_
        refine lv_iload hx hb dX3_carryingWithLast_77 (lv_at hl 0 rfl) ?_
        obtain ⟨r3, hF, E⟩ := bn_e E
        refine callVi (wo := (wX3 cI a0 a1 a2 a3 a4 a5 a6 a7 v_near v_tiedTo v_parts v_partCount v_carrying v_rank v_freedoms v_isStiff v_worstBy v_worstPins r3.2.1 r3.2.2.1 r3.2.2.2 ++ wX0 cI a8 a9 a10 a11 w_pins w_bars w_names w_lesser w_greater)) h0 (c_X1_wouldCarry l D cI cZ cS a4 a5 a6 a7 v_farEnd v_queue v_cameAlong (w_lesser t0.toNatClampNeg) (w_greater t0.toNatClampNeg) r3 hF) (gV wq_333 wq_334 wq_335 wq_5 wq_336) hdX1_wouldCarry ⟨Nat.le_of_ble_eq_true rfl, Nat.le_of_ble_eq_true rfl⟩ ⟨Nat.le_refl _, Nat.le_refl _⟩ hP hD hS hA 0 1 rfl rfl rfl [4, 5, 6, 7] rfl rfl rfl rfl hl.1 rfl (Nat.le_of_ble_eq_true rfl) dX3_carryingWithLast_79 (fun H locs hP hD hS => ?_)
        refine lv_if_eq (tgt := 103) hx hb dX3_carryingWithLast_82 (by decide) (fun c4 => ?_) (fun c4 => ?_)
        · have E := br_p E c4
          exact J103 _ _ _ _ _ _ _ _ E hP hD hS (lv_sub hl [3, 4, 5, 6, 7] rfl)
        · have E := br_n E c4
          refine lv_aload_n hx hb dX3_carryingWithLast_85 rfl (lv_at hl 3 rfl) ?_
          refine gf_X3_12 h0 hP 0 rfl rfl dX3_carryingWithLast_86 ?_
          refine lv_iload hx hb dX3_carryingWithLast_89 (lv_at hl 1 rfl) ?_
          refine lv_iload hx hb dX3_carryingWithLast_91 (lv_at hl 0 rfl) ?_
          obtain ⟨r5, hF, E⟩ := bn_e E
          refine callVv (wo := (wX3 cI a0 a1 a2 a3 a4 a5 a6 a7 v_near v_tiedTo v_parts v_partCount v_carrying v_rank v_freedoms v_isStiff v_worstBy v_worstPins r5 r3.2.2.1 r3.2.2.2 ++ wX0 cI a8 a9 a10 a11 w_pins w_bars w_names w_lesser w_greater)) h0 (c_X1_lay l D cI cZ cS a4 a5 a6 a7 r3.2.1 r3.2.2.1 r3.2.2.2 (w_lesser t0.toNatClampNeg) (w_greater t0.toNatClampNeg) r5 hF) (gV wq_353 wq_354 wq_355 wq_5 wq_356) hdX1_lay ⟨Nat.le_of_ble_eq_true rfl, Nat.le_of_ble_eq_true rfl⟩ ⟨Nat.le_refl _, Nat.le_refl _⟩ hP hD hS hA 0 1 rfl rfl rfl [4, 5, 6, 7] rfl rfl rfl rfl hl.1 rfl (Nat.le_of_ble_eq_true rfl) dX3_carryingWithLast_93 (fun H locs hP hD hS => ?_)
          refine lv_iload_n hx hb dX3_carryingWithLast_96 rfl (lv_at hl 6 rfl) ?_
          refine lv_iconst (v := 1) hx hb dX3_carryingWithLast_97 (by decide) ?_
          refine lv_iload hx hb dX3_carryingWithLast_98 (lv_at hl 7 rfl) ?_
          refine lv_ishl hx hb dX3_carryingWithLast_100 ?_
          refine lv_ior hx hb dX3_carryingWithLast_101 ?_
          refine lv_istore_n (lv' := [(3, .int (l3 ||| ((1 : Int32) <<< (l4 &&& 31)))), (7, .int (w_greater t0.toNatClampNeg)), (6, .int (w_lesser t0.toNatClampNeg)), (5, .int t0), (0, .ref a0), (1, .ref a8), (2, .int p2), (4, .int l4)]) hx hb dX3_carryingWithLast_102 rfl hl (by decide) rfl (fun ls hl => ?_)
          exact J103 _ _ _ _ _ _ _ _ E hP hD hS (lv_sub hl [4, 5, 6, 0, 7] rfl)
      refine lv_iload hx hb dX3_carryingWithLast_12 (lv_at hl 4 rfl) ?_
      refine lv_aload_n hx hb dX3_carryingWithLast_14 rfl (lv_at hl 1 rfl) ?_
      refine gf_X3_51 h0 hP 8 rfl rfl dX3_carryingWithLast_15 ?_
      refine lv_icmp_ge (tgt := 109) hx hb dX3_carryingWithLast_18 (by decide) (fun c6 => ?_) (fun c6 => ?_)
      · have E := br_p E c6
        refine lv_iload_n hx hb dX3_carryingWithLast_109 rfl (lv_at hl 3 rfl) ?_
        exact hfin _ (Option.some.inj E) _ _ _ _ hP hD hS dX3_carryingWithLast_110
      · have E := br_n E c6
        refine lv_iload hx hb dX3_carryingWithLast_21 (lv_at hl 4 rfl) ?_
        refine lv_aload_n hx hb dX3_carryingWithLast_23 rfl (lv_at hl 1 rfl) ?_
        refine gf_X3_51 h0 hP 8 rfl rfl dX3_carryingWithLast_24 ?_
        refine lv_iconst (v := 1) hx hb dX3_carryingWithLast_27 (by decide) ?_
        refine lv_isub hx hb dX3_carryingWithLast_28 ?_
        refine lv_icmp_ne (tgt := 36) hx hb dX3_carryingWithLast_29 (by decide) (fun c7 => ?_) (fun c7 => ?_)
        · have E := br_n E c7
          refine lv_iload hx hb dX3_carryingWithLast_36 (lv_at hl 4 rfl) ?_
          refine lv_iload_n hx hb dX3_carryingWithLast_38 rfl (lv_at hl 2 rfl) ?_
          refine lv_icmp_ge (tgt := 47) hx hb dX3_carryingWithLast_39 (by decide) (fun c8 => ?_) (fun c8 => ?_)
          · have E := br_p E c8
            refine lv_iload hx hb dX3_carryingWithLast_47 (lv_at hl 4 rfl) ?_
            refine lv_iconst (v := 1) hx hb dX3_carryingWithLast_49 (by decide) ?_
            refine lv_iadd hx hb dX3_carryingWithLast_50 ?_
            exact J51 _ _ _ _ _ _ _ _ _ E hP hD hS (lv_sub hl [0, 1, 2, 3, 4] rfl)
          · have E := br_n E c8
            refine lv_iload hx hb dX3_carryingWithLast_42 (lv_at hl 4 rfl) ?_
            refine lv_goto (tgt := 51) hx hb dX3_carryingWithLast_44 (by decide) ?_
            exact J51 _ _ _ _ _ _ _ _ _ E hP hD hS (lv_sub hl [0, 1, 2, 3, 4] rfl)
        · have E := br_p E c7
          refine lv_iload_n hx hb dX3_carryingWithLast_32 rfl (lv_at hl 2 rfl) ?_
          refine lv_goto (tgt := 51) hx hb dX3_carryingWithLast_33 (by decide) ?_
          exact J51 _ _ _ _ _ _ _ _ _ E hP hD hS (lv_sub hl [0, 1, 2, 3, 4] rfl)
  refine lv_aload_n hx hb dX3_carryingWithLast_0 rfl (lv_at hl 0 rfl) ?_
  refine gf_X3_12 h0 hP 0 rfl rfl dX3_carryingWithLast_1 ?_
  obtain ⟨r9, hF, E⟩ := bn_e E
  refine callVv (wo := (wX3 cI a0 a1 a2 a3 a4 a5 a6 a7 v_near v_tiedTo v_parts v_partCount v_carrying v_rank v_freedoms v_isStiff v_worstBy v_worstPins r9 v_queue v_cameAlong ++ wX0 cI a8 a9 a10 a11 w_pins w_bars w_names w_lesser w_greater)) h0 (c_X1_freeAll l D cI cZ cS a4 a5 a6 a7 v_farEnd v_queue v_cameAlong r9 hF) (gV wq_329 wq_330 wq_331 wq_5 wq_332) hdX1_freeAll ⟨Nat.le_of_ble_eq_true rfl, Nat.le_of_ble_eq_true rfl⟩ ⟨Nat.le_refl _, Nat.le_refl _⟩ hP hD hS hA 0 1 rfl rfl rfl [4, 5, 6, 7] rfl rfl rfl rfl hl.1 rfl (Nat.le_of_ble_eq_true rfl) dX3_carryingWithLast_4 (fun H locs hP hD hS => ?_)
  refine lv_iconst (v := 0) hx hb dX3_carryingWithLast_7 (by decide) ?_
  refine lv_istore_n (lv' := [(3, .int 0), (0, .ref a0), (1, .ref a8), (2, .int p2)]) hx hb dX3_carryingWithLast_8 rfl hl (by decide) rfl (fun ls hl => ?_)
  refine lv_iconst (v := 0) hx hb dX3_carryingWithLast_9 (by decide) ?_
  refine lv_istore (lv' := [(4, .int 0), (3, .int 0), (0, .ref a0), (1, .ref a8), (2, .int p2)]) hx hb dX3_carryingWithLast_10 hl (by decide) rfl (fun ls hl => ?_)
  exact J12 5000 _ _ _ _ _ _ _ _ E hP hD hS (lv_sub hl [2, 3, 4, 1, 0] rfl)
theorem hdX3_settle : yX3_settle.cls = RX3 ∧ yX3_settle.cls ≠ "java/lang/invoke/MethodHandle" ∧ yX3_settle.cls ≠ "java/lang/invoke/VarHandle" ∧ (parseMethodDescriptor yX3_settle.desc).map (fun d => d.parameters.length) = some 1 := by decide +kernel
noncomputable def FX3_settle (v_carrying v_rank v_freedoms v_isStiff : Int32) (v_farEnd v_queue v_cameAlong : Nat → Int32) (w_pins w_bars : Int32) (w_lesser w_greater : Nat → Int32) : Option (Int32 × Int32 × Int32 × Int32 × (Nat → Int32) × (Nat → Int32) × (Nat → Int32)) := ((FX3_carryingWithLast (w_bars - 1) v_farEnd v_queue v_cameAlong w_bars w_lesser w_greater).bind (fun r1 => ((FJ6_bitCount r1.1).bind (fun r2 => (if w_pins < 2 then (some (r1.1, r2, ((2 * w_pins) - r2), 0, r1.2.1, r1.2.2.1, r1.2.2.2)) else (if ((2 * w_pins) - r2) = 3 then (some (r1.1, r2, ((2 * w_pins) - r2), 1, r1.2.1, r1.2.2.1, r1.2.2.2)) else (some (r1.1, r2, ((2 * w_pins) - r2), 0, r1.2.1, r1.2.2.1, r1.2.2.2))))))))
set_option maxHeartbeats 4000000 in
set_option maxRecDepth 100000 in
theorem c_X3_settle (l : Launch) (D : va_G) (cI cZ cS : ClassId) (a0 a1 a2 a3 a4 a5 a6 a7 a8 a9 a10 a11 : Nat) (v_near v_tiedTo v_parts : Nat → Int32) (v_partCount v_carrying v_rank v_freedoms v_isStiff v_worstBy v_worstPins : Int32) (v_farEnd v_queue v_cameAlong : Nat → Int32) (w_pins w_bars : Int32) (w_names w_lesser w_greater : Nat → Int32)  (u : Int32 × Int32 × Int32 × Int32 × (Nat → Int32) × (Nat → Int32) × (Nat → Int32)) (hF : FX3_settle v_carrying v_rank v_freedoms v_isStiff v_farEnd v_queue v_cameAlong w_pins w_bars w_lesser w_greater = some u) : MCv l D (tyL cI cZ cS) yX3_settle cX3_settle 2 none 4 105 [.ref a0, .ref a8] (wX3 cI a0 a1 a2 a3 a4 a5 a6 a7 v_near v_tiedTo v_parts v_partCount v_carrying v_rank v_freedoms v_isStiff v_worstBy v_worstPins v_farEnd v_queue v_cameAlong ++ wX0 cI a8 a9 a10 a11 w_pins w_bars w_names w_lesser w_greater) (wX3 cI a0 a1 a2 a3 a4 a5 a6 a7 v_near v_tiedTo v_parts v_partCount u.1 u.2.1 u.2.2.1 u.2.2.2.1 v_worstBy v_worstPins u.2.2.2.2.1 u.2.2.2.2.2.1 u.2.2.2.2.2.2 ++ wX0 cI a8 a9 a10 a11 w_pins w_bars w_names w_lesser w_greater) := by
  refine MCv.mk (by decide) (Nat.le_of_ble_eq_true rfl) ?_
  intro p e s m args below meth c A ls Q h0 hP hD hA hS hl hfin0
  have hfin : ∀ (u' : Int32 × Int32 × Int32 × Int32 × (Nat → Int32) × (Nat → Int32) × (Nat → Int32)), u' = u → ∀ (H : Heap) (locs : List Loc) (ls : Array Slot) (pc : Nat), va_P D vwCl (wX3 cI a0 a1 a2 a3 a4 a5 a6 a7 v_near v_tiedTo v_parts v_partCount u'.1 u'.2.1 u'.2.2.1 u'.2.2.2.1 v_worstBy v_worstPins u'.2.2.2.2.1 u'.2.2.2.2.2.1 u'.2.2.2.2.2.2 ++ wX0 cI a8 a9 a10 a11 w_pins w_bars w_names w_lesser w_greater) H → va_D A (wX3 cI a0 a1 a2 a3 a4 a5 a6 a7 v_near v_tiedTo v_parts v_partCount u'.1 u'.2.1 u'.2.2.1 u'.2.2.2.1 v_worstBy v_worstPins u'.2.2.2.2.1 u'.2.2.2.2.2.1 u'.2.2.2.2.2.2 ++ wX0 cI a8 a9 a10 a11 w_pins w_bars w_names w_lesser w_greater) → va_S A s.heap H locs → decode cX3_settle pc = .ok (.return_, 1) → W p l e (uR 4 105) s m args below meth c H locs 0 0 Q (F0 m pc ls []) := by intro u' hu; subst hu; exact hfin0
  clear hfin0
  obtain ⟨hx, hb, hr, hlk, hml, hown, hts, hK⟩ := id h0
  have hl : lv_has ls 2 [(0, .ref a0), (1, .ref a8)] := hl
  have E := hF
  refine lv_aload_n hx hb dX3_settle_0 rfl (lv_at hl 0 rfl) ?_
  refine lv_aload_n hx hb dX3_settle_1 rfl (lv_at hl 0 rfl) ?_
  refine lv_aload_n hx hb dX3_settle_2 rfl (lv_at hl 1 rfl) ?_
  refine lv_aload_n hx hb dX3_settle_3 rfl (lv_at hl 1 rfl) ?_
  refine gf_X3_51 h0 hP 8 rfl rfl dX3_settle_4 ?_
  refine lv_iconst (v := 1) hx hb dX3_settle_7 (by decide) ?_
  refine lv_isub hx hb dX3_settle_8 ?_
  obtain ⟨r1, hF, E⟩ := bn_e E
  refine callVfi (wo := (wX3 cI a0 a1 a2 a3 a4 a5 a6 a7 v_near v_tiedTo v_parts v_partCount v_carrying v_rank v_freedoms v_isStiff v_worstBy v_worstPins r1.2.1 r1.2.2.1 r1.2.2.2 ++ wX0 cI a8 a9 a10 a11 w_pins w_bars w_names w_lesser w_greater)) h0 (c_X3_carryingWithLast l D cI cZ cS a0 a1 a2 a3 a4 a5 a6 a7 a8 a9 a10 a11 v_near v_tiedTo v_parts v_partCount v_carrying v_rank v_freedoms v_isStiff v_worstBy v_worstPins v_farEnd v_queue v_cameAlong w_pins w_bars w_names w_lesser w_greater (w_bars - 1) r1 hF) (gV wq_325 wq_326 wq_327 wq_4 wq_328) hdX3_carryingWithLast ⟨Nat.le_of_ble_eq_true rfl, Nat.le_of_ble_eq_true rfl⟩ ⟨Nat.le_refl _, Nat.le_refl _⟩ hP hD hS hA 0 3 rfl rfl rfl hl.1 rfl (Nat.le_of_ble_eq_true rfl) dX3_settle_9 (fun H locs hP hD hS => ?_)
  refine pf_X3_32 (wo := (wX3 cI a0 a1 a2 a3 a4 a5 a6 a7 v_near v_tiedTo v_parts v_partCount r1.1 v_rank v_freedoms v_isStiff v_worstBy v_worstPins r1.2.1 r1.2.2.1 r1.2.2.2 ++ wX0 cI a8 a9 a10 a11 w_pins w_bars w_names w_lesser w_greater)) h0 hP hD hS 0 rfl (Nat.le_of_ble_eq_true rfl) rfl dX3_settle_12 (fun H locs hP hD hS => ?_)
  refine lv_aload_n hx hb dX3_settle_15 rfl (lv_at hl 0 rfl) ?_
  refine lv_aload_n hx hb dX3_settle_16 rfl (lv_at hl 0 rfl) ?_
  refine gf_X3_32 h0 hP 0 rfl rfl dX3_settle_17 ?_
  obtain ⟨r2, hF, E⟩ := bn_e E
  refine callSi (wo := (wX3 cI a0 a1 a2 a3 a4 a5 a6 a7 v_near v_tiedTo v_parts v_partCount r1.1 v_rank v_freedoms v_isStiff v_worstBy v_worstPins r1.2.1 r1.2.2.1 r1.2.2.2 ++ wX0 cI a8 a9 a10 a11 w_pins w_bars w_names w_lesser w_greater)) h0 (c_J6_bitCount l D cI cZ cS r1.1 r2 hF) (gS wq_357 wq_358 wq_10 wq_359) hdJ6_bitCount ⟨Nat.le_of_ble_eq_true rfl, Nat.le_of_ble_eq_true rfl⟩ ⟨Nat.le_refl _, Nat.le_refl _⟩ hP hD hS hA [] rfl rfl rfl rfl hl.1 rfl (Nat.le_of_ble_eq_true rfl) dX3_settle_20 (fun H locs hP hD hS => ?_)
  refine pf_X3_35 (wo := (wX3 cI a0 a1 a2 a3 a4 a5 a6 a7 v_near v_tiedTo v_parts v_partCount r1.1 r2 v_freedoms v_isStiff v_worstBy v_worstPins r1.2.1 r1.2.2.1 r1.2.2.2 ++ wX0 cI a8 a9 a10 a11 w_pins w_bars w_names w_lesser w_greater)) h0 hP hD hS 0 rfl (Nat.le_of_ble_eq_true rfl) rfl dX3_settle_23 (fun H locs hP hD hS => ?_)
  refine lv_aload_n hx hb dX3_settle_26 rfl (lv_at hl 0 rfl) ?_
  refine lv_iconst (v := 2) hx hb dX3_settle_27 (by decide) ?_
  refine lv_aload_n hx hb dX3_settle_28 rfl (lv_at hl 1 rfl) ?_
  refine gf_X3_66 h0 hP 8 rfl rfl dX3_settle_29 ?_
  refine lv_imul hx hb dX3_settle_32 ?_
  refine lv_aload_n hx hb dX3_settle_33 rfl (lv_at hl 0 rfl) ?_
  refine gf_X3_35 h0 hP 0 rfl rfl dX3_settle_34 ?_
  refine lv_isub hx hb dX3_settle_37 ?_
  refine pf_X3_38 (wo := (wX3 cI a0 a1 a2 a3 a4 a5 a6 a7 v_near v_tiedTo v_parts v_partCount r1.1 r2 ((2 * w_pins) - r2) v_isStiff v_worstBy v_worstPins r1.2.1 r1.2.2.1 r1.2.2.2 ++ wX0 cI a8 a9 a10 a11 w_pins w_bars w_names w_lesser w_greater)) h0 hP hD hS 0 rfl (Nat.le_of_ble_eq_true rfl) rfl dX3_settle_38 (fun H locs hP hD hS => ?_)
  refine lv_aload_n hx hb dX3_settle_41 rfl (lv_at hl 0 rfl) ?_
  refine lv_aload_n hx hb dX3_settle_42 rfl (lv_at hl 1 rfl) ?_
  refine gf_X3_66 h0 hP 8 rfl rfl dX3_settle_43 ?_
  refine lv_iconst (v := 2) hx hb dX3_settle_46 (by decide) ?_
  refine lv_icmp_lt (tgt := 62) hx hb dX3_settle_47 (by decide) (fun c3 => ?_) (fun c3 => ?_)
  · have E := br_p E c3
    refine lv_iconst (v := 0) hx hb dX3_settle_62 (by decide) ?_
    refine pf_X3_41 (wo := (wX3 cI a0 a1 a2 a3 a4 a5 a6 a7 v_near v_tiedTo v_parts v_partCount r1.1 r2 ((2 * w_pins) - r2) 0 v_worstBy v_worstPins r1.2.1 r1.2.2.1 r1.2.2.2 ++ wX0 cI a8 a9 a10 a11 w_pins w_bars w_names w_lesser w_greater)) h0 hP hD hS 0 rfl (Nat.le_of_ble_eq_true rfl) (Or.inl rfl) rfl dX3_settle_63 (fun H locs hP hD hS => ?_)
    exact hfin _ (Option.some.inj E) _ _ _ _ hP hD hS dX3_settle_66
  · have E := br_n E c3
    refine lv_aload_n hx hb dX3_settle_50 rfl (lv_at hl 0 rfl) ?_
    refine gf_X3_38 h0 hP 0 rfl rfl dX3_settle_51 ?_
    refine lv_iconst (v := 3) hx hb dX3_settle_54 (by decide) ?_
    refine lv_icmp_ne (tgt := 62) hx hb dX3_settle_55 (by decide) (fun c4 => ?_) (fun c4 => ?_)
    · have E := br_n E c4
      refine lv_iconst (v := 0) hx hb dX3_settle_62 (by decide) ?_
      refine pf_X3_41 (wo := (wX3 cI a0 a1 a2 a3 a4 a5 a6 a7 v_near v_tiedTo v_parts v_partCount r1.1 r2 ((2 * w_pins) - r2) 0 v_worstBy v_worstPins r1.2.1 r1.2.2.1 r1.2.2.2 ++ wX0 cI a8 a9 a10 a11 w_pins w_bars w_names w_lesser w_greater)) h0 hP hD hS 0 rfl (Nat.le_of_ble_eq_true rfl) (Or.inl rfl) rfl dX3_settle_63 (fun H locs hP hD hS => ?_)
      exact hfin _ (Option.some.inj E) _ _ _ _ hP hD hS dX3_settle_66
    · have E := br_p E c4
      refine lv_iconst (v := 1) hx hb dX3_settle_58 (by decide) ?_
      refine lv_goto (tgt := 63) hx hb dX3_settle_59 (by decide) ?_
      refine pf_X3_41 (wo := (wX3 cI a0 a1 a2 a3 a4 a5 a6 a7 v_near v_tiedTo v_parts v_partCount r1.1 r2 ((2 * w_pins) - r2) 1 v_worstBy v_worstPins r1.2.1 r1.2.2.1 r1.2.2.2 ++ wX0 cI a8 a9 a10 a11 w_pins w_bars w_names w_lesser w_greater)) h0 hP hD hS 0 rfl (Nat.le_of_ble_eq_true rfl) (Or.inr rfl) rfl dX3_settle_63 (fun H locs hP hD hS => ?_)
      exact hfin _ (Option.some.inj E) _ _ _ _ hP hD hS dX3_settle_66
theorem hdX3_findTies : yX3_findTies.cls = RX3 ∧ yX3_findTies.cls ≠ "java/lang/invoke/MethodHandle" ∧ yX3_findTies.cls ≠ "java/lang/invoke/VarHandle" ∧ (parseMethodDescriptor yX3_findTies.desc).map (fun d => d.parameters.length) = some 1 := by decide +kernel
noncomputable def FX3_findTies_b72 (p1 : Int32) (k22 : Int32 → (Nat → Int32) → (Nat → Int32) → (Nat → Int32) → (Nat → Int32) → Option ((Nat → Int32) × (Nat → Int32) × (Nat → Int32) × (Nat → Int32))) (k31 : Int32 → Int32 → (Nat → Int32) → (Nat → Int32) → (Nat → Int32) → (Nat → Int32) → Option ((Nat → Int32) × (Nat → Int32) × (Nat → Int32) × (Nat → Int32))) (l2 l3 : Int32) (v_tiedTo v_farEnd v_queue v_cameAlong : Nat → Int32) : Option ((Nat → Int32) × (Nat → Int32) × (Nat → Int32) × (Nat → Int32)) := (k31 l2 (l3 + 1) v_tiedTo v_farEnd v_queue v_cameAlong)
noncomputable def FX3_findTies_b31 (p1 : Int32) (k22 : Int32 → (Nat → Int32) → (Nat → Int32) → (Nat → Int32) → (Nat → Int32) → Option ((Nat → Int32) × (Nat → Int32) × (Nat → Int32) × (Nat → Int32))) (k31 : Int32 → Int32 → (Nat → Int32) → (Nat → Int32) → (Nat → Int32) → (Nat → Int32) → Option ((Nat → Int32) × (Nat → Int32) × (Nat → Int32) × (Nat → Int32))) (l2 l3 : Int32) (v_tiedTo v_farEnd v_queue v_cameAlong : Nat → Int32) : Option ((Nat → Int32) × (Nat → Int32) × (Nat → Int32) × (Nat → Int32)) := (if p1 ≤ l3 then (k22 (l2 + 1) v_tiedTo v_farEnd v_queue v_cameAlong) else ((FX1_wouldCarry l2 l3 v_farEnd v_queue v_cameAlong).bind (fun r2 => (if r2.1 = 0 then (gd (vp_in l2 12) (gd (vp_in l2 12) (gd (vp_in l3 12) (gd (vp_in l3 12) (FX3_findTies_b72 p1 k22 k31 l2 l3 (upd (upd v_tiedTo l2.toNatClampNeg ((v_tiedTo l2.toNatClampNeg) ||| ((1 : Int32) <<< (l3 &&& 31)))) l3.toNatClampNeg (((upd v_tiedTo l2.toNatClampNeg ((v_tiedTo l2.toNatClampNeg) ||| ((1 : Int32) <<< (l3 &&& 31)))) l3.toNatClampNeg) ||| ((1 : Int32) <<< (l2 &&& 31)))) r2.2.1 r2.2.2.1 r2.2.2.2))))) else (FX3_findTies_b72 p1 k22 k31 l2 l3 v_tiedTo r2.2.1 r2.2.2.1 r2.2.2.2)))))
noncomputable def FX3_findTies_h31 (p1 : Int32) (k22 : Int32 → (Nat → Int32) → (Nat → Int32) → (Nat → Int32) → (Nat → Int32) → Option ((Nat → Int32) × (Nat → Int32) × (Nat → Int32) × (Nat → Int32))) : Nat → Int32 → Int32 → (Nat → Int32) → (Nat → Int32) → (Nat → Int32) → (Nat → Int32) → Option ((Nat → Int32) × (Nat → Int32) × (Nat → Int32) × (Nat → Int32))
  | 0 => fun _ _ _ _ _ _ => none
  | n + 1 => fun l2 l3 v_tiedTo v_farEnd v_queue v_cameAlong => FX3_findTies_b31 p1 k22 (FX3_findTies_h31 p1 k22 n) l2 l3 v_tiedTo v_farEnd v_queue v_cameAlong
noncomputable def FX3_findTies_b22 (p1 : Int32)  (k22 : Int32 → (Nat → Int32) → (Nat → Int32) → (Nat → Int32) → (Nat → Int32) → Option ((Nat → Int32) × (Nat → Int32) × (Nat → Int32) × (Nat → Int32))) (l2 : Int32) (v_tiedTo v_farEnd v_queue v_cameAlong : Nat → Int32) : Option ((Nat → Int32) × (Nat → Int32) × (Nat → Int32) × (Nat → Int32)) := (if p1 ≤ l2 then (some (v_tiedTo, v_farEnd, v_queue, v_cameAlong)) else (FX3_findTies_h31 p1 k22 5000 l2 (l2 + 1) v_tiedTo v_farEnd v_queue v_cameAlong))
noncomputable def FX3_findTies_h22 (p1 : Int32)  : Nat → Int32 → (Nat → Int32) → (Nat → Int32) → (Nat → Int32) → (Nat → Int32) → Option ((Nat → Int32) × (Nat → Int32) × (Nat → Int32) × (Nat → Int32))
  | 0 => fun _ _ _ _ _ => none
  | n + 1 => fun l2 v_tiedTo v_farEnd v_queue v_cameAlong => FX3_findTies_b22 p1  (FX3_findTies_h22 p1  n) l2 v_tiedTo v_farEnd v_queue v_cameAlong
noncomputable def FX3_findTies_b2 (p1 : Int32)  (k2 : Int32 → (Nat → Int32) → (Nat → Int32) → (Nat → Int32) → (Nat → Int32) → Option ((Nat → Int32) × (Nat → Int32) × (Nat → Int32) × (Nat → Int32))) (l2 : Int32) (v_tiedTo v_farEnd v_queue v_cameAlong : Nat → Int32) : Option ((Nat → Int32) × (Nat → Int32) × (Nat → Int32) × (Nat → Int32)) := (if p1 ≤ l2 then (FX3_findTies_h22 p1  5000 0 v_tiedTo v_farEnd v_queue v_cameAlong) else (gd (vp_in l2 12) (k2 (l2 + 1) (upd v_tiedTo l2.toNatClampNeg 0) v_farEnd v_queue v_cameAlong)))
noncomputable def FX3_findTies_h2 (p1 : Int32)  : Nat → Int32 → (Nat → Int32) → (Nat → Int32) → (Nat → Int32) → (Nat → Int32) → Option ((Nat → Int32) × (Nat → Int32) × (Nat → Int32) × (Nat → Int32))
  | 0 => fun _ _ _ _ _ => none
  | n + 1 => fun l2 v_tiedTo v_farEnd v_queue v_cameAlong => FX3_findTies_b2 p1  (FX3_findTies_h2 p1  n) l2 v_tiedTo v_farEnd v_queue v_cameAlong
noncomputable def FX3_findTies (p1 : Int32) (v_tiedTo v_farEnd v_queue v_cameAlong : Nat → Int32) : Option ((Nat → Int32) × (Nat → Int32) × (Nat → Int32) × (Nat → Int32)) := (FX3_findTies_h2 p1  5000 0 v_tiedTo v_farEnd v_queue v_cameAlong)
set_option maxHeartbeats 4000000 in
set_option maxRecDepth 100000 in
theorem c_X3_findTies (l : Launch) (D : va_G) (cI cZ cS : ClassId) (a0 a1 a2 a3 a4 a5 a6 a7 : Nat) (v_near v_tiedTo v_parts : Nat → Int32) (v_partCount v_carrying v_rank v_freedoms v_isStiff v_worstBy v_worstPins : Int32) (v_farEnd v_queue v_cameAlong : Nat → Int32) (p1 : Int32) (u : (Nat → Int32) × (Nat → Int32) × (Nat → Int32) × (Nat → Int32)) (hF : FX3_findTies p1 v_tiedTo v_farEnd v_queue v_cameAlong = some u) : MCv l D (tyL cI cZ cS) yX3_findTies cX3_findTies 4 none 3 78 [.ref a0, .int p1] (wX3 cI a0 a1 a2 a3 a4 a5 a6 a7 v_near v_tiedTo v_parts v_partCount v_carrying v_rank v_freedoms v_isStiff v_worstBy v_worstPins v_farEnd v_queue v_cameAlong) (wX3 cI a0 a1 a2 a3 a4 a5 a6 a7 v_near u.1 v_parts v_partCount v_carrying v_rank v_freedoms v_isStiff v_worstBy v_worstPins u.2.1 u.2.2.1 u.2.2.2) := by
  refine MCv.mk (by decide) (Nat.le_of_ble_eq_true rfl) ?_
  intro p e s m args below meth c A ls Q h0 hP hD hA hS hl hfin0
  have hfin : ∀ (u' : (Nat → Int32) × (Nat → Int32) × (Nat → Int32) × (Nat → Int32)), u' = u → ∀ (H : Heap) (locs : List Loc) (ls : Array Slot) (pc : Nat), va_P D vwCl (wX3 cI a0 a1 a2 a3 a4 a5 a6 a7 v_near u'.1 v_parts v_partCount v_carrying v_rank v_freedoms v_isStiff v_worstBy v_worstPins u'.2.1 u'.2.2.1 u'.2.2.2) H → va_D A (wX3 cI a0 a1 a2 a3 a4 a5 a6 a7 v_near u'.1 v_parts v_partCount v_carrying v_rank v_freedoms v_isStiff v_worstBy v_worstPins u'.2.1 u'.2.2.1 u'.2.2.2) → va_S A s.heap H locs → decode cX3_findTies pc = .ok (.return_, 1) → W p l e (uR 3 78) s m args below meth c H locs 0 0 Q (F0 m pc ls []) := by intro u' hu; subst hu; exact hfin0
  clear hfin0
  obtain ⟨hx, hb, hr, hlk, hml, hown, hts, hK⟩ := id h0
  have hl : lv_has ls 4 [(0, .ref a0), (1, .int p1)] := hl
  have E := hF
  have J22 : ∀ (n22 : Nat) (l2 : Int32) (v_tiedTo v_farEnd v_queue v_cameAlong : Nat → Int32) (H : Heap) (locs : List Loc) (ls : Array Slot), FX3_findTies_h22 p1  n22 l2 v_tiedTo v_farEnd v_queue v_cameAlong = some u → va_P D vwCl (wX3 cI a0 a1 a2 a3 a4 a5 a6 a7 v_near v_tiedTo v_parts v_partCount v_carrying v_rank v_freedoms v_isStiff v_worstBy v_worstPins v_farEnd v_queue v_cameAlong) H → va_D A (wX3 cI a0 a1 a2 a3 a4 a5 a6 a7 v_near v_tiedTo v_parts v_partCount v_carrying v_rank v_freedoms v_isStiff v_worstBy v_worstPins v_farEnd v_queue v_cameAlong) → va_S A s.heap H locs → lv_has ls 4 [(0, .ref a0), (1, .int p1), (2, .int l2)] → W p l e (uR 3 78) s m args below meth c H locs 0 0 Q (F0 m 22 ls []) := by
    intro n22
    induction n22 with
    | zero => intro l2 v_tiedTo v_farEnd v_queue v_cameAlong H locs ls E; exact none_e E
    | succ n22 ih22 =>
      intro l2 v_tiedTo v_farEnd v_queue v_cameAlong H locs ls E hP hD hS hl
      have E : FX3_findTies_b22 p1  (FX3_findTies_h22 p1  n22) l2 v_tiedTo v_farEnd v_queue v_cameAlong = some u := E
      have J31 : ∀ (n31 : Nat) (l2 l3 : Int32) (v_tiedTo v_farEnd v_queue v_cameAlong : Nat → Int32) (H : Heap) (locs : List Loc) (ls : Array Slot), FX3_findTies_h31 p1 (FX3_findTies_h22 p1  n22) n31 l2 l3 v_tiedTo v_farEnd v_queue v_cameAlong = some u → va_P D vwCl (wX3 cI a0 a1 a2 a3 a4 a5 a6 a7 v_near v_tiedTo v_parts v_partCount v_carrying v_rank v_freedoms v_isStiff v_worstBy v_worstPins v_farEnd v_queue v_cameAlong) H → va_D A (wX3 cI a0 a1 a2 a3 a4 a5 a6 a7 v_near v_tiedTo v_parts v_partCount v_carrying v_rank v_freedoms v_isStiff v_worstBy v_worstPins v_farEnd v_queue v_cameAlong) → va_S A s.heap H locs → lv_has ls 4 [(0, .ref a0), (1, .int p1), (2, .int l2), (3, .int l3)] → W p l e (uR 3 78) s m args below meth c H locs 0 0 Q (F0 m 31 ls []) := by
        intro n31
        induction n31 with
        | zero => intro l2 l3 v_tiedTo v_farEnd v_queue v_cameAlong H locs ls E; exact none_e E
        | succ n31 ih31 =>
          intro l2 l3 v_tiedTo v_farEnd v_queue v_cameAlong H locs ls E hP hD hS hl
          have E : FX3_findTies_b31 p1 (FX3_findTies_h22 p1  n22) (FX3_findTies_h31 p1 (FX3_findTies_h22 p1  n22) n31) l2 l3 v_tiedTo v_farEnd v_queue v_cameAlong = some u := E
          have J72 : ∀ (l2 l3 : Int32) (v_tiedTo v_farEnd v_queue v_cameAlong : Nat → Int32) (H : Heap) (locs : List Loc) (ls : Array Slot), FX3_findTies_b72 p1 (FX3_findTies_h22 p1  n22) (FX3_findTies_h31 p1 (FX3_findTies_h22 p1  n22) n31) l2 l3 v_tiedTo v_farEnd v_queue v_cameAlong = some u → va_P D vwCl (wX3 cI a0 a1 a2 a3 a4 a5 a6 a7 v_near v_tiedTo v_parts v_partCount v_carrying v_rank v_freedoms v_isStiff v_worstBy v_worstPins v_farEnd v_queue v_cameAlong) H → va_D A (wX3 cI a0 a1 a2 a3 a4 a5 a6 a7 v_near v_tiedTo v_parts v_partCount v_carrying v_rank v_freedoms v_isStiff v_worstBy v_worstPins v_farEnd v_queue v_cameAlong) → va_S A s.heap H locs → lv_has ls 4 [(0, .ref a0), (1, .int p1), (2, .int l2), (3, .int l3)] → W p l e (uR 3 78) s m args below meth c H locs 0 0 Q (F0 m 72 ls []) := by
            intro l2 l3 v_tiedTo v_farEnd v_queue v_cameAlong H locs ls E hP hD hS hl
            refine lv_iinc (v := (l3 + 1)) (lv' := [(3, .int (l3 + 1)), (0, .ref a0), (1, .int p1), (2, .int l2)]) hx hb dX3_findTies_72 hl (k := 3) rfl rfl (by decide) rfl (fun ls hl => ?_)
            refine lv_goto (tgt := 31) hx hb dX3_findTies_75 (by decide) ?_
            exact ih31 _ _ _ _ _ _ _ _ _ E hP hD hS (lv_sub hl [1, 2, 3, 0] rfl)
          refine lv_iload_n hx hb dX3_findTies_31 rfl (lv_at hl 3 rfl) ?_
          refine lv_iload_n hx hb dX3_findTies_32 rfl (lv_at hl 1 rfl) ?_
          refine lv_icmp_ge (tgt := 78) hx hb dX3_findTies_33 (by decide) (fun c1 => ?_) (fun c1 => ?_)
          · have E := br_p E c1
            refine lv_iinc (v := (l2 + 1)) (lv' := [(2, .int (l2 + 1)), (0, .ref a0), (1, .int p1), (3, .int l3)]) hx hb dX3_findTies_78 hl (k := 2) rfl rfl (by decide) rfl (fun ls hl => ?_)
            refine lv_goto (tgt := 22) hx hb dX3_findTies_81 (by decide) ?_
            exact ih22 _ _ _ _ _ _ _ _ E hP hD hS (lv_sub hl [1, 2, 0] rfl)
          · have E := br_n E c1
            refine lv_aload_n hx hb dX3_findTies_36 rfl (lv_at hl 0 rfl) ?_
            refine gf_X3_12 h0 hP 0 rfl rfl dX3_findTies_37 ?_
            refine lv_iload_n hx hb dX3_findTies_40 rfl (lv_at hl 2 rfl) ?_
            refine lv_iload_n hx hb dX3_findTies_41 rfl (lv_at hl 3 rfl) ?_
            obtain ⟨r2, hF, E⟩ := bn_e E
            refine callVi (wo := (wX3 cI a0 a1 a2 a3 a4 a5 a6 a7 v_near v_tiedTo v_parts v_partCount v_carrying v_rank v_freedoms v_isStiff v_worstBy v_worstPins r2.2.1 r2.2.2.1 r2.2.2.2)) h0 (c_X1_wouldCarry l D cI cZ cS a4 a5 a6 a7 v_farEnd v_queue v_cameAlong l2 l3 r2 hF) (gV wq_333 wq_334 wq_335 wq_5 wq_336) hdX1_wouldCarry ⟨Nat.le_of_ble_eq_true rfl, Nat.le_of_ble_eq_true rfl⟩ ⟨Nat.le_refl _, Nat.le_refl _⟩ hP hD hS hA 0 1 rfl rfl rfl [4, 5, 6, 7] rfl rfl rfl rfl hl.1 rfl (Nat.le_of_ble_eq_true rfl) dX3_findTies_42 (fun H locs hP hD hS => ?_)
            refine lv_if_ne (tgt := 72) hx hb dX3_findTies_45 (by decide) (fun c3 => ?_) (fun c3 => ?_)
            · have E := br_n E c3
              exact J72 _ _ _ _ _ _ _ _ _ E hP hD hS (lv_sub hl [0, 1, 2, 3] rfl)
            · have E := br_p E c3
              refine lv_aload_n hx hb dX3_findTies_48 rfl (lv_at hl 0 rfl) ?_
              refine gf_X3_22 h0 hP 0 rfl rfl dX3_findTies_49 ?_
              refine lv_iload_n hx hb dX3_findTies_52 rfl (lv_at hl 2 rfl) ?_
              refine lv_dup2_11 hx hb dX3_findTies_53 rfl rfl ?_
              obtain ⟨g4, E⟩ := gd_e E
              refine aldi hx hb hK hP 2 rfl rfl g4 dX3_findTies_54 ?_
              refine lv_iconst (v := 1) hx hb dX3_findTies_55 (by decide) ?_
              refine lv_iload_n hx hb dX3_findTies_56 rfl (lv_at hl 3 rfl) ?_
              refine lv_ishl hx hb dX3_findTies_57 ?_
              refine lv_ior hx hb dX3_findTies_58 ?_
              obtain ⟨g5, E⟩ := gd_e E
              refine asti (wo := (wX3 cI a0 a1 a2 a3 a4 a5 a6 a7 v_near (upd v_tiedTo l2.toNatClampNeg ((v_tiedTo l2.toNatClampNeg) ||| ((1 : Int32) <<< (l3 &&& 31)))) v_parts v_partCount v_carrying v_rank v_freedoms v_isStiff v_worstBy v_worstPins r2.2.1 r2.2.2.1 r2.2.2.2)) hx hb hK hP hD hS 2 rfl rfl g5 rfl dX3_findTies_59 (fun H locs hP hD hS => ?_)
              refine lv_aload_n hx hb dX3_findTies_60 rfl (lv_at hl 0 rfl) ?_
              refine gf_X3_22 h0 hP 0 rfl rfl dX3_findTies_61 ?_
              refine lv_iload_n hx hb dX3_findTies_64 rfl (lv_at hl 3 rfl) ?_
              refine lv_dup2_11 hx hb dX3_findTies_65 rfl rfl ?_
              obtain ⟨g6, E⟩ := gd_e E
              refine aldi hx hb hK hP 2 rfl rfl g6 dX3_findTies_66 ?_
              refine lv_iconst (v := 1) hx hb dX3_findTies_67 (by decide) ?_
              refine lv_iload_n hx hb dX3_findTies_68 rfl (lv_at hl 2 rfl) ?_
              refine lv_ishl hx hb dX3_findTies_69 ?_
              refine lv_ior hx hb dX3_findTies_70 ?_
              obtain ⟨g7, E⟩ := gd_e E
              refine asti (wo := (wX3 cI a0 a1 a2 a3 a4 a5 a6 a7 v_near (upd (upd v_tiedTo l2.toNatClampNeg ((v_tiedTo l2.toNatClampNeg) ||| ((1 : Int32) <<< (l3 &&& 31)))) l3.toNatClampNeg (((upd v_tiedTo l2.toNatClampNeg ((v_tiedTo l2.toNatClampNeg) ||| ((1 : Int32) <<< (l3 &&& 31)))) l3.toNatClampNeg) ||| ((1 : Int32) <<< (l2 &&& 31)))) v_parts v_partCount v_carrying v_rank v_freedoms v_isStiff v_worstBy v_worstPins r2.2.1 r2.2.2.1 r2.2.2.2)) hx hb hK hP hD hS 2 rfl rfl g7 rfl dX3_findTies_71 (fun H locs hP hD hS => ?_)
              exact J72 _ _ _ _ _ _ _ _ _ E hP hD hS (lv_sub hl [0, 1, 2, 3] rfl)
      refine lv_iload_n hx hb dX3_findTies_22 rfl (lv_at hl 2 rfl) ?_
      refine lv_iload_n hx hb dX3_findTies_23 rfl (lv_at hl 1 rfl) ?_
      refine lv_icmp_ge (tgt := 84) hx hb dX3_findTies_24 (by decide) (fun c8 => ?_) (fun c8 => ?_)
      · have E := br_p E c8
        exact hfin _ (Option.some.inj E) _ _ _ _ hP hD hS dX3_findTies_84
      · have E := br_n E c8
        refine lv_iload_n hx hb dX3_findTies_27 rfl (lv_at hl 2 rfl) ?_
        refine lv_iconst (v := 1) hx hb dX3_findTies_28 (by decide) ?_
        refine lv_iadd hx hb dX3_findTies_29 ?_
        refine lv_istore_n (lv' := [(3, .int (l2 + 1)), (0, .ref a0), (1, .int p1), (2, .int l2)]) hx hb dX3_findTies_30 rfl hl (by decide) rfl (fun ls hl => ?_)
        exact J31 5000 _ _ _ _ _ _ _ _ _ E hP hD hS (lv_sub hl [1, 2, 3, 0] rfl)
  have J2 : ∀ (n2 : Nat) (l2 : Int32) (v_tiedTo v_farEnd v_queue v_cameAlong : Nat → Int32) (H : Heap) (locs : List Loc) (ls : Array Slot), FX3_findTies_h2 p1  n2 l2 v_tiedTo v_farEnd v_queue v_cameAlong = some u → va_P D vwCl (wX3 cI a0 a1 a2 a3 a4 a5 a6 a7 v_near v_tiedTo v_parts v_partCount v_carrying v_rank v_freedoms v_isStiff v_worstBy v_worstPins v_farEnd v_queue v_cameAlong) H → va_D A (wX3 cI a0 a1 a2 a3 a4 a5 a6 a7 v_near v_tiedTo v_parts v_partCount v_carrying v_rank v_freedoms v_isStiff v_worstBy v_worstPins v_farEnd v_queue v_cameAlong) → va_S A s.heap H locs → lv_has ls 4 [(0, .ref a0), (1, .int p1), (2, .int l2)] → W p l e (uR 3 78) s m args below meth c H locs 0 0 Q (F0 m 2 ls []) := by
    intro n2
    induction n2 with
    | zero => intro l2 v_tiedTo v_farEnd v_queue v_cameAlong H locs ls E; exact none_e E
    | succ n2 ih2 =>
      intro l2 v_tiedTo v_farEnd v_queue v_cameAlong H locs ls E hP hD hS hl
      have E : FX3_findTies_b2 p1  (FX3_findTies_h2 p1  n2) l2 v_tiedTo v_farEnd v_queue v_cameAlong = some u := E
      refine lv_iload_n hx hb dX3_findTies_2 rfl (lv_at hl 2 rfl) ?_
      refine lv_iload_n hx hb dX3_findTies_3 rfl (lv_at hl 1 rfl) ?_
      refine lv_icmp_ge (tgt := 20) hx hb dX3_findTies_4 (by decide) (fun c9 => ?_) (fun c9 => ?_)
      · have E := br_p E c9
        refine lv_iconst (v := 0) hx hb dX3_findTies_20 (by decide) ?_
        refine lv_istore_n (lv' := [(2, .int 0), (0, .ref a0), (1, .int p1)]) hx hb dX3_findTies_21 rfl hl (by decide) rfl (fun ls hl => ?_)
        exact J22 5000 _ _ _ _ _ _ _ _ E hP hD hS (lv_sub hl [1, 2, 0] rfl)
      · have E := br_n E c9
        refine lv_aload_n hx hb dX3_findTies_7 rfl (lv_at hl 0 rfl) ?_
        refine gf_X3_22 h0 hP 0 rfl rfl dX3_findTies_8 ?_
        refine lv_iload_n hx hb dX3_findTies_11 rfl (lv_at hl 2 rfl) ?_
        refine lv_iconst (v := 0) hx hb dX3_findTies_12 (by decide) ?_
        obtain ⟨g10, E⟩ := gd_e E
        refine asti (wo := (wX3 cI a0 a1 a2 a3 a4 a5 a6 a7 v_near (upd v_tiedTo l2.toNatClampNeg 0) v_parts v_partCount v_carrying v_rank v_freedoms v_isStiff v_worstBy v_worstPins v_farEnd v_queue v_cameAlong)) hx hb hK hP hD hS 2 rfl rfl g10 rfl dX3_findTies_13 (fun H locs hP hD hS => ?_)
        refine lv_iinc (v := (l2 + 1)) (lv' := [(2, .int (l2 + 1)), (0, .ref a0), (1, .int p1)]) hx hb dX3_findTies_14 hl (k := 2) rfl rfl (by decide) rfl (fun ls hl => ?_)
        refine lv_goto (tgt := 2) hx hb dX3_findTies_17 (by decide) ?_
        exact ih2 _ _ _ _ _ _ _ _ E hP hD hS (lv_sub hl [1, 2, 0] rfl)
  refine lv_iconst (v := 0) hx hb dX3_findTies_0 (by decide) ?_
  refine lv_istore_n (lv' := [(2, .int 0), (0, .ref a0), (1, .int p1)]) hx hb dX3_findTies_1 rfl hl (by decide) rfl (fun ls hl => ?_)
  exact J2 5000 _ _ _ _ _ _ _ _ E hP hD hS (lv_sub hl [1, 2, 0] rfl)
theorem hdX3_findParts : yX3_findParts.cls = RX3 ∧ yX3_findParts.cls ≠ "java/lang/invoke/MethodHandle" ∧ yX3_findParts.cls ≠ "java/lang/invoke/VarHandle" ∧ (parseMethodDescriptor yX3_findParts.desc).map (fun d => d.parameters.length) = some 1 := by decide +kernel
noncomputable def FX3_findParts_b126 (p1 : Int32) (k12 : Int32 → (Nat → Int32) → (Nat → Int32) → Int32 → (Nat → Int32) → (Nat → Int32) → (Nat → Int32) → Option ((Nat → Int32) × (Nat → Int32) × Int32 × (Nat → Int32) × (Nat → Int32) × (Nat → Int32))) (k21 : Int32 → Int32 → (Nat → Int32) → (Nat → Int32) → Int32 → (Nat → Int32) → (Nat → Int32) → (Nat → Int32) → Option ((Nat → Int32) × (Nat → Int32) × Int32 × (Nat → Int32) × (Nat → Int32) × (Nat → Int32))) (l2 l3 : Int32) (v_tiedTo v_parts : Nat → Int32) (v_partCount : Int32) (v_farEnd v_queue v_cameAlong : Nat → Int32) : Option ((Nat → Int32) × (Nat → Int32) × Int32 × (Nat → Int32) × (Nat → Int32) × (Nat → Int32)) := (k21 l2 (l3 + 1) v_tiedTo v_parts v_partCount v_farEnd v_queue v_cameAlong)
noncomputable def FX3_findParts_b72 (p1 : Int32) (k12 : Int32 → (Nat → Int32) → (Nat → Int32) → Int32 → (Nat → Int32) → (Nat → Int32) → (Nat → Int32) → Option ((Nat → Int32) × (Nat → Int32) × Int32 × (Nat → Int32) × (Nat → Int32) × (Nat → Int32))) (k21 : Int32 → Int32 → (Nat → Int32) → (Nat → Int32) → Int32 → (Nat → Int32) → (Nat → Int32) → (Nat → Int32) → Option ((Nat → Int32) × (Nat → Int32) × Int32 × (Nat → Int32) × (Nat → Int32) × (Nat → Int32))) (l2 l3 l5 t0 : Int32) (v_tiedTo v_parts : Nat → Int32) (v_partCount : Int32) (v_farEnd v_queue v_cameAlong : Nat → Int32) : Option ((Nat → Int32) × (Nat → Int32) × Int32 × (Nat → Int32) × (Nat → Int32) × (Nat → Int32)) := (gd (vp_in l2 12) (if (((v_tiedTo l2.toNatClampNeg) >>> (l3 &&& 31)) &&& 1) = 1 then (if t0 = 0 then (FX3_findParts_b126 p1 k12 k21 l2 l3 v_tiedTo v_parts v_partCount v_farEnd v_queue v_cameAlong) else (if 24 ≤ v_partCount then (FX3_findParts_b126 p1 k12 k21 l2 l3 v_tiedTo v_parts v_partCount v_farEnd v_queue v_cameAlong) else (gd (vp_in v_partCount 24) (FX3_findParts_b126 p1 k12 k21 l2 l3 v_tiedTo (upd v_parts v_partCount.toNatClampNeg l5) (v_partCount + 1) v_farEnd v_queue v_cameAlong)))) else (FX3_findParts_b126 p1 k12 k21 l2 l3 v_tiedTo v_parts v_partCount v_farEnd v_queue v_cameAlong)))
noncomputable def FX3_findParts_b21 (p1 : Int32) (k12 : Int32 → (Nat → Int32) → (Nat → Int32) → Int32 → (Nat → Int32) → (Nat → Int32) → (Nat → Int32) → Option ((Nat → Int32) × (Nat → Int32) × Int32 × (Nat → Int32) × (Nat → Int32) × (Nat → Int32))) (k21 : Int32 → Int32 → (Nat → Int32) → (Nat → Int32) → Int32 → (Nat → Int32) → (Nat → Int32) → (Nat → Int32) → Option ((Nat → Int32) × (Nat → Int32) × Int32 × (Nat → Int32) × (Nat → Int32) × (Nat → Int32))) (l2 l3 : Int32) (v_tiedTo v_parts : Nat → Int32) (v_partCount : Int32) (v_farEnd v_queue v_cameAlong : Nat → Int32) : Option ((Nat → Int32) × (Nat → Int32) × Int32 × (Nat → Int32) × (Nat → Int32) × (Nat → Int32)) := (if p1 ≤ l3 then (k12 (l2 + 1) v_tiedTo v_parts v_partCount v_farEnd v_queue v_cameAlong) else (gd (vp_in l2 12) (gd (vp_in l3 12) (if ((((v_tiedTo l2.toNatClampNeg) &&& (v_tiedTo l3.toNatClampNeg)) ||| (((1 : Int32) <<< (l2 &&& 31)) ||| ((1 : Int32) <<< (l3 &&& 31)))) &&& (((1 : Int32) <<< (l3 &&& 31)) - 1)) = ((1 : Int32) <<< (l2 &&& 31)) then (FX3_findParts_b72 p1 k12 k21 l2 l3 (((v_tiedTo l2.toNatClampNeg) &&& (v_tiedTo l3.toNatClampNeg)) ||| (((1 : Int32) <<< (l2 &&& 31)) ||| ((1 : Int32) <<< (l3 &&& 31)))) 1 v_tiedTo v_parts v_partCount v_farEnd v_queue v_cameAlong) else (FX3_findParts_b72 p1 k12 k21 l2 l3 (((v_tiedTo l2.toNatClampNeg) &&& (v_tiedTo l3.toNatClampNeg)) ||| (((1 : Int32) <<< (l2 &&& 31)) ||| ((1 : Int32) <<< (l3 &&& 31)))) 0 v_tiedTo v_parts v_partCount v_farEnd v_queue v_cameAlong)))))
noncomputable def FX3_findParts_h21 (p1 : Int32) (k12 : Int32 → (Nat → Int32) → (Nat → Int32) → Int32 → (Nat → Int32) → (Nat → Int32) → (Nat → Int32) → Option ((Nat → Int32) × (Nat → Int32) × Int32 × (Nat → Int32) × (Nat → Int32) × (Nat → Int32))) : Nat → Int32 → Int32 → (Nat → Int32) → (Nat → Int32) → Int32 → (Nat → Int32) → (Nat → Int32) → (Nat → Int32) → Option ((Nat → Int32) × (Nat → Int32) × Int32 × (Nat → Int32) × (Nat → Int32) × (Nat → Int32))
  | 0 => fun _ _ _ _ _ _ _ _ => none
  | n + 1 => fun l2 l3 v_tiedTo v_parts v_partCount v_farEnd v_queue v_cameAlong => FX3_findParts_b21 p1 k12 (FX3_findParts_h21 p1 k12 n) l2 l3 v_tiedTo v_parts v_partCount v_farEnd v_queue v_cameAlong
noncomputable def FX3_findParts_b12 (p1 : Int32)  (k12 : Int32 → (Nat → Int32) → (Nat → Int32) → Int32 → (Nat → Int32) → (Nat → Int32) → (Nat → Int32) → Option ((Nat → Int32) × (Nat → Int32) × Int32 × (Nat → Int32) × (Nat → Int32) × (Nat → Int32))) (l2 : Int32) (v_tiedTo v_parts : Nat → Int32) (v_partCount : Int32) (v_farEnd v_queue v_cameAlong : Nat → Int32) : Option ((Nat → Int32) × (Nat → Int32) × Int32 × (Nat → Int32) × (Nat → Int32) × (Nat → Int32)) := (if p1 ≤ l2 then (some (v_tiedTo, v_parts, v_partCount, v_farEnd, v_queue, v_cameAlong)) else (FX3_findParts_h21 p1 k12 5000 l2 (l2 + 1) v_tiedTo v_parts v_partCount v_farEnd v_queue v_cameAlong))
noncomputable def FX3_findParts_h12 (p1 : Int32)  : Nat → Int32 → (Nat → Int32) → (Nat → Int32) → Int32 → (Nat → Int32) → (Nat → Int32) → (Nat → Int32) → Option ((Nat → Int32) × (Nat → Int32) × Int32 × (Nat → Int32) × (Nat → Int32) × (Nat → Int32))
  | 0 => fun _ _ _ _ _ _ _ => none
  | n + 1 => fun l2 v_tiedTo v_parts v_partCount v_farEnd v_queue v_cameAlong => FX3_findParts_b12 p1  (FX3_findParts_h12 p1  n) l2 v_tiedTo v_parts v_partCount v_farEnd v_queue v_cameAlong
noncomputable def FX3_findParts (p1 : Int32) (v_tiedTo v_parts : Nat → Int32) (v_partCount : Int32) (v_farEnd v_queue v_cameAlong : Nat → Int32) : Option ((Nat → Int32) × (Nat → Int32) × Int32 × (Nat → Int32) × (Nat → Int32) × (Nat → Int32)) := ((FX3_findTies p1 v_tiedTo v_farEnd v_queue v_cameAlong).bind (fun r11 => (FX3_findParts_h12 p1  5000 0 r11.1 v_parts 0 r11.2.1 r11.2.2.1 r11.2.2.2)))
set_option maxHeartbeats 4000000 in
set_option maxRecDepth 100000 in
theorem c_X3_findParts (l : Launch) (D : va_G) (cI cZ cS : ClassId) (a0 a1 a2 a3 a4 a5 a6 a7 : Nat) (v_near v_tiedTo v_parts : Nat → Int32) (v_partCount v_carrying v_rank v_freedoms v_isStiff v_worstBy v_worstPins : Int32) (v_farEnd v_queue v_cameAlong : Nat → Int32) (p1 : Int32) (u : (Nat → Int32) × (Nat → Int32) × Int32 × (Nat → Int32) × (Nat → Int32) × (Nat → Int32)) (hF : FX3_findParts p1 v_tiedTo v_parts v_partCount v_farEnd v_queue v_cameAlong = some u) : MCv l D (tyL cI cZ cS) yX3_findParts cX3_findParts 7 none 4 101 [.ref a0, .int p1] (wX3 cI a0 a1 a2 a3 a4 a5 a6 a7 v_near v_tiedTo v_parts v_partCount v_carrying v_rank v_freedoms v_isStiff v_worstBy v_worstPins v_farEnd v_queue v_cameAlong) (wX3 cI a0 a1 a2 a3 a4 a5 a6 a7 v_near u.1 u.2.1 u.2.2.1 v_carrying v_rank v_freedoms v_isStiff v_worstBy v_worstPins u.2.2.2.1 u.2.2.2.2.1 u.2.2.2.2.2) := by
  refine MCv.mk (by decide) (Nat.le_of_ble_eq_true rfl) ?_
  intro p e s m args below meth c A ls Q h0 hP hD hA hS hl hfin0
  have hfin : ∀ (u' : (Nat → Int32) × (Nat → Int32) × Int32 × (Nat → Int32) × (Nat → Int32) × (Nat → Int32)), u' = u → ∀ (H : Heap) (locs : List Loc) (ls : Array Slot) (pc : Nat), va_P D vwCl (wX3 cI a0 a1 a2 a3 a4 a5 a6 a7 v_near u'.1 u'.2.1 u'.2.2.1 v_carrying v_rank v_freedoms v_isStiff v_worstBy v_worstPins u'.2.2.2.1 u'.2.2.2.2.1 u'.2.2.2.2.2) H → va_D A (wX3 cI a0 a1 a2 a3 a4 a5 a6 a7 v_near u'.1 u'.2.1 u'.2.2.1 v_carrying v_rank v_freedoms v_isStiff v_worstBy v_worstPins u'.2.2.2.1 u'.2.2.2.2.1 u'.2.2.2.2.2) → va_S A s.heap H locs → decode cX3_findParts pc = .ok (.return_, 1) → W p l e (uR 4 101) s m args below meth c H locs 0 0 Q (F0 m pc ls []) := by intro u' hu; subst hu; exact hfin0
  clear hfin0
  obtain ⟨hx, hb, hr, hlk, hml, hown, hts, hK⟩ := id h0
  have hl : lv_has ls 7 [(0, .ref a0), (1, .int p1)] := hl
  have E := hF
  have J12 : ∀ (n12 : Nat) (l2 : Int32) (v_tiedTo v_parts : Nat → Int32) (v_partCount : Int32) (v_farEnd v_queue v_cameAlong : Nat → Int32) (H : Heap) (locs : List Loc) (ls : Array Slot), FX3_findParts_h12 p1  n12 l2 v_tiedTo v_parts v_partCount v_farEnd v_queue v_cameAlong = some u → va_P D vwCl (wX3 cI a0 a1 a2 a3 a4 a5 a6 a7 v_near v_tiedTo v_parts v_partCount v_carrying v_rank v_freedoms v_isStiff v_worstBy v_worstPins v_farEnd v_queue v_cameAlong) H → va_D A (wX3 cI a0 a1 a2 a3 a4 a5 a6 a7 v_near v_tiedTo v_parts v_partCount v_carrying v_rank v_freedoms v_isStiff v_worstBy v_worstPins v_farEnd v_queue v_cameAlong) → va_S A s.heap H locs → lv_has ls 7 [(0, .ref a0), (1, .int p1), (2, .int l2)] → W p l e (uR 4 101) s m args below meth c H locs 0 0 Q (F0 m 12 ls []) := by
    intro n12
    induction n12 with
    | zero => intro l2 v_tiedTo v_parts v_partCount v_farEnd v_queue v_cameAlong H locs ls E; exact none_e E
    | succ n12 ih12 =>
      intro l2 v_tiedTo v_parts v_partCount v_farEnd v_queue v_cameAlong H locs ls E hP hD hS hl
      have E : FX3_findParts_b12 p1  (FX3_findParts_h12 p1  n12) l2 v_tiedTo v_parts v_partCount v_farEnd v_queue v_cameAlong = some u := E
      have J21 : ∀ (n21 : Nat) (l2 l3 : Int32) (v_tiedTo v_parts : Nat → Int32) (v_partCount : Int32) (v_farEnd v_queue v_cameAlong : Nat → Int32) (H : Heap) (locs : List Loc) (ls : Array Slot), FX3_findParts_h21 p1 (FX3_findParts_h12 p1  n12) n21 l2 l3 v_tiedTo v_parts v_partCount v_farEnd v_queue v_cameAlong = some u → va_P D vwCl (wX3 cI a0 a1 a2 a3 a4 a5 a6 a7 v_near v_tiedTo v_parts v_partCount v_carrying v_rank v_freedoms v_isStiff v_worstBy v_worstPins v_farEnd v_queue v_cameAlong) H → va_D A (wX3 cI a0 a1 a2 a3 a4 a5 a6 a7 v_near v_tiedTo v_parts v_partCount v_carrying v_rank v_freedoms v_isStiff v_worstBy v_worstPins v_farEnd v_queue v_cameAlong) → va_S A s.heap H locs → lv_has ls 7 [(0, .ref a0), (1, .int p1), (2, .int l2), (3, .int l3)] → W p l e (uR 4 101) s m args below meth c H locs 0 0 Q (F0 m 21 ls []) := by
        intro n21
        induction n21 with
        | zero => intro l2 l3 v_tiedTo v_parts v_partCount v_farEnd v_queue v_cameAlong H locs ls E; exact none_e E
        | succ n21 ih21 =>
          intro l2 l3 v_tiedTo v_parts v_partCount v_farEnd v_queue v_cameAlong H locs ls E hP hD hS hl
          have E : FX3_findParts_b21 p1 (FX3_findParts_h12 p1  n12) (FX3_findParts_h21 p1 (FX3_findParts_h12 p1  n12) n21) l2 l3 v_tiedTo v_parts v_partCount v_farEnd v_queue v_cameAlong = some u := E
          have J126 : ∀ (l2 l3 : Int32) (v_tiedTo v_parts : Nat → Int32) (v_partCount : Int32) (v_farEnd v_queue v_cameAlong : Nat → Int32) (H : Heap) (locs : List Loc) (ls : Array Slot), FX3_findParts_b126 p1 (FX3_findParts_h12 p1  n12) (FX3_findParts_h21 p1 (FX3_findParts_h12 p1  n12) n21) l2 l3 v_tiedTo v_parts v_partCount v_farEnd v_queue v_cameAlong = some u → va_P D vwCl (wX3 cI a0 a1 a2 a3 a4 a5 a6 a7 v_near v_tiedTo v_parts v_partCount v_carrying v_rank v_freedoms v_isStiff v_worstBy v_worstPins v_farEnd v_queue v_cameAlong) H → va_D A (wX3 cI a0 a1 a2 a3 a4 a5 a6 a7 v_near v_tiedTo v_parts v_partCount v_carrying v_rank v_freedoms v_isStiff v_worstBy v_worstPins v_farEnd v_queue v_cameAlong) → va_S A s.heap H locs → lv_has ls 7 [(0, .ref a0), (1, .int p1), (2, .int l2), (3, .int l3)] → W p l e (uR 4 101) s m args below meth c H locs 0 0 Q (F0 m 126 ls []) := by
            intro l2 l3 v_tiedTo v_parts v_partCount v_farEnd v_queue v_cameAlong H locs ls E hP hD hS hl
            refine lv_iinc (v := (l3 + 1)) (lv' := [(3, .int (l3 + 1)), (0, .ref a0), (1, .int p1), (2, .int l2)]) hx hb dX3_findParts_126 hl (k := 3) rfl rfl (by decide) rfl (fun ls hl => ?_)
            refine lv_goto (tgt := 21) hx hb dX3_findParts_129 (by decide) ?_
            exact ih21 _ _ _ _ _ _ _ _ _ _ _ E hP hD hS (lv_sub hl [1, 2, 3, 0] rfl)
          have J72 : ∀ (l2 l3 l5 t0 : Int32) (v_tiedTo v_parts : Nat → Int32) (v_partCount : Int32) (v_farEnd v_queue v_cameAlong : Nat → Int32) (H : Heap) (locs : List Loc) (ls : Array Slot), FX3_findParts_b72 p1 (FX3_findParts_h12 p1  n12) (FX3_findParts_h21 p1 (FX3_findParts_h12 p1  n12) n21) l2 l3 l5 t0 v_tiedTo v_parts v_partCount v_farEnd v_queue v_cameAlong = some u → va_P D vwCl (wX3 cI a0 a1 a2 a3 a4 a5 a6 a7 v_near v_tiedTo v_parts v_partCount v_carrying v_rank v_freedoms v_isStiff v_worstBy v_worstPins v_farEnd v_queue v_cameAlong) H → va_D A (wX3 cI a0 a1 a2 a3 a4 a5 a6 a7 v_near v_tiedTo v_parts v_partCount v_carrying v_rank v_freedoms v_isStiff v_worstBy v_worstPins v_farEnd v_queue v_cameAlong) → va_S A s.heap H locs → lv_has ls 7 [(0, .ref a0), (1, .int p1), (2, .int l2), (3, .int l3), (5, .int l5)] → W p l e (uR 4 101) s m args below meth c H locs 0 0 Q (F0 m 72 ls [.int t0]) := by
            intro l2 l3 l5 t0 v_tiedTo v_parts v_partCount v_farEnd v_queue v_cameAlong H locs ls E hP hD hS hl
            refine lv_istore (lv' := [(6, .int t0), (0, .ref a0), (1, .int p1), (2, .int l2), (3, .int l3), (5, .int l5)]) hx hb dX3_findParts_72 hl (by decide) rfl (fun ls hl => ?_)
            refine lv_aload_n hx hb dX3_findParts_74 rfl (lv_at hl 1 rfl) ?_
            refine gf_X3_22 h0 hP 0 rfl rfl dX3_findParts_75 ?_
            refine lv_iload_n hx hb dX3_findParts_78 rfl (lv_at hl 3 rfl) ?_
            obtain ⟨g1, E⟩ := gd_e E
            refine aldi hx hb hK hP 2 rfl rfl g1 dX3_findParts_79 ?_
            refine lv_iload_n hx hb dX3_findParts_80 rfl (lv_at hl 4 rfl) ?_
            refine lv_ishr hx hb dX3_findParts_81 ?_
            refine lv_iconst (v := 1) hx hb dX3_findParts_82 (by decide) ?_
            refine lv_iand hx hb dX3_findParts_83 ?_
            refine lv_iconst (v := 1) hx hb dX3_findParts_84 (by decide) ?_
            refine lv_icmp_ne (tgt := 126) hx hb dX3_findParts_85 (by decide) (fun c2 => ?_) (fun c2 => ?_)
            · have E := br_n E c2
              exact J126 _ _ _ _ _ _ _ _ _ _ _ E hP hD hS (lv_sub hl [1, 2, 3, 4] rfl)
            · have E := br_p E c2
              refine lv_iload hx hb dX3_findParts_88 (lv_at hl 0 rfl) ?_
              refine lv_if_eq (tgt := 126) hx hb dX3_findParts_90 (by decide) (fun c3 => ?_) (fun c3 => ?_)
              · have E := br_p E c3
                exact J126 _ _ _ _ _ _ _ _ _ _ _ E hP hD hS (lv_sub hl [1, 2, 3, 4] rfl)
              · have E := br_n E c3
                refine lv_aload_n hx hb dX3_findParts_93 rfl (lv_at hl 1 rfl) ?_
                refine gf_X3_28 h0 hP 0 rfl rfl dX3_findParts_94 ?_
                refine lv_aload_n hx hb dX3_findParts_97 rfl (lv_at hl 1 rfl) ?_
                refine gf_X3_25 h0 hP 0 rfl rfl dX3_findParts_98 ?_
                refine va_alen (v := 24) hx hb hK hP 3 0 rfl rfl rfl dX3_findParts_101 ?_
                refine lv_icmp_ge (tgt := 126) hx hb dX3_findParts_102 (by decide) (fun c4 => ?_) (fun c4 => ?_)
                · have E := br_p E c4
                  exact J126 _ _ _ _ _ _ _ _ _ _ _ E hP hD hS (lv_sub hl [1, 2, 3, 4] rfl)
                · have E := br_n E c4
                  refine lv_aload_n hx hb dX3_findParts_105 rfl (lv_at hl 1 rfl) ?_
                  refine gf_X3_25 h0 hP 0 rfl rfl dX3_findParts_106 ?_
                  refine lv_aload_n hx hb dX3_findParts_109 rfl (lv_at hl 1 rfl) ?_
                  refine gf_X3_28 h0 hP 0 rfl rfl dX3_findParts_110 ?_
                  refine lv_iload hx hb dX3_findParts_113 (lv_at hl 5 rfl) ?_
                  obtain ⟨g5, E⟩ := gd_e E
                  refine asti (wo := (wX3 cI a0 a1 a2 a3 a4 a5 a6 a7 v_near v_tiedTo (upd v_parts v_partCount.toNatClampNeg l5) v_partCount v_carrying v_rank v_freedoms v_isStiff v_worstBy v_worstPins v_farEnd v_queue v_cameAlong)) hx hb hK hP hD hS 3 rfl rfl g5 rfl dX3_findParts_115 (fun H locs hP hD hS => ?_)
                  refine lv_aload_n hx hb dX3_findParts_116 rfl (lv_at hl 1 rfl) ?_
                  refine lv_dup hx hb dX3_findParts_117 rfl ?_
                  refine gf_X3_28 h0 hP 0 rfl rfl dX3_findParts_118 ?_
                  refine lv_iconst (v := 1) hx hb dX3_findParts_121 (by decide) ?_
                  refine lv_iadd hx hb dX3_findParts_122 ?_
                  refine pf_X3_28 (wo := (wX3 cI a0 a1 a2 a3 a4 a5 a6 a7 v_near v_tiedTo (upd v_parts v_partCount.toNatClampNeg l5) (v_partCount + 1) v_carrying v_rank v_freedoms v_isStiff v_worstBy v_worstPins v_farEnd v_queue v_cameAlong)) h0 hP hD hS 0 rfl (Nat.le_of_ble_eq_true rfl) rfl dX3_findParts_123 (fun H locs hP hD hS => ?_)
                  exact J126 _ _ _ _ _ _ _ _ _ _ _ E hP hD hS (lv_sub hl [1, 2, 3, 4] rfl)
          refine lv_iload_n hx hb dX3_findParts_21 rfl (lv_at hl 3 rfl) ?_
          refine lv_iload_n hx hb dX3_findParts_22 rfl (lv_at hl 1 rfl) ?_
          refine lv_icmp_ge (tgt := 132) hx hb dX3_findParts_23 (by decide) (fun c6 => ?_) (fun c6 => ?_)
          · have E := br_p E c6
            refine lv_iinc (v := (l2 + 1)) (lv' := [(2, .int (l2 + 1)), (0, .ref a0), (1, .int p1), (3, .int l3)]) hx hb dX3_findParts_132 hl (k := 2) rfl rfl (by decide) rfl (fun ls hl => ?_)
            refine lv_goto (tgt := 12) hx hb dX3_findParts_135 (by decide) ?_
            exact ih12 _ _ _ _ _ _ _ _ _ _ E hP hD hS (lv_sub hl [1, 2, 0] rfl)
          · have E := br_n E c6
            refine lv_iconst (v := 1) hx hb dX3_findParts_26 (by decide) ?_
            refine lv_iload_n hx hb dX3_findParts_27 rfl (lv_at hl 2 rfl) ?_
            refine lv_ishl hx hb dX3_findParts_28 ?_
            refine lv_iconst (v := 1) hx hb dX3_findParts_29 (by decide) ?_
            refine lv_iload_n hx hb dX3_findParts_30 rfl (lv_at hl 3 rfl) ?_
            refine lv_ishl hx hb dX3_findParts_31 ?_
            refine lv_ior hx hb dX3_findParts_32 ?_
            refine lv_istore (lv' := [(4, .int (((1 : Int32) <<< (l2 &&& 31)) ||| ((1 : Int32) <<< (l3 &&& 31)))), (0, .ref a0), (1, .int p1), (2, .int l2), (3, .int l3)]) hx hb dX3_findParts_33 hl (by decide) rfl (fun ls hl => ?_)
            refine lv_aload_n hx hb dX3_findParts_35 rfl (lv_at hl 1 rfl) ?_
            refine gf_X3_22 h0 hP 0 rfl rfl dX3_findParts_36 ?_
            refine lv_iload_n hx hb dX3_findParts_39 rfl (lv_at hl 3 rfl) ?_
            obtain ⟨g7, E⟩ := gd_e E
            refine aldi hx hb hK hP 2 rfl rfl g7 dX3_findParts_40 ?_
            refine lv_aload_n hx hb dX3_findParts_41 rfl (lv_at hl 1 rfl) ?_
            refine gf_X3_22 h0 hP 0 rfl rfl dX3_findParts_42 ?_
            refine lv_iload_n hx hb dX3_findParts_45 rfl (lv_at hl 4 rfl) ?_
            obtain ⟨g8, E⟩ := gd_e E
            refine aldi hx hb hK hP 2 rfl rfl g8 dX3_findParts_46 ?_
            refine lv_iand hx hb dX3_findParts_47 ?_
            refine lv_iload hx hb dX3_findParts_48 (lv_at hl 0 rfl) ?_
            refine lv_ior hx hb dX3_findParts_50 ?_
            refine lv_istore (lv' := [(5, .int (((v_tiedTo l2.toNatClampNeg) &&& (v_tiedTo l3.toNatClampNeg)) ||| (((1 : Int32) <<< (l2 &&& 31)) ||| ((1 : Int32) <<< (l3 &&& 31))))), (4, .int (((1 : Int32) <<< (l2 &&& 31)) ||| ((1 : Int32) <<< (l3 &&& 31)))), (0, .ref a0), (1, .int p1), (2, .int l2), (3, .int l3)]) hx hb dX3_findParts_51 hl (by decide) rfl (fun ls hl => ?_)
            refine lv_iload hx hb dX3_findParts_53 (lv_at hl 0 rfl) ?_
            refine lv_iconst (v := 1) hx hb dX3_findParts_55 (by decide) ?_
            refine lv_iload_n hx hb dX3_findParts_56 rfl (lv_at hl 5 rfl) ?_
            refine lv_ishl hx hb dX3_findParts_57 ?_
            refine lv_iconst (v := 1) hx hb dX3_findParts_58 (by decide) ?_
            refine lv_isub hx hb dX3_findParts_59 ?_
            refine lv_iand hx hb dX3_findParts_60 ?_
            refine lv_iconst (v := 1) hx hb dX3_findParts_61 (by decide) ?_
            refine lv_iload_n hx hb dX3_findParts_62 rfl (lv_at hl 4 rfl) ?_
            refine lv_ishl hx hb dX3_findParts_63 ?_
            refine lv_icmp_ne (tgt := 71) hx hb dX3_findParts_64 (by decide) (fun c9 => ?_) (fun c9 => ?_)
            · have E := br_n E c9
              refine lv_iconst (v := 0) hx hb dX3_findParts_71 (by decide) ?_
              exact J72 _ _ _ _ _ _ _ _ _ _ _ _ _ E hP hD hS (lv_sub hl [2, 3, 4, 5, 0] rfl)
            · have E := br_p E c9
              refine lv_iconst (v := 1) hx hb dX3_findParts_67 (by decide) ?_
              refine lv_goto (tgt := 72) hx hb dX3_findParts_68 (by decide) ?_
              exact J72 _ _ _ _ _ _ _ _ _ _ _ _ _ E hP hD hS (lv_sub hl [2, 3, 4, 5, 0] rfl)
      refine lv_iload_n hx hb dX3_findParts_12 rfl (lv_at hl 2 rfl) ?_
      refine lv_iload_n hx hb dX3_findParts_13 rfl (lv_at hl 1 rfl) ?_
      refine lv_icmp_ge (tgt := 138) hx hb dX3_findParts_14 (by decide) (fun c10 => ?_) (fun c10 => ?_)
      · have E := br_p E c10
        exact hfin _ (Option.some.inj E) _ _ _ _ hP hD hS dX3_findParts_138
      · have E := br_n E c10
        refine lv_iload_n hx hb dX3_findParts_17 rfl (lv_at hl 2 rfl) ?_
        refine lv_iconst (v := 1) hx hb dX3_findParts_18 (by decide) ?_
        refine lv_iadd hx hb dX3_findParts_19 ?_
        refine lv_istore_n (lv' := [(3, .int (l2 + 1)), (0, .ref a0), (1, .int p1), (2, .int l2)]) hx hb dX3_findParts_20 rfl hl (by decide) rfl (fun ls hl => ?_)
        exact J21 5000 _ _ _ _ _ _ _ _ _ _ _ E hP hD hS (lv_sub hl [1, 2, 3, 0] rfl)
  refine lv_aload_n hx hb dX3_findParts_0 rfl (lv_at hl 0 rfl) ?_
  refine lv_iload_n hx hb dX3_findParts_1 rfl (lv_at hl 1 rfl) ?_
  obtain ⟨r11, hF, E⟩ := bn_e E
  refine callVfv (wo := (wX3 cI a0 a1 a2 a3 a4 a5 a6 a7 v_near r11.1 v_parts v_partCount v_carrying v_rank v_freedoms v_isStiff v_worstBy v_worstPins r11.2.1 r11.2.2.1 r11.2.2.2)) h0 (c_X3_findTies l D cI cZ cS a0 a1 a2 a3 a4 a5 a6 a7 v_near v_tiedTo v_parts v_partCount v_carrying v_rank v_freedoms v_isStiff v_worstBy v_worstPins v_farEnd v_queue v_cameAlong p1 r11 hF) (gV wq_367 wq_369 wp_10 wq_4 wq_370) hdX3_findTies ⟨Nat.le_of_ble_eq_true rfl, Nat.le_of_ble_eq_true rfl⟩ ⟨Nat.le_refl _, Nat.le_refl _⟩ hP hD hS hA 0 3 rfl rfl rfl hl.1 rfl (Nat.le_of_ble_eq_true rfl) dX3_findParts_2 (fun H locs hP hD hS => ?_)
  refine lv_aload_n hx hb dX3_findParts_5 rfl (lv_at hl 0 rfl) ?_
  refine lv_iconst (v := 0) hx hb dX3_findParts_6 (by decide) ?_
  refine pf_X3_28 (wo := (wX3 cI a0 a1 a2 a3 a4 a5 a6 a7 v_near r11.1 v_parts 0 v_carrying v_rank v_freedoms v_isStiff v_worstBy v_worstPins r11.2.1 r11.2.2.1 r11.2.2.2)) h0 hP hD hS 0 rfl (Nat.le_of_ble_eq_true rfl) rfl dX3_findParts_7 (fun H locs hP hD hS => ?_)
  refine lv_iconst (v := 0) hx hb dX3_findParts_10 (by decide) ?_
  refine lv_istore_n (lv' := [(2, .int 0), (0, .ref a0), (1, .int p1)]) hx hb dX3_findParts_11 rfl hl (by decide) rfl (fun ls hl => ?_)
  exact J12 5000 _ _ _ _ _ _ _ _ _ _ E hP hD hS (lv_sub hl [1, 2, 0] rfl)
theorem hdX3_isOvertied : yX3_isOvertied.cls = RX3 ∧ yX3_isOvertied.cls ≠ "java/lang/invoke/MethodHandle" ∧ yX3_isOvertied.cls ≠ "java/lang/invoke/VarHandle" ∧ (parseMethodDescriptor yX3_isOvertied.desc).map (fun d => d.parameters.length) = some 2 := by decide +kernel
noncomputable def FX3_isOvertied (p2 : Int32) (v_farEnd v_queue v_cameAlong : Nat → Int32) (w_bars : Int32) (w_lesser w_greater : Nat → Int32) : Option (Int32 × (Nat → Int32) × (Nat → Int32) × (Nat → Int32)) := ((FX3_carryingWithLast p2 v_farEnd v_queue v_cameAlong w_bars w_lesser w_greater).bind (fun r1 => (if ((r1.1 >>> ((w_bars - 1) &&& 31)) &&& 1) = 0 then (some (1, r1.2.1, r1.2.2.1, r1.2.2.2)) else (some (0, r1.2.1, r1.2.2.1, r1.2.2.2)))))
set_option maxHeartbeats 4000000 in
set_option maxRecDepth 100000 in
theorem c_X3_isOvertied (l : Launch) (D : va_G) (cI cZ cS : ClassId) (a0 a1 a2 a3 a4 a5 a6 a7 a8 a9 a10 a11 : Nat) (v_near v_tiedTo v_parts : Nat → Int32) (v_partCount v_carrying v_rank v_freedoms v_isStiff v_worstBy v_worstPins : Int32) (v_farEnd v_queue v_cameAlong : Nat → Int32) (w_pins w_bars : Int32) (w_names w_lesser w_greater : Nat → Int32) (p2 : Int32) (u : Int32 × (Nat → Int32) × (Nat → Int32) × (Nat → Int32)) (hF : FX3_isOvertied p2 v_farEnd v_queue v_cameAlong w_bars w_lesser w_greater = some u) : MCi l D (tyL cI cZ cS) yX3_isOvertied cX3_isOvertied 3 (some .boolean) 4 105 [.ref a0, .ref a8, .int p2] (wX3 cI a0 a1 a2 a3 a4 a5 a6 a7 v_near v_tiedTo v_parts v_partCount v_carrying v_rank v_freedoms v_isStiff v_worstBy v_worstPins v_farEnd v_queue v_cameAlong ++ wX0 cI a8 a9 a10 a11 w_pins w_bars w_names w_lesser w_greater) (wX3 cI a0 a1 a2 a3 a4 a5 a6 a7 v_near v_tiedTo v_parts v_partCount v_carrying v_rank v_freedoms v_isStiff v_worstBy v_worstPins u.2.1 u.2.2.1 u.2.2.2 ++ wX0 cI a8 a9 a10 a11 w_pins w_bars w_names w_lesser w_greater) u.1 := by
  refine MCz.mk (by decide) (Nat.le_of_ble_eq_true rfl) ?_
  intro p e s m args below meth c A ls Q h0 hP hD hA hS hl hfin0
  have hfin : ∀ (u' : Int32 × (Nat → Int32) × (Nat → Int32) × (Nat → Int32)), u' = u → ∀ (H : Heap) (locs : List Loc) (ls : Array Slot) (pc : Nat), (u'.1 = 0 ∨ u'.1 = 1) → va_P D vwCl (wX3 cI a0 a1 a2 a3 a4 a5 a6 a7 v_near v_tiedTo v_parts v_partCount v_carrying v_rank v_freedoms v_isStiff v_worstBy v_worstPins u'.2.1 u'.2.2.1 u'.2.2.2 ++ wX0 cI a8 a9 a10 a11 w_pins w_bars w_names w_lesser w_greater) H → va_D A (wX3 cI a0 a1 a2 a3 a4 a5 a6 a7 v_near v_tiedTo v_parts v_partCount v_carrying v_rank v_freedoms v_isStiff v_worstBy v_worstPins u'.2.1 u'.2.2.1 u'.2.2.2 ++ wX0 cI a8 a9 a10 a11 w_pins w_bars w_names w_lesser w_greater) → va_S A s.heap H locs → decode cX3_isOvertied pc = .ok (.ireturn, 1) → W p l e (uR 4 105) s m args below meth c H locs 0 0 Q (F0 m pc ls [.int u'.1]) := by intro u' hu; subst hu; exact hfin0
  clear hfin0
  obtain ⟨hx, hb, hr, hlk, hml, hown, hts, hK⟩ := id h0
  have hl : lv_has ls 3 [(0, .ref a0), (1, .ref a8), (2, .int p2)] := hl
  have E := hF
  refine lv_aload_n hx hb dX3_isOvertied_0 rfl (lv_at hl 0 rfl) ?_
  refine lv_aload_n hx hb dX3_isOvertied_1 rfl (lv_at hl 1 rfl) ?_
  refine lv_iload_n hx hb dX3_isOvertied_2 rfl (lv_at hl 2 rfl) ?_
  obtain ⟨r1, hF, E⟩ := bn_e E
  refine callVfi (wo := (wX3 cI a0 a1 a2 a3 a4 a5 a6 a7 v_near v_tiedTo v_parts v_partCount v_carrying v_rank v_freedoms v_isStiff v_worstBy v_worstPins r1.2.1 r1.2.2.1 r1.2.2.2 ++ wX0 cI a8 a9 a10 a11 w_pins w_bars w_names w_lesser w_greater)) h0 (c_X3_carryingWithLast l D cI cZ cS a0 a1 a2 a3 a4 a5 a6 a7 a8 a9 a10 a11 v_near v_tiedTo v_parts v_partCount v_carrying v_rank v_freedoms v_isStiff v_worstBy v_worstPins v_farEnd v_queue v_cameAlong w_pins w_bars w_names w_lesser w_greater p2 r1 hF) (gV wq_325 wq_326 wq_327 wq_4 wq_328) hdX3_carryingWithLast ⟨Nat.le_of_ble_eq_true rfl, Nat.le_of_ble_eq_true rfl⟩ ⟨Nat.le_refl _, Nat.le_refl _⟩ hP hD hS hA 0 3 rfl rfl rfl hl.1 rfl (Nat.le_of_ble_eq_true rfl) dX3_isOvertied_3 (fun H locs hP hD hS => ?_)
  refine lv_aload_n hx hb dX3_isOvertied_6 rfl (lv_at hl 1 rfl) ?_
  refine gf_X3_51 h0 hP 8 rfl rfl dX3_isOvertied_7 ?_
  refine lv_iconst (v := 1) hx hb dX3_isOvertied_10 (by decide) ?_
  refine lv_isub hx hb dX3_isOvertied_11 ?_
  refine lv_ishr hx hb dX3_isOvertied_12 ?_
  refine lv_iconst (v := 1) hx hb dX3_isOvertied_13 (by decide) ?_
  refine lv_iand hx hb dX3_isOvertied_14 ?_
  refine lv_if_ne (tgt := 22) hx hb dX3_isOvertied_15 (by decide) (fun c2 => ?_) (fun c2 => ?_)
  · have E := br_n E c2
    refine lv_iconst (v := 0) hx hb dX3_isOvertied_22 (by decide) ?_
    exact hfin _ (Option.some.inj E) _ _ _ _ (Or.inl rfl) hP hD hS dX3_isOvertied_23
  · have E := br_p E c2
    refine lv_iconst (v := 1) hx hb dX3_isOvertied_18 (by decide) ?_
    refine lv_goto (tgt := 23) hx hb dX3_isOvertied_19 (by decide) ?_
    exact hfin _ (Option.some.inj E) _ _ _ _ (Or.inr rfl) hP hD hS dX3_isOvertied_23
theorem hdX3_countOvertied : yX3_countOvertied.cls = RX3 ∧ yX3_countOvertied.cls ≠ "java/lang/invoke/MethodHandle" ∧ yX3_countOvertied.cls ≠ "java/lang/invoke/VarHandle" ∧ (parseMethodDescriptor yX3_countOvertied.desc).map (fun d => d.parameters.length) = some 1 := by decide +kernel
noncomputable def FX3_countOvertied_b24 (w_bars : Int32) (w_lesser w_greater : Nat → Int32) (k4 : Int32 → Int32 → (Nat → Int32) → (Nat → Int32) → (Nat → Int32) → Option (Int32 × (Nat → Int32) × (Nat → Int32) × (Nat → Int32))) (l2 l3 : Int32) (v_farEnd v_queue v_cameAlong : Nat → Int32) : Option (Int32 × (Nat → Int32) × (Nat → Int32) × (Nat → Int32)) := (k4 l2 (l3 + 1) v_farEnd v_queue v_cameAlong)
noncomputable def FX3_countOvertied_b4 (w_bars : Int32) (w_lesser w_greater : Nat → Int32)  (k4 : Int32 → Int32 → (Nat → Int32) → (Nat → Int32) → (Nat → Int32) → Option (Int32 × (Nat → Int32) × (Nat → Int32) × (Nat → Int32))) (l2 l3 : Int32) (v_farEnd v_queue v_cameAlong : Nat → Int32) : Option (Int32 × (Nat → Int32) × (Nat → Int32) × (Nat → Int32)) := (if w_bars ≤ l3 then (some (l2, v_farEnd, v_queue, v_cameAlong)) else ((FX3_isOvertied l3 v_farEnd v_queue v_cameAlong w_bars w_lesser w_greater).bind (fun r2 => (if r2.1 = 0 then (FX3_countOvertied_b24 w_bars w_lesser w_greater k4 l2 l3 r2.2.1 r2.2.2.1 r2.2.2.2) else (FX3_countOvertied_b24 w_bars w_lesser w_greater k4 (l2 + 1) l3 r2.2.1 r2.2.2.1 r2.2.2.2)))))
noncomputable def FX3_countOvertied_h4 (w_bars : Int32) (w_lesser w_greater : Nat → Int32)  : Nat → Int32 → Int32 → (Nat → Int32) → (Nat → Int32) → (Nat → Int32) → Option (Int32 × (Nat → Int32) × (Nat → Int32) × (Nat → Int32))
  | 0 => fun _ _ _ _ _ => none
  | n + 1 => fun l2 l3 v_farEnd v_queue v_cameAlong => FX3_countOvertied_b4 w_bars w_lesser w_greater  (FX3_countOvertied_h4 w_bars w_lesser w_greater  n) l2 l3 v_farEnd v_queue v_cameAlong
noncomputable def FX3_countOvertied (v_farEnd v_queue v_cameAlong : Nat → Int32) (w_bars : Int32) (w_lesser w_greater : Nat → Int32) : Option (Int32 × (Nat → Int32) × (Nat → Int32) × (Nat → Int32)) := (FX3_countOvertied_h4 w_bars w_lesser w_greater  5000 0 0 v_farEnd v_queue v_cameAlong)
set_option maxHeartbeats 4000000 in
set_option maxRecDepth 100000 in
theorem c_X3_countOvertied (l : Launch) (D : va_G) (cI cZ cS : ClassId) (a0 a1 a2 a3 a4 a5 a6 a7 a8 a9 a10 a11 : Nat) (v_near v_tiedTo v_parts : Nat → Int32) (v_partCount v_carrying v_rank v_freedoms v_isStiff v_worstBy v_worstPins : Int32) (v_farEnd v_queue v_cameAlong : Nat → Int32) (w_pins w_bars : Int32) (w_names w_lesser w_greater : Nat → Int32)  (u : Int32 × (Nat → Int32) × (Nat → Int32) × (Nat → Int32)) (hF : FX3_countOvertied v_farEnd v_queue v_cameAlong w_bars w_lesser w_greater = some u) : MCi l D (tyL cI cZ cS) yX3_countOvertied cX3_countOvertied 4 (some .int) 5 127 [.ref a0, .ref a8] (wX3 cI a0 a1 a2 a3 a4 a5 a6 a7 v_near v_tiedTo v_parts v_partCount v_carrying v_rank v_freedoms v_isStiff v_worstBy v_worstPins v_farEnd v_queue v_cameAlong ++ wX0 cI a8 a9 a10 a11 w_pins w_bars w_names w_lesser w_greater) (wX3 cI a0 a1 a2 a3 a4 a5 a6 a7 v_near v_tiedTo v_parts v_partCount v_carrying v_rank v_freedoms v_isStiff v_worstBy v_worstPins u.2.1 u.2.2.1 u.2.2.2 ++ wX0 cI a8 a9 a10 a11 w_pins w_bars w_names w_lesser w_greater) u.1 := by
  refine MCi.mk (by decide) (Nat.le_of_ble_eq_true rfl) ?_
  intro p e s m args below meth c A ls Q h0 hP hD hA hS hl hfin0
  have hfin : ∀ (u' : Int32 × (Nat → Int32) × (Nat → Int32) × (Nat → Int32)), u' = u → ∀ (H : Heap) (locs : List Loc) (ls : Array Slot) (pc : Nat), va_P D vwCl (wX3 cI a0 a1 a2 a3 a4 a5 a6 a7 v_near v_tiedTo v_parts v_partCount v_carrying v_rank v_freedoms v_isStiff v_worstBy v_worstPins u'.2.1 u'.2.2.1 u'.2.2.2 ++ wX0 cI a8 a9 a10 a11 w_pins w_bars w_names w_lesser w_greater) H → va_D A (wX3 cI a0 a1 a2 a3 a4 a5 a6 a7 v_near v_tiedTo v_parts v_partCount v_carrying v_rank v_freedoms v_isStiff v_worstBy v_worstPins u'.2.1 u'.2.2.1 u'.2.2.2 ++ wX0 cI a8 a9 a10 a11 w_pins w_bars w_names w_lesser w_greater) → va_S A s.heap H locs → decode cX3_countOvertied pc = .ok (.ireturn, 1) → W p l e (uR 5 127) s m args below meth c H locs 0 0 Q (F0 m pc ls [.int u'.1]) := by intro u' hu; subst hu; exact hfin0
  clear hfin0
  obtain ⟨hx, hb, hr, hlk, hml, hown, hts, hK⟩ := id h0
  have hl : lv_has ls 4 [(0, .ref a0), (1, .ref a8)] := hl
  have E := hF
  have J4 : ∀ (n4 : Nat) (l2 l3 : Int32) (v_farEnd v_queue v_cameAlong : Nat → Int32) (H : Heap) (locs : List Loc) (ls : Array Slot), FX3_countOvertied_h4 w_bars w_lesser w_greater  n4 l2 l3 v_farEnd v_queue v_cameAlong = some u → va_P D vwCl (wX3 cI a0 a1 a2 a3 a4 a5 a6 a7 v_near v_tiedTo v_parts v_partCount v_carrying v_rank v_freedoms v_isStiff v_worstBy v_worstPins v_farEnd v_queue v_cameAlong ++ wX0 cI a8 a9 a10 a11 w_pins w_bars w_names w_lesser w_greater) H → va_D A (wX3 cI a0 a1 a2 a3 a4 a5 a6 a7 v_near v_tiedTo v_parts v_partCount v_carrying v_rank v_freedoms v_isStiff v_worstBy v_worstPins v_farEnd v_queue v_cameAlong ++ wX0 cI a8 a9 a10 a11 w_pins w_bars w_names w_lesser w_greater) → va_S A s.heap H locs → lv_has ls 4 [(0, .ref a0), (1, .ref a8), (2, .int l2), (3, .int l3)] → W p l e (uR 5 127) s m args below meth c H locs 0 0 Q (F0 m 4 ls []) := by
    intro n4
    induction n4 with
    | zero => intro l2 l3 v_farEnd v_queue v_cameAlong H locs ls E; exact none_e E
    | succ n4 ih4 =>
      intro l2 l3 v_farEnd v_queue v_cameAlong H locs ls E hP hD hS hl
      have E : FX3_countOvertied_b4 w_bars w_lesser w_greater  (FX3_countOvertied_h4 w_bars w_lesser w_greater  n4) l2 l3 v_farEnd v_queue v_cameAlong = some u := E
      have J24 : ∀ (l2 l3 : Int32) (v_farEnd v_queue v_cameAlong : Nat → Int32) (H : Heap) (locs : List Loc) (ls : Array Slot), FX3_countOvertied_b24 w_bars w_lesser w_greater (FX3_countOvertied_h4 w_bars w_lesser w_greater  n4) l2 l3 v_farEnd v_queue v_cameAlong = some u → va_P D vwCl (wX3 cI a0 a1 a2 a3 a4 a5 a6 a7 v_near v_tiedTo v_parts v_partCount v_carrying v_rank v_freedoms v_isStiff v_worstBy v_worstPins v_farEnd v_queue v_cameAlong ++ wX0 cI a8 a9 a10 a11 w_pins w_bars w_names w_lesser w_greater) H → va_D A (wX3 cI a0 a1 a2 a3 a4 a5 a6 a7 v_near v_tiedTo v_parts v_partCount v_carrying v_rank v_freedoms v_isStiff v_worstBy v_worstPins v_farEnd v_queue v_cameAlong ++ wX0 cI a8 a9 a10 a11 w_pins w_bars w_names w_lesser w_greater) → va_S A s.heap H locs → lv_has ls 4 [(0, .ref a0), (1, .ref a8), (2, .int l2), (3, .int l3)] → W p l e (uR 5 127) s m args below meth c H locs 0 0 Q (F0 m 24 ls []) := by
        intro l2 l3 v_farEnd v_queue v_cameAlong H locs ls E hP hD hS hl
        refine lv_iinc (v := (l3 + 1)) (lv' := [(3, .int (l3 + 1)), (0, .ref a0), (1, .ref a8), (2, .int l2)]) hx hb dX3_countOvertied_24 hl (k := 3) rfl rfl (by decide) rfl (fun ls hl => ?_)
        refine lv_goto (tgt := 4) hx hb dX3_countOvertied_27 (by decide) ?_
        exact ih4 _ _ _ _ _ _ _ _ E hP hD hS (lv_sub hl [1, 2, 3, 0] rfl)
      refine lv_iload_n hx hb dX3_countOvertied_4 rfl (lv_at hl 3 rfl) ?_
      refine lv_aload_n hx hb dX3_countOvertied_5 rfl (lv_at hl 1 rfl) ?_
      refine gf_X3_51 h0 hP 8 rfl rfl dX3_countOvertied_6 ?_
      refine lv_icmp_ge (tgt := 30) hx hb dX3_countOvertied_9 (by decide) (fun c1 => ?_) (fun c1 => ?_)
      · have E := br_p E c1
        refine lv_iload_n hx hb dX3_countOvertied_30 rfl (lv_at hl 2 rfl) ?_
        exact hfin _ (Option.some.inj E) _ _ _ _ hP hD hS dX3_countOvertied_31
      · have E := br_n E c1
        refine lv_aload_n hx hb dX3_countOvertied_12 rfl (lv_at hl 0 rfl) ?_
        refine lv_aload_n hx hb dX3_countOvertied_13 rfl (lv_at hl 1 rfl) ?_
        refine lv_iload_n hx hb dX3_countOvertied_14 rfl (lv_at hl 3 rfl) ?_
        obtain ⟨r2, hF, E⟩ := bn_e E
        refine callVfi (wo := (wX3 cI a0 a1 a2 a3 a4 a5 a6 a7 v_near v_tiedTo v_parts v_partCount v_carrying v_rank v_freedoms v_isStiff v_worstBy v_worstPins r2.2.1 r2.2.2.1 r2.2.2.2 ++ wX0 cI a8 a9 a10 a11 w_pins w_bars w_names w_lesser w_greater)) h0 (c_X3_isOvertied l D cI cZ cS a0 a1 a2 a3 a4 a5 a6 a7 a8 a9 a10 a11 v_near v_tiedTo v_parts v_partCount v_carrying v_rank v_freedoms v_isStiff v_worstBy v_worstPins v_farEnd v_queue v_cameAlong w_pins w_bars w_names w_lesser w_greater l3 r2 hF) (gV wq_375 wq_376 wq_377 wq_4 wq_378) hdX3_isOvertied ⟨Nat.le_of_ble_eq_true rfl, Nat.le_of_ble_eq_true rfl⟩ ⟨Nat.le_refl _, Nat.le_refl _⟩ hP hD hS hA 0 3 rfl rfl rfl hl.1 rfl (Nat.le_of_ble_eq_true rfl) dX3_countOvertied_15 (fun H locs hP hD hS => ?_)
        refine lv_if_eq (tgt := 24) hx hb dX3_countOvertied_18 (by decide) (fun c3 => ?_) (fun c3 => ?_)
        · have E := br_p E c3
          exact J24 _ _ _ _ _ _ _ _ E hP hD hS (lv_sub hl [0, 1, 2, 3] rfl)
        · have E := br_n E c3
          refine lv_iinc (v := (l2 + 1)) (lv' := [(2, .int (l2 + 1)), (0, .ref a0), (1, .ref a8), (3, .int l3)]) hx hb dX3_countOvertied_21 hl (k := 2) rfl rfl (by decide) rfl (fun ls hl => ?_)
          exact J24 _ _ _ _ _ _ _ _ E hP hD hS (lv_sub hl [1, 2, 0, 3] rfl)
  refine lv_iconst (v := 0) hx hb dX3_countOvertied_0 (by decide) ?_
  refine lv_istore_n (lv' := [(2, .int 0), (0, .ref a0), (1, .ref a8)]) hx hb dX3_countOvertied_1 rfl hl (by decide) rfl (fun ls hl => ?_)
  refine lv_iconst (v := 0) hx hb dX3_countOvertied_2 (by decide) ?_
  refine lv_istore_n (lv' := [(3, .int 0), (2, .int 0), (0, .ref a0), (1, .ref a8)]) hx hb dX3_countOvertied_3 rfl hl (by decide) rfl (fun ls hl => ?_)
  exact J4 5000 _ _ _ _ _ _ _ _ E hP hD hS (lv_sub hl [2, 3, 1, 0] rfl)
theorem hdX3_countPartsOf : yX3_countPartsOf.cls = RX3 ∧ yX3_countPartsOf.cls ≠ "java/lang/invoke/MethodHandle" ∧ yX3_countPartsOf.cls ≠ "java/lang/invoke/VarHandle" ∧ (parseMethodDescriptor yX3_countPartsOf.desc).map (fun d => d.parameters.length) = some 1 := by decide +kernel
noncomputable def FX3_countPartsOf_b4 (p1 : Int32) (v_parts : Nat → Int32) (v_partCount : Int32)  (k4 : Int32 → Int32 → Option (Int32)) (l2 l3 : Int32) : Option (Int32) := (if v_partCount ≤ l3 then (some l2) else (gd (vp_in l3 24) (k4 (l2 + (((v_parts l3.toNatClampNeg) >>> (p1 &&& 31)) &&& 1)) (l3 + 1))))
noncomputable def FX3_countPartsOf_h4 (p1 : Int32) (v_parts : Nat → Int32) (v_partCount : Int32)  : Nat → Int32 → Int32 → Option (Int32)
  | 0 => fun _ _ => none
  | n + 1 => fun l2 l3 => FX3_countPartsOf_b4 p1 v_parts v_partCount  (FX3_countPartsOf_h4 p1 v_parts v_partCount  n) l2 l3
noncomputable def FX3_countPartsOf (p1 : Int32) (v_parts : Nat → Int32) (v_partCount : Int32) : Option (Int32) := (FX3_countPartsOf_h4 p1 v_parts v_partCount  5000 0 0)
set_option maxHeartbeats 4000000 in
set_option maxRecDepth 100000 in
theorem c_X3_countPartsOf (l : Launch) (D : va_G) (cI cZ cS : ClassId) (a0 a1 a2 a3 a4 a5 a6 a7 : Nat) (v_near v_tiedTo v_parts : Nat → Int32) (v_partCount v_carrying v_rank v_freedoms v_isStiff v_worstBy v_worstPins : Int32) (v_farEnd v_queue v_cameAlong : Nat → Int32) (p1 : Int32) (u : Int32) (hF : FX3_countPartsOf p1 v_parts v_partCount = some u) : MCi l D (tyL cI cZ cS) yX3_countPartsOf cX3_countPartsOf 4 (some .int) 0 0 [.ref a0, .int p1] (wX3 cI a0 a1 a2 a3 a4 a5 a6 a7 v_near v_tiedTo v_parts v_partCount v_carrying v_rank v_freedoms v_isStiff v_worstBy v_worstPins v_farEnd v_queue v_cameAlong) (wX3 cI a0 a1 a2 a3 a4 a5 a6 a7 v_near v_tiedTo v_parts v_partCount v_carrying v_rank v_freedoms v_isStiff v_worstBy v_worstPins v_farEnd v_queue v_cameAlong) u := by
  refine MCi.mk (by decide) (Nat.le_of_ble_eq_true rfl) ?_
  intro p e s m args below meth c A ls Q h0 hP hD hA hS hl hfin0
  have hfin : ∀ (u' : Int32), u' = u → ∀ (H : Heap) (locs : List Loc) (ls : Array Slot) (pc : Nat), va_P D vwCl (wX3 cI a0 a1 a2 a3 a4 a5 a6 a7 v_near v_tiedTo v_parts v_partCount v_carrying v_rank v_freedoms v_isStiff v_worstBy v_worstPins v_farEnd v_queue v_cameAlong) H → va_D A (wX3 cI a0 a1 a2 a3 a4 a5 a6 a7 v_near v_tiedTo v_parts v_partCount v_carrying v_rank v_freedoms v_isStiff v_worstBy v_worstPins v_farEnd v_queue v_cameAlong) → va_S A s.heap H locs → decode cX3_countPartsOf pc = .ok (.ireturn, 1) → W p l e (uR 0 0) s m args below meth c H locs 0 0 Q (F0 m pc ls [.int u']) := by intro u' hu; subst hu; exact hfin0
  clear hfin0
  obtain ⟨hx, hb, hr, hlk, hml, hown, hts, hK⟩ := id h0
  have hl : lv_has ls 4 [(0, .ref a0), (1, .int p1)] := hl
  have E := hF
  have J4 : ∀ (n4 : Nat) (l2 l3 : Int32) (H : Heap) (locs : List Loc) (ls : Array Slot), FX3_countPartsOf_h4 p1 v_parts v_partCount  n4 l2 l3 = some u → va_P D vwCl (wX3 cI a0 a1 a2 a3 a4 a5 a6 a7 v_near v_tiedTo v_parts v_partCount v_carrying v_rank v_freedoms v_isStiff v_worstBy v_worstPins v_farEnd v_queue v_cameAlong) H → va_D A (wX3 cI a0 a1 a2 a3 a4 a5 a6 a7 v_near v_tiedTo v_parts v_partCount v_carrying v_rank v_freedoms v_isStiff v_worstBy v_worstPins v_farEnd v_queue v_cameAlong) → va_S A s.heap H locs → lv_has ls 4 [(0, .ref a0), (1, .int p1), (2, .int l2), (3, .int l3)] → W p l e (uR 0 0) s m args below meth c H locs 0 0 Q (F0 m 4 ls []) := by
    intro n4
    induction n4 with
    | zero => intro l2 l3 H locs ls E; exact none_e E
    | succ n4 ih4 =>
      intro l2 l3 H locs ls E hP hD hS hl
      have E : FX3_countPartsOf_b4 p1 v_parts v_partCount  (FX3_countPartsOf_h4 p1 v_parts v_partCount  n4) l2 l3 = some u := E
      refine lv_iload_n hx hb dX3_countPartsOf_4 rfl (lv_at hl 3 rfl) ?_
      refine lv_aload_n hx hb dX3_countPartsOf_5 rfl (lv_at hl 0 rfl) ?_
      refine gf_X3_28 h0 hP 0 rfl rfl dX3_countPartsOf_6 ?_
      refine lv_icmp_ge (tgt := 31) hx hb dX3_countPartsOf_9 (by decide) (fun c1 => ?_) (fun c1 => ?_)
      · have E := br_p E c1
        refine lv_iload_n hx hb dX3_countPartsOf_31 rfl (lv_at hl 2 rfl) ?_
        exact hfin _ (Option.some.inj E) _ _ _ _ hP hD hS dX3_countPartsOf_32
      · have E := br_n E c1
        refine lv_iload_n hx hb dX3_countPartsOf_12 rfl (lv_at hl 2 rfl) ?_
        refine lv_aload_n hx hb dX3_countPartsOf_13 rfl (lv_at hl 0 rfl) ?_
        refine gf_X3_25 h0 hP 0 rfl rfl dX3_countPartsOf_14 ?_
        refine lv_iload_n hx hb dX3_countPartsOf_17 rfl (lv_at hl 3 rfl) ?_
        obtain ⟨g2, E⟩ := gd_e E
        refine aldi hx hb hK hP 3 rfl rfl g2 dX3_countPartsOf_18 ?_
        refine lv_iload_n hx hb dX3_countPartsOf_19 rfl (lv_at hl 1 rfl) ?_
        refine lv_ishr hx hb dX3_countPartsOf_20 ?_
        refine lv_iconst (v := 1) hx hb dX3_countPartsOf_21 (by decide) ?_
        refine lv_iand hx hb dX3_countPartsOf_22 ?_
        refine lv_iadd hx hb dX3_countPartsOf_23 ?_
        refine lv_istore_n (lv' := [(2, .int (l2 + (((v_parts l3.toNatClampNeg) >>> (p1 &&& 31)) &&& 1))), (0, .ref a0), (1, .int p1), (3, .int l3)]) hx hb dX3_countPartsOf_24 rfl hl (by decide) rfl (fun ls hl => ?_)
        refine lv_iinc (v := (l3 + 1)) (lv' := [(3, .int (l3 + 1)), (2, .int (l2 + (((v_parts l3.toNatClampNeg) >>> (p1 &&& 31)) &&& 1))), (0, .ref a0), (1, .int p1)]) hx hb dX3_countPartsOf_25 hl (k := 3) rfl rfl (by decide) rfl (fun ls hl => ?_)
        refine lv_goto (tgt := 4) hx hb dX3_countPartsOf_28 (by decide) ?_
        exact ih4 _ _ _ _ _ E hP hD hS (lv_sub hl [2, 3, 1, 0] rfl)
  refine lv_iconst (v := 0) hx hb dX3_countPartsOf_0 (by decide) ?_
  refine lv_istore_n (lv' := [(2, .int 0), (0, .ref a0), (1, .int p1)]) hx hb dX3_countPartsOf_1 rfl hl (by decide) rfl (fun ls hl => ?_)
  refine lv_iconst (v := 0) hx hb dX3_countPartsOf_2 (by decide) ?_
  refine lv_istore_n (lv' := [(3, .int 0), (2, .int 0), (0, .ref a0), (1, .int p1)]) hx hb dX3_countPartsOf_3 rfl hl (by decide) rfl (fun ls hl => ?_)
  exact J4 5000 _ _ _ _ _ E hP hD hS (lv_sub hl [2, 3, 1, 0] rfl)
theorem hdX3_isTied : yX3_isTied.cls = RX3 ∧ yX3_isTied.cls ≠ "java/lang/invoke/MethodHandle" ∧ yX3_isTied.cls ≠ "java/lang/invoke/VarHandle" ∧ (parseMethodDescriptor yX3_isTied.desc).map (fun d => d.parameters.length) = some 2 := by decide +kernel
noncomputable def FX3_isTied (p1 p2 : Int32) (v_farEnd v_queue v_cameAlong : Nat → Int32) : Option (Int32 × (Nat → Int32) × (Nat → Int32) × (Nat → Int32)) := ((FX1_wouldCarry p1 p2 v_farEnd v_queue v_cameAlong).bind (fun r1 => (if r1.1 = 0 then (some (1, r1.2.1, r1.2.2.1, r1.2.2.2)) else (some (0, r1.2.1, r1.2.2.1, r1.2.2.2)))))
set_option maxHeartbeats 4000000 in
set_option maxRecDepth 100000 in
theorem c_X3_isTied (l : Launch) (D : va_G) (cI cZ cS : ClassId) (a0 a1 a2 a3 a4 a5 a6 a7 : Nat) (v_near v_tiedTo v_parts : Nat → Int32) (v_partCount v_carrying v_rank v_freedoms v_isStiff v_worstBy v_worstPins : Int32) (v_farEnd v_queue v_cameAlong : Nat → Int32) (p1 p2 : Int32) (u : Int32 × (Nat → Int32) × (Nat → Int32) × (Nat → Int32)) (hF : FX3_isTied p1 p2 v_farEnd v_queue v_cameAlong = some u) : MCi l D (tyL cI cZ cS) yX3_isTied cX3_isTied 3 (some .boolean) 3 78 [.ref a0, .int p1, .int p2] (wX3 cI a0 a1 a2 a3 a4 a5 a6 a7 v_near v_tiedTo v_parts v_partCount v_carrying v_rank v_freedoms v_isStiff v_worstBy v_worstPins v_farEnd v_queue v_cameAlong) (wX3 cI a0 a1 a2 a3 a4 a5 a6 a7 v_near v_tiedTo v_parts v_partCount v_carrying v_rank v_freedoms v_isStiff v_worstBy v_worstPins u.2.1 u.2.2.1 u.2.2.2) u.1 := by
  refine MCz.mk (by decide) (Nat.le_of_ble_eq_true rfl) ?_
  intro p e s m args below meth c A ls Q h0 hP hD hA hS hl hfin0
  have hfin : ∀ (u' : Int32 × (Nat → Int32) × (Nat → Int32) × (Nat → Int32)), u' = u → ∀ (H : Heap) (locs : List Loc) (ls : Array Slot) (pc : Nat), (u'.1 = 0 ∨ u'.1 = 1) → va_P D vwCl (wX3 cI a0 a1 a2 a3 a4 a5 a6 a7 v_near v_tiedTo v_parts v_partCount v_carrying v_rank v_freedoms v_isStiff v_worstBy v_worstPins u'.2.1 u'.2.2.1 u'.2.2.2) H → va_D A (wX3 cI a0 a1 a2 a3 a4 a5 a6 a7 v_near v_tiedTo v_parts v_partCount v_carrying v_rank v_freedoms v_isStiff v_worstBy v_worstPins u'.2.1 u'.2.2.1 u'.2.2.2) → va_S A s.heap H locs → decode cX3_isTied pc = .ok (.ireturn, 1) → W p l e (uR 3 78) s m args below meth c H locs 0 0 Q (F0 m pc ls [.int u'.1]) := by intro u' hu; subst hu; exact hfin0
  clear hfin0
  obtain ⟨hx, hb, hr, hlk, hml, hown, hts, hK⟩ := id h0
  have hl : lv_has ls 3 [(0, .ref a0), (1, .int p1), (2, .int p2)] := hl
  have E := hF
  refine lv_aload_n hx hb dX3_isTied_0 rfl (lv_at hl 0 rfl) ?_
  refine gf_X3_12 h0 hP 0 rfl rfl dX3_isTied_1 ?_
  refine lv_iload_n hx hb dX3_isTied_4 rfl (lv_at hl 1 rfl) ?_
  refine lv_iload_n hx hb dX3_isTied_5 rfl (lv_at hl 2 rfl) ?_
  obtain ⟨r1, hF, E⟩ := bn_e E
  refine callVi (wo := (wX3 cI a0 a1 a2 a3 a4 a5 a6 a7 v_near v_tiedTo v_parts v_partCount v_carrying v_rank v_freedoms v_isStiff v_worstBy v_worstPins r1.2.1 r1.2.2.1 r1.2.2.2)) h0 (c_X1_wouldCarry l D cI cZ cS a4 a5 a6 a7 v_farEnd v_queue v_cameAlong p1 p2 r1 hF) (gV wq_333 wq_334 wq_335 wq_5 wq_336) hdX1_wouldCarry ⟨Nat.le_of_ble_eq_true rfl, Nat.le_of_ble_eq_true rfl⟩ ⟨Nat.le_refl _, Nat.le_refl _⟩ hP hD hS hA 0 1 rfl rfl rfl [4, 5, 6, 7] rfl rfl rfl rfl hl.1 rfl (Nat.le_of_ble_eq_true rfl) dX3_isTied_6 (fun H locs hP hD hS => ?_)
  refine lv_if_ne (tgt := 16) hx hb dX3_isTied_9 (by decide) (fun c2 => ?_) (fun c2 => ?_)
  · have E := br_n E c2
    refine lv_iconst (v := 0) hx hb dX3_isTied_16 (by decide) ?_
    exact hfin _ (Option.some.inj E) _ _ _ _ (Or.inl rfl) hP hD hS dX3_isTied_17
  · have E := br_p E c2
    refine lv_iconst (v := 1) hx hb dX3_isTied_12 (by decide) ?_
    refine lv_goto (tgt := 17) hx hb dX3_isTied_13 (by decide) ?_
    exact hfin _ (Option.some.inj E) _ _ _ _ (Or.inr rfl) hP hD hS dX3_isTied_17
theorem hdX3_wouldCarryBehind : yX3_wouldCarryBehind.cls = RX3 ∧ yX3_wouldCarryBehind.cls ≠ "java/lang/invoke/MethodHandle" ∧ yX3_wouldCarryBehind.cls ≠ "java/lang/invoke/VarHandle" ∧ (parseMethodDescriptor yX3_wouldCarryBehind.desc).map (fun d => d.parameters.length) = some 3 := by decide +kernel
noncomputable def FX3_wouldCarryBehind_b83 (p2 p3 : Int32) (w_lesser w_greater : Nat → Int32) (k10 : Int32 → (Nat → Int32) → (Nat → Int32) → (Nat → Int32) → Option (Int32 × (Nat → Int32) × (Nat → Int32) × (Nat → Int32))) (l4 : Int32) (v_farEnd v_queue v_cameAlong : Nat → Int32) : Option (Int32 × (Nat → Int32) × (Nat → Int32) × (Nat → Int32)) := (k10 (l4 + 1) v_farEnd v_queue v_cameAlong)
noncomputable def FX3_wouldCarryBehind_b31 (p2 p3 : Int32) (w_lesser w_greater : Nat → Int32) (k10 : Int32 → (Nat → Int32) → (Nat → Int32) → (Nat → Int32) → Option (Int32 × (Nat → Int32) × (Nat → Int32) × (Nat → Int32))) (l4 t0 : Int32) (v_farEnd v_queue v_cameAlong : Nat → Int32) : Option (Int32 × (Nat → Int32) × (Nat → Int32) × (Nat → Int32)) := (if t0 = 0 then (FX3_wouldCarryBehind_b83 p2 p3 w_lesser w_greater k10 l4 v_farEnd v_queue v_cameAlong) else (gd (vp_in l4 24) (gd (vp_in l4 24) ((FX1_wouldCarry (w_lesser l4.toNatClampNeg) (w_greater l4.toNatClampNeg) v_farEnd v_queue v_cameAlong).bind (fun r4 => (if r4.1 = 0 then (FX3_wouldCarryBehind_b83 p2 p3 w_lesser w_greater k10 l4 r4.2.1 r4.2.2.1 r4.2.2.2) else (gd (vp_in l4 24) (gd (vp_in l4 24) ((FX1_lay (w_lesser l4.toNatClampNeg) (w_greater l4.toNatClampNeg) r4.2.1).bind (fun r8 => (FX3_wouldCarryBehind_b83 p2 p3 w_lesser w_greater k10 l4 r8 r4.2.2.1 r4.2.2.2)))))))))))
noncomputable def FX3_wouldCarryBehind_b10 (p2 p3 : Int32) (w_lesser w_greater : Nat → Int32)  (k10 : Int32 → (Nat → Int32) → (Nat → Int32) → (Nat → Int32) → Option (Int32 × (Nat → Int32) × (Nat → Int32) × (Nat → Int32))) (l4 : Int32) (v_farEnd v_queue v_cameAlong : Nat → Int32) : Option (Int32 × (Nat → Int32) × (Nat → Int32) × (Nat → Int32)) := (if p2 ≤ l4 then (gd (vp_in p2 24) (gd (vp_in p2 24) ((FX1_wouldCarry (w_lesser p2.toNatClampNeg) (w_greater p2.toNatClampNeg) v_farEnd v_queue v_cameAlong).bind (fun r12 => (gd (r12.1 = 0 ∨ r12.1 = 1) (some (r12.1, r12.2.1, r12.2.2.1, r12.2.2.2))))))) else (if ((p3 >>> (l4 &&& 31)) &&& 1) = 1 then (FX3_wouldCarryBehind_b31 p2 p3 w_lesser w_greater k10 l4 1 v_farEnd v_queue v_cameAlong) else (FX3_wouldCarryBehind_b31 p2 p3 w_lesser w_greater k10 l4 0 v_farEnd v_queue v_cameAlong)))
noncomputable def FX3_wouldCarryBehind_h10 (p2 p3 : Int32) (w_lesser w_greater : Nat → Int32)  : Nat → Int32 → (Nat → Int32) → (Nat → Int32) → (Nat → Int32) → Option (Int32 × (Nat → Int32) × (Nat → Int32) × (Nat → Int32))
  | 0 => fun _ _ _ _ => none
  | n + 1 => fun l4 v_farEnd v_queue v_cameAlong => FX3_wouldCarryBehind_b10 p2 p3 w_lesser w_greater  (FX3_wouldCarryBehind_h10 p2 p3 w_lesser w_greater  n) l4 v_farEnd v_queue v_cameAlong
noncomputable def FX3_wouldCarryBehind (p2 p3 : Int32) (v_farEnd v_queue v_cameAlong w_lesser w_greater : Nat → Int32) : Option (Int32 × (Nat → Int32) × (Nat → Int32) × (Nat → Int32)) := ((FX1_freeAll v_farEnd).bind (fun r15 => (FX3_wouldCarryBehind_h10 p2 p3 w_lesser w_greater  5000 0 r15 v_queue v_cameAlong)))
set_option maxHeartbeats 4000000 in
set_option maxRecDepth 100000 in
theorem c_X3_wouldCarryBehind (l : Launch) (D : va_G) (cI cZ cS : ClassId) (a0 a1 a2 a3 a4 a5 a6 a7 a8 a9 a10 a11 : Nat) (v_near v_tiedTo v_parts : Nat → Int32) (v_partCount v_carrying v_rank v_freedoms v_isStiff v_worstBy v_worstPins : Int32) (v_farEnd v_queue v_cameAlong : Nat → Int32) (w_pins w_bars : Int32) (w_names w_lesser w_greater : Nat → Int32) (p2 p3 : Int32) (u : Int32 × (Nat → Int32) × (Nat → Int32) × (Nat → Int32)) (hF : FX3_wouldCarryBehind p2 p3 v_farEnd v_queue v_cameAlong w_lesser w_greater = some u) : MCi l D (tyL cI cZ cS) yX3_wouldCarryBehind cX3_wouldCarryBehind 6 (some .boolean) 3 78 [.ref a0, .ref a8, .int p2, .int p3] (wX3 cI a0 a1 a2 a3 a4 a5 a6 a7 v_near v_tiedTo v_parts v_partCount v_carrying v_rank v_freedoms v_isStiff v_worstBy v_worstPins v_farEnd v_queue v_cameAlong ++ wX0 cI a8 a9 a10 a11 w_pins w_bars w_names w_lesser w_greater) (wX3 cI a0 a1 a2 a3 a4 a5 a6 a7 v_near v_tiedTo v_parts v_partCount v_carrying v_rank v_freedoms v_isStiff v_worstBy v_worstPins u.2.1 u.2.2.1 u.2.2.2 ++ wX0 cI a8 a9 a10 a11 w_pins w_bars w_names w_lesser w_greater) u.1 := by
  refine MCz.mk (by decide) (Nat.le_of_ble_eq_true rfl) ?_
  intro p e s m args below meth c A ls Q h0 hP hD hA hS hl hfin0
  have hfin : ∀ (u' : Int32 × (Nat → Int32) × (Nat → Int32) × (Nat → Int32)), u' = u → ∀ (H : Heap) (locs : List Loc) (ls : Array Slot) (pc : Nat), (u'.1 = 0 ∨ u'.1 = 1) → va_P D vwCl (wX3 cI a0 a1 a2 a3 a4 a5 a6 a7 v_near v_tiedTo v_parts v_partCount v_carrying v_rank v_freedoms v_isStiff v_worstBy v_worstPins u'.2.1 u'.2.2.1 u'.2.2.2 ++ wX0 cI a8 a9 a10 a11 w_pins w_bars w_names w_lesser w_greater) H → va_D A (wX3 cI a0 a1 a2 a3 a4 a5 a6 a7 v_near v_tiedTo v_parts v_partCount v_carrying v_rank v_freedoms v_isStiff v_worstBy v_worstPins u'.2.1 u'.2.2.1 u'.2.2.2 ++ wX0 cI a8 a9 a10 a11 w_pins w_bars w_names w_lesser w_greater) → va_S A s.heap H locs → decode cX3_wouldCarryBehind pc = .ok (.ireturn, 1) → W p l e (uR 3 78) s m args below meth c H locs 0 0 Q (F0 m pc ls [.int u'.1]) := by intro u' hu; subst hu; exact hfin0
  clear hfin0
  obtain ⟨hx, hb, hr, hlk, hml, hown, hts, hK⟩ := id h0
  have hl : lv_has ls 6 [(0, .ref a0), (1, .ref a8), (2, .int p2), (3, .int p3)] := hl
  have E := hF
  have J10 : ∀ (n10 : Nat) (l4 : Int32) (v_farEnd v_queue v_cameAlong : Nat → Int32) (H : Heap) (locs : List Loc) (ls : Array Slot), FX3_wouldCarryBehind_h10 p2 p3 w_lesser w_greater  n10 l4 v_farEnd v_queue v_cameAlong = some u → va_P D vwCl (wX3 cI a0 a1 a2 a3 a4 a5 a6 a7 v_near v_tiedTo v_parts v_partCount v_carrying v_rank v_freedoms v_isStiff v_worstBy v_worstPins v_farEnd v_queue v_cameAlong ++ wX0 cI a8 a9 a10 a11 w_pins w_bars w_names w_lesser w_greater) H → va_D A (wX3 cI a0 a1 a2 a3 a4 a5 a6 a7 v_near v_tiedTo v_parts v_partCount v_carrying v_rank v_freedoms v_isStiff v_worstBy v_worstPins v_farEnd v_queue v_cameAlong ++ wX0 cI a8 a9 a10 a11 w_pins w_bars w_names w_lesser w_greater) → va_S A s.heap H locs → lv_has ls 6 [(0, .ref a0), (1, .ref a8), (2, .int p2), (3, .int p3), (4, .int l4)] → W p l e (uR 3 78) s m args below meth c H locs 0 0 Q (F0 m 10 ls []) := by
    intro n10
    induction n10 with
    | zero => intro l4 v_farEnd v_queue v_cameAlong H locs ls E; exact none_e E
    | succ n10 ih10 =>
      intro l4 v_farEnd v_queue v_cameAlong H locs ls E hP hD hS hl
      have E : FX3_wouldCarryBehind_b10 p2 p3 w_lesser w_greater  (FX3_wouldCarryBehind_h10 p2 p3 w_lesser w_greater  n10) l4 v_farEnd v_queue v_cameAlong = some u := E
      have J83 : ∀ (l4 : Int32) (v_farEnd v_queue v_cameAlong : Nat → Int32) (H : Heap) (locs : List Loc) (ls : Array Slot), FX3_wouldCarryBehind_b83 p2 p3 w_lesser w_greater (FX3_wouldCarryBehind_h10 p2 p3 w_lesser w_greater  n10) l4 v_farEnd v_queue v_cameAlong = some u → va_P D vwCl (wX3 cI a0 a1 a2 a3 a4 a5 a6 a7 v_near v_tiedTo v_parts v_partCount v_carrying v_rank v_freedoms v_isStiff v_worstBy v_worstPins v_farEnd v_queue v_cameAlong ++ wX0 cI a8 a9 a10 a11 w_pins w_bars w_names w_lesser w_greater) H → va_D A (wX3 cI a0 a1 a2 a3 a4 a5 a6 a7 v_near v_tiedTo v_parts v_partCount v_carrying v_rank v_freedoms v_isStiff v_worstBy v_worstPins v_farEnd v_queue v_cameAlong ++ wX0 cI a8 a9 a10 a11 w_pins w_bars w_names w_lesser w_greater) → va_S A s.heap H locs → lv_has ls 6 [(0, .ref a0), (1, .ref a8), (2, .int p2), (3, .int p3), (4, .int l4)] → W p l e (uR 3 78) s m args below meth c H locs 0 0 Q (F0 m 83 ls []) := by
        intro l4 v_farEnd v_queue v_cameAlong H locs ls E hP hD hS hl
        refine lv_iinc (v := (l4 + 1)) (lv' := [(4, .int (l4 + 1)), (0, .ref a0), (1, .ref a8), (2, .int p2), (3, .int p3)]) hx hb dX3_wouldCarryBehind_83 hl (k := 4) rfl rfl (by decide) rfl (fun ls hl => ?_)
        refine lv_goto (tgt := 10) hx hb dX3_wouldCarryBehind_86 (by decide) ?_
        exact ih10 _ _ _ _ _ _ _ E hP hD hS (lv_sub hl [1, 2, 3, 4, 0] rfl)
      have J31 : ∀ (l4 t0 : Int32) (v_farEnd v_queue v_cameAlong : Nat → Int32) (H : Heap) (locs : List Loc) (ls : Array Slot), FX3_wouldCarryBehind_b31 p2 p3 w_lesser w_greater (FX3_wouldCarryBehind_h10 p2 p3 w_lesser w_greater  n10) l4 t0 v_farEnd v_queue v_cameAlong = some u → va_P D vwCl (wX3 cI a0 a1 a2 a3 a4 a5 a6 a7 v_near v_tiedTo v_parts v_partCount v_carrying v_rank v_freedoms v_isStiff v_worstBy v_worstPins v_farEnd v_queue v_cameAlong ++ wX0 cI a8 a9 a10 a11 w_pins w_bars w_names w_lesser w_greater) H → va_D A (wX3 cI a0 a1 a2 a3 a4 a5 a6 a7 v_near v_tiedTo v_parts v_partCount v_carrying v_rank v_freedoms v_isStiff v_worstBy v_worstPins v_farEnd v_queue v_cameAlong ++ wX0 cI a8 a9 a10 a11 w_pins w_bars w_names w_lesser w_greater) → va_S A s.heap H locs → lv_has ls 6 [(0, .ref a0), (1, .ref a8), (2, .int p2), (3, .int p3), (4, .int l4)] → W p l e (uR 3 78) s m args below meth c H locs 0 0 Q (F0 m 31 ls [.int t0]) := by
        intro l4 t0 v_farEnd v_queue v_cameAlong H locs ls E hP hD hS hl
        refine lv_istore (lv' := [(5, .int t0), (0, .ref a0), (1, .ref a8), (2, .int p2), (3, .int p3), (4, .int l4)]) hx hb dX3_wouldCarryBehind_31 hl (by decide) rfl (fun ls hl => ?_)
        refine lv_iload hx hb dX3_wouldCarryBehind_33 (lv_at hl 0 rfl) ?_
        refine lv_if_eq (tgt := 83) hx hb dX3_wouldCarryBehind_35 (by decide) (fun c1 => ?_) (fun c1 => ?_)
        · have E := br_p E c1
          exact J83 _ _ _ _ _ _ _ E hP hD hS (lv_sub hl [1, 2, 3, 4, 5] rfl)
        · have E := br_n E c1
          refine lv_aload_n hx hb dX3_wouldCarryBehind_38 rfl (lv_at hl 1 rfl) ?_
          refine gf_X3_12 h0 hP 0 rfl rfl dX3_wouldCarryBehind_39 ?_
          refine lv_aload_n hx hb dX3_wouldCarryBehind_42 rfl (lv_at hl 2 rfl) ?_
          refine gf_X3_72 h0 hP 8 rfl rfl dX3_wouldCarryBehind_43 ?_
          refine lv_iload hx hb dX3_wouldCarryBehind_46 (lv_at hl 5 rfl) ?_
          obtain ⟨g2, E⟩ := gd_e E
          refine aldi hx hb hK hP 10 rfl rfl g2 dX3_wouldCarryBehind_48 ?_
          refine lv_aload_n hx hb dX3_wouldCarryBehind_49 rfl (lv_at hl 2 rfl) ?_
          refine gf_X3_75 h0 hP 8 rfl rfl dX3_wouldCarryBehind_50 ?_
          refine lv_iload hx hb dX3_wouldCarryBehind_53 (lv_at hl 5 rfl) ?_
          obtain ⟨g3, E⟩ := gd_e E
          refine aldi hx hb hK hP 11 rfl rfl g3 dX3_wouldCarryBehind_55 ?_
          obtain ⟨r4, hF, E⟩ := bn_e E
          refine callVi (wo := (wX3 cI a0 a1 a2 a3 a4 a5 a6 a7 v_near v_tiedTo v_parts v_partCount v_carrying v_rank v_freedoms v_isStiff v_worstBy v_worstPins r4.2.1 r4.2.2.1 r4.2.2.2 ++ wX0 cI a8 a9 a10 a11 w_pins w_bars w_names w_lesser w_greater)) h0 (c_X1_wouldCarry l D cI cZ cS a4 a5 a6 a7 v_farEnd v_queue v_cameAlong (w_lesser l4.toNatClampNeg) (w_greater l4.toNatClampNeg) r4 hF) (gV wq_333 wq_334 wq_335 wq_5 wq_336) hdX1_wouldCarry ⟨Nat.le_of_ble_eq_true rfl, Nat.le_of_ble_eq_true rfl⟩ ⟨Nat.le_refl _, Nat.le_refl _⟩ hP hD hS hA 0 1 rfl rfl rfl [4, 5, 6, 7] rfl rfl rfl rfl hl.1 rfl (Nat.le_of_ble_eq_true rfl) dX3_wouldCarryBehind_56 (fun H locs hP hD hS => ?_)
          refine lv_if_eq (tgt := 83) hx hb dX3_wouldCarryBehind_59 (by decide) (fun c5 => ?_) (fun c5 => ?_)
          · have E := br_p E c5
            exact J83 _ _ _ _ _ _ _ E hP hD hS (lv_sub hl [1, 2, 3, 4, 5] rfl)
          · have E := br_n E c5
            refine lv_aload_n hx hb dX3_wouldCarryBehind_62 rfl (lv_at hl 1 rfl) ?_
            refine gf_X3_12 h0 hP 0 rfl rfl dX3_wouldCarryBehind_63 ?_
            refine lv_aload_n hx hb dX3_wouldCarryBehind_66 rfl (lv_at hl 2 rfl) ?_
            refine gf_X3_72 h0 hP 8 rfl rfl dX3_wouldCarryBehind_67 ?_
            refine lv_iload hx hb dX3_wouldCarryBehind_70 (lv_at hl 5 rfl) ?_
            obtain ⟨g6, E⟩ := gd_e E
            refine aldi hx hb hK hP 10 rfl rfl g6 dX3_wouldCarryBehind_72 ?_
            refine lv_aload_n hx hb dX3_wouldCarryBehind_73 rfl (lv_at hl 2 rfl) ?_
            refine gf_X3_75 h0 hP 8 rfl rfl dX3_wouldCarryBehind_74 ?_
            refine lv_iload hx hb dX3_wouldCarryBehind_77 (lv_at hl 5 rfl) ?_
            obtain ⟨g7, E⟩ := gd_e E
            refine aldi hx hb hK hP 11 rfl rfl g7 dX3_wouldCarryBehind_79 ?_
            obtain ⟨r8, hF, E⟩ := bn_e E
            refine callVv (wo := (wX3 cI a0 a1 a2 a3 a4 a5 a6 a7 v_near v_tiedTo v_parts v_partCount v_carrying v_rank v_freedoms v_isStiff v_worstBy v_worstPins r8 r4.2.2.1 r4.2.2.2 ++ wX0 cI a8 a9 a10 a11 w_pins w_bars w_names w_lesser w_greater)) h0 (c_X1_lay l D cI cZ cS a4 a5 a6 a7 r4.2.1 r4.2.2.1 r4.2.2.2 (w_lesser l4.toNatClampNeg) (w_greater l4.toNatClampNeg) r8 hF) (gV wq_353 wq_354 wq_355 wq_5 wq_356) hdX1_lay ⟨Nat.le_of_ble_eq_true rfl, Nat.le_of_ble_eq_true rfl⟩ ⟨Nat.le_refl _, Nat.le_refl _⟩ hP hD hS hA 0 1 rfl rfl rfl [4, 5, 6, 7] rfl rfl rfl rfl hl.1 rfl (Nat.le_of_ble_eq_true rfl) dX3_wouldCarryBehind_80 (fun H locs hP hD hS => ?_)
            exact J83 _ _ _ _ _ _ _ E hP hD hS (lv_sub hl [1, 2, 3, 4, 5] rfl)
      refine lv_iload hx hb dX3_wouldCarryBehind_10 (lv_at hl 4 rfl) ?_
      refine lv_iload_n hx hb dX3_wouldCarryBehind_12 rfl (lv_at hl 2 rfl) ?_
      refine lv_icmp_ge (tgt := 89) hx hb dX3_wouldCarryBehind_13 (by decide) (fun c9 => ?_) (fun c9 => ?_)
      · have E := br_p E c9
        refine lv_aload_n hx hb dX3_wouldCarryBehind_89 rfl (lv_at hl 0 rfl) ?_
        refine gf_X3_12 h0 hP 0 rfl rfl dX3_wouldCarryBehind_90 ?_
        refine lv_aload_n hx hb dX3_wouldCarryBehind_93 rfl (lv_at hl 1 rfl) ?_
        refine gf_X3_72 h0 hP 8 rfl rfl dX3_wouldCarryBehind_94 ?_
        refine lv_iload_n hx hb dX3_wouldCarryBehind_97 rfl (lv_at hl 2 rfl) ?_
        obtain ⟨g10, E⟩ := gd_e E
        refine aldi hx hb hK hP 10 rfl rfl g10 dX3_wouldCarryBehind_98 ?_
        refine lv_aload_n hx hb dX3_wouldCarryBehind_99 rfl (lv_at hl 1 rfl) ?_
        refine gf_X3_75 h0 hP 8 rfl rfl dX3_wouldCarryBehind_100 ?_
        refine lv_iload_n hx hb dX3_wouldCarryBehind_103 rfl (lv_at hl 2 rfl) ?_
        obtain ⟨g11, E⟩ := gd_e E
        refine aldi hx hb hK hP 11 rfl rfl g11 dX3_wouldCarryBehind_104 ?_
        obtain ⟨r12, hF, E⟩ := bn_e E
        refine callVi (wo := (wX3 cI a0 a1 a2 a3 a4 a5 a6 a7 v_near v_tiedTo v_parts v_partCount v_carrying v_rank v_freedoms v_isStiff v_worstBy v_worstPins r12.2.1 r12.2.2.1 r12.2.2.2 ++ wX0 cI a8 a9 a10 a11 w_pins w_bars w_names w_lesser w_greater)) h0 (c_X1_wouldCarry l D cI cZ cS a4 a5 a6 a7 v_farEnd v_queue v_cameAlong (w_lesser p2.toNatClampNeg) (w_greater p2.toNatClampNeg) r12 hF) (gV wq_333 wq_334 wq_335 wq_5 wq_336) hdX1_wouldCarry ⟨Nat.le_of_ble_eq_true rfl, Nat.le_of_ble_eq_true rfl⟩ ⟨Nat.le_refl _, Nat.le_refl _⟩ hP hD hS hA 0 1 rfl rfl rfl [4, 5, 6, 7] rfl rfl rfl rfl hl.1 rfl (Nat.le_of_ble_eq_true rfl) dX3_wouldCarryBehind_105 (fun H locs hP hD hS => ?_)
        obtain ⟨z13, E⟩ := gd_e E
        exact hfin _ (Option.some.inj E) _ _ _ _ z13 hP hD hS dX3_wouldCarryBehind_108
      · have E := br_n E c9
        refine lv_iload_n hx hb dX3_wouldCarryBehind_16 rfl (lv_at hl 3 rfl) ?_
        refine lv_iload hx hb dX3_wouldCarryBehind_17 (lv_at hl 4 rfl) ?_
        refine lv_ishr hx hb dX3_wouldCarryBehind_19 ?_
        refine lv_iconst (v := 1) hx hb dX3_wouldCarryBehind_20 (by decide) ?_
        refine lv_iand hx hb dX3_wouldCarryBehind_21 ?_
        refine lv_iconst (v := 1) hx hb dX3_wouldCarryBehind_22 (by decide) ?_
        refine lv_icmp_ne (tgt := 30) hx hb dX3_wouldCarryBehind_23 (by decide) (fun c14 => ?_) (fun c14 => ?_)
        · have E := br_n E c14
          refine lv_iconst (v := 0) hx hb dX3_wouldCarryBehind_30 (by decide) ?_
          exact J31 _ _ _ _ _ _ _ _ E hP hD hS (lv_sub hl [0, 1, 2, 3, 4] rfl)
        · have E := br_p E c14
          refine lv_iconst (v := 1) hx hb dX3_wouldCarryBehind_26 (by decide) ?_
          refine lv_goto (tgt := 31) hx hb dX3_wouldCarryBehind_27 (by decide) ?_
          exact J31 _ _ _ _ _ _ _ _ E hP hD hS (lv_sub hl [0, 1, 2, 3, 4] rfl)
  refine lv_aload_n hx hb dX3_wouldCarryBehind_0 rfl (lv_at hl 0 rfl) ?_
  refine gf_X3_12 h0 hP 0 rfl rfl dX3_wouldCarryBehind_1 ?_
  obtain ⟨r15, hF, E⟩ := bn_e E
  refine callVv (wo := (wX3 cI a0 a1 a2 a3 a4 a5 a6 a7 v_near v_tiedTo v_parts v_partCount v_carrying v_rank v_freedoms v_isStiff v_worstBy v_worstPins r15 v_queue v_cameAlong ++ wX0 cI a8 a9 a10 a11 w_pins w_bars w_names w_lesser w_greater)) h0 (c_X1_freeAll l D cI cZ cS a4 a5 a6 a7 v_farEnd v_queue v_cameAlong r15 hF) (gV wq_329 wq_330 wq_331 wq_5 wq_332) hdX1_freeAll ⟨Nat.le_of_ble_eq_true rfl, Nat.le_of_ble_eq_true rfl⟩ ⟨Nat.le_refl _, Nat.le_refl _⟩ hP hD hS hA 0 1 rfl rfl rfl [4, 5, 6, 7] rfl rfl rfl rfl hl.1 rfl (Nat.le_of_ble_eq_true rfl) dX3_wouldCarryBehind_4 (fun H locs hP hD hS => ?_)
  refine lv_iconst (v := 0) hx hb dX3_wouldCarryBehind_7 (by decide) ?_
  refine lv_istore (lv' := [(4, .int 0), (0, .ref a0), (1, .ref a8), (2, .int p2), (3, .int p3)]) hx hb dX3_wouldCarryBehind_8 hl (by decide) rfl (fun ls hl => ?_)
  exact J10 5000 _ _ _ _ _ _ _ E hP hD hS (lv_sub hl [1, 2, 3, 4, 0] rfl)
theorem hdX3_ringOf : yX3_ringOf.cls = RX3 ∧ yX3_ringOf.cls ≠ "java/lang/invoke/MethodHandle" ∧ yX3_ringOf.cls ≠ "java/lang/invoke/VarHandle" ∧ (parseMethodDescriptor yX3_ringOf.desc).map (fun d => d.parameters.length) = some 2 := by decide +kernel
noncomputable def FX3_ringOf_b65 (p2 v_carrying : Int32) (w_lesser w_greater : Nat → Int32) (k7 : Int32 → Int32 → (Nat → Int32) → (Nat → Int32) → (Nat → Int32) → Option (Int32 × (Nat → Int32) × (Nat → Int32) × (Nat → Int32))) (l3 l4 : Int32) (v_farEnd v_queue v_cameAlong : Nat → Int32) : Option (Int32 × (Nat → Int32) × (Nat → Int32) × (Nat → Int32)) := (k7 l3 (l4 + 1) v_farEnd v_queue v_cameAlong)
noncomputable def FX3_ringOf_b31 (p2 v_carrying : Int32) (w_lesser w_greater : Nat → Int32) (k7 : Int32 → Int32 → (Nat → Int32) → (Nat → Int32) → (Nat → Int32) → Option (Int32 × (Nat → Int32) × (Nat → Int32) × (Nat → Int32))) (l3 l4 t0 : Int32) (v_farEnd v_queue v_cameAlong : Nat → Int32) : Option (Int32 × (Nat → Int32) × (Nat → Int32) × (Nat → Int32)) := (if t0 = 0 then (FX3_ringOf_b65 p2 v_carrying w_lesser w_greater k7 l3 l4 v_farEnd v_queue v_cameAlong) else ((FX3_wouldCarryBehind p2 (v_carrying &&& (((1 : Int32) <<< (l4 &&& 31)) ^^^ (-1))) v_farEnd v_queue v_cameAlong w_lesser w_greater).bind (fun r2 => (if r2.1 = 0 then (FX3_ringOf_b65 p2 v_carrying w_lesser w_greater k7 l3 l4 r2.2.1 r2.2.2.1 r2.2.2.2) else (FX3_ringOf_b65 p2 v_carrying w_lesser w_greater k7 (l3 ||| ((1 : Int32) <<< (l4 &&& 31))) l4 r2.2.1 r2.2.2.1 r2.2.2.2)))))
noncomputable def FX3_ringOf_b7 (p2 v_carrying : Int32) (w_lesser w_greater : Nat → Int32)  (k7 : Int32 → Int32 → (Nat → Int32) → (Nat → Int32) → (Nat → Int32) → Option (Int32 × (Nat → Int32) × (Nat → Int32) × (Nat → Int32))) (l3 l4 : Int32) (v_farEnd v_queue v_cameAlong : Nat → Int32) : Option (Int32 × (Nat → Int32) × (Nat → Int32) × (Nat → Int32)) := (if p2 ≤ l4 then (some (l3, v_farEnd, v_queue, v_cameAlong)) else (if ((v_carrying >>> (l4 &&& 31)) &&& 1) = 1 then (FX3_ringOf_b31 p2 v_carrying w_lesser w_greater k7 l3 l4 1 v_farEnd v_queue v_cameAlong) else (FX3_ringOf_b31 p2 v_carrying w_lesser w_greater k7 l3 l4 0 v_farEnd v_queue v_cameAlong)))
noncomputable def FX3_ringOf_h7 (p2 v_carrying : Int32) (w_lesser w_greater : Nat → Int32)  : Nat → Int32 → Int32 → (Nat → Int32) → (Nat → Int32) → (Nat → Int32) → Option (Int32 × (Nat → Int32) × (Nat → Int32) × (Nat → Int32))
  | 0 => fun _ _ _ _ _ => none
  | n + 1 => fun l3 l4 v_farEnd v_queue v_cameAlong => FX3_ringOf_b7 p2 v_carrying w_lesser w_greater  (FX3_ringOf_h7 p2 v_carrying w_lesser w_greater  n) l3 l4 v_farEnd v_queue v_cameAlong
noncomputable def FX3_ringOf (p2 : Int32) (v_carrying : Int32) (v_farEnd v_queue v_cameAlong w_lesser w_greater : Nat → Int32) : Option (Int32 × (Nat → Int32) × (Nat → Int32) × (Nat → Int32)) := (FX3_ringOf_h7 p2 v_carrying w_lesser w_greater  5000 ((1 : Int32) <<< (p2 &&& 31)) 0 v_farEnd v_queue v_cameAlong)
set_option maxHeartbeats 4000000 in
set_option maxRecDepth 100000 in
theorem c_X3_ringOf (l : Launch) (D : va_G) (cI cZ cS : ClassId) (a0 a1 a2 a3 a4 a5 a6 a7 a8 a9 a10 a11 : Nat) (v_near v_tiedTo v_parts : Nat → Int32) (v_partCount v_carrying v_rank v_freedoms v_isStiff v_worstBy v_worstPins : Int32) (v_farEnd v_queue v_cameAlong : Nat → Int32) (w_pins w_bars : Int32) (w_names w_lesser w_greater : Nat → Int32) (p2 : Int32) (u : Int32 × (Nat → Int32) × (Nat → Int32) × (Nat → Int32)) (hF : FX3_ringOf p2 v_carrying v_farEnd v_queue v_cameAlong w_lesser w_greater = some u) : MCi l D (tyL cI cZ cS) yX3_ringOf cX3_ringOf 6 (some .int) 4 103 [.ref a0, .ref a8, .int p2] (wX3 cI a0 a1 a2 a3 a4 a5 a6 a7 v_near v_tiedTo v_parts v_partCount v_carrying v_rank v_freedoms v_isStiff v_worstBy v_worstPins v_farEnd v_queue v_cameAlong ++ wX0 cI a8 a9 a10 a11 w_pins w_bars w_names w_lesser w_greater) (wX3 cI a0 a1 a2 a3 a4 a5 a6 a7 v_near v_tiedTo v_parts v_partCount v_carrying v_rank v_freedoms v_isStiff v_worstBy v_worstPins u.2.1 u.2.2.1 u.2.2.2 ++ wX0 cI a8 a9 a10 a11 w_pins w_bars w_names w_lesser w_greater) u.1 := by
  refine MCi.mk (by decide) (Nat.le_of_ble_eq_true rfl) ?_
  intro p e s m args below meth c A ls Q h0 hP hD hA hS hl hfin0
  have hfin : ∀ (u' : Int32 × (Nat → Int32) × (Nat → Int32) × (Nat → Int32)), u' = u → ∀ (H : Heap) (locs : List Loc) (ls : Array Slot) (pc : Nat), va_P D vwCl (wX3 cI a0 a1 a2 a3 a4 a5 a6 a7 v_near v_tiedTo v_parts v_partCount v_carrying v_rank v_freedoms v_isStiff v_worstBy v_worstPins u'.2.1 u'.2.2.1 u'.2.2.2 ++ wX0 cI a8 a9 a10 a11 w_pins w_bars w_names w_lesser w_greater) H → va_D A (wX3 cI a0 a1 a2 a3 a4 a5 a6 a7 v_near v_tiedTo v_parts v_partCount v_carrying v_rank v_freedoms v_isStiff v_worstBy v_worstPins u'.2.1 u'.2.2.1 u'.2.2.2 ++ wX0 cI a8 a9 a10 a11 w_pins w_bars w_names w_lesser w_greater) → va_S A s.heap H locs → decode cX3_ringOf pc = .ok (.ireturn, 1) → W p l e (uR 4 103) s m args below meth c H locs 0 0 Q (F0 m pc ls [.int u'.1]) := by intro u' hu; subst hu; exact hfin0
  clear hfin0
  obtain ⟨hx, hb, hr, hlk, hml, hown, hts, hK⟩ := id h0
  have hl : lv_has ls 6 [(0, .ref a0), (1, .ref a8), (2, .int p2)] := hl
  have E := hF
  have J7 : ∀ (n7 : Nat) (l3 l4 : Int32) (v_farEnd v_queue v_cameAlong : Nat → Int32) (H : Heap) (locs : List Loc) (ls : Array Slot), FX3_ringOf_h7 p2 v_carrying w_lesser w_greater  n7 l3 l4 v_farEnd v_queue v_cameAlong = some u → va_P D vwCl (wX3 cI a0 a1 a2 a3 a4 a5 a6 a7 v_near v_tiedTo v_parts v_partCount v_carrying v_rank v_freedoms v_isStiff v_worstBy v_worstPins v_farEnd v_queue v_cameAlong ++ wX0 cI a8 a9 a10 a11 w_pins w_bars w_names w_lesser w_greater) H → va_D A (wX3 cI a0 a1 a2 a3 a4 a5 a6 a7 v_near v_tiedTo v_parts v_partCount v_carrying v_rank v_freedoms v_isStiff v_worstBy v_worstPins v_farEnd v_queue v_cameAlong ++ wX0 cI a8 a9 a10 a11 w_pins w_bars w_names w_lesser w_greater) → va_S A s.heap H locs → lv_has ls 6 [(0, .ref a0), (1, .ref a8), (2, .int p2), (3, .int l3), (4, .int l4)] → W p l e (uR 4 103) s m args below meth c H locs 0 0 Q (F0 m 7 ls []) := by
    intro n7
    induction n7 with
    | zero => intro l3 l4 v_farEnd v_queue v_cameAlong H locs ls E; exact none_e E
    | succ n7 ih7 =>
      intro l3 l4 v_farEnd v_queue v_cameAlong H locs ls E hP hD hS hl
      have E : FX3_ringOf_b7 p2 v_carrying w_lesser w_greater  (FX3_ringOf_h7 p2 v_carrying w_lesser w_greater  n7) l3 l4 v_farEnd v_queue v_cameAlong = some u := E
      have J65 : ∀ (l3 l4 : Int32) (v_farEnd v_queue v_cameAlong : Nat → Int32) (H : Heap) (locs : List Loc) (ls : Array Slot), FX3_ringOf_b65 p2 v_carrying w_lesser w_greater (FX3_ringOf_h7 p2 v_carrying w_lesser w_greater  n7) l3 l4 v_farEnd v_queue v_cameAlong = some u → va_P D vwCl (wX3 cI a0 a1 a2 a3 a4 a5 a6 a7 v_near v_tiedTo v_parts v_partCount v_carrying v_rank v_freedoms v_isStiff v_worstBy v_worstPins v_farEnd v_queue v_cameAlong ++ wX0 cI a8 a9 a10 a11 w_pins w_bars w_names w_lesser w_greater) H → va_D A (wX3 cI a0 a1 a2 a3 a4 a5 a6 a7 v_near v_tiedTo v_parts v_partCount v_carrying v_rank v_freedoms v_isStiff v_worstBy v_worstPins v_farEnd v_queue v_cameAlong ++ wX0 cI a8 a9 a10 a11 w_pins w_bars w_names w_lesser w_greater) → va_S A s.heap H locs → lv_has ls 6 [(0, .ref a0), (1, .ref a8), (2, .int p2), (3, .int l3), (4, .int l4)] → W p l e (uR 4 103) s m args below meth c H locs 0 0 Q (F0 m 65 ls []) := by
        intro l3 l4 v_farEnd v_queue v_cameAlong H locs ls E hP hD hS hl
        refine lv_iinc (v := (l4 + 1)) (lv' := [(4, .int (l4 + 1)), (0, .ref a0), (1, .ref a8), (2, .int p2), (3, .int l3)]) hx hb dX3_ringOf_65 hl (k := 4) rfl rfl (by decide) rfl (fun ls hl => ?_)
        refine lv_goto (tgt := 7) hx hb dX3_ringOf_68 (by decide) ?_
        exact ih7 _ _ _ _ _ _ _ _ E hP hD hS (lv_sub hl [1, 2, 3, 4, 0] rfl)
      have J31 : ∀ (l3 l4 t0 : Int32) (v_farEnd v_queue v_cameAlong : Nat → Int32) (H : Heap) (locs : List Loc) (ls : Array Slot), FX3_ringOf_b31 p2 v_carrying w_lesser w_greater (FX3_ringOf_h7 p2 v_carrying w_lesser w_greater  n7) l3 l4 t0 v_farEnd v_queue v_cameAlong = some u → va_P D vwCl (wX3 cI a0 a1 a2 a3 a4 a5 a6 a7 v_near v_tiedTo v_parts v_partCount v_carrying v_rank v_freedoms v_isStiff v_worstBy v_worstPins v_farEnd v_queue v_cameAlong ++ wX0 cI a8 a9 a10 a11 w_pins w_bars w_names w_lesser w_greater) H → va_D A (wX3 cI a0 a1 a2 a3 a4 a5 a6 a7 v_near v_tiedTo v_parts v_partCount v_carrying v_rank v_freedoms v_isStiff v_worstBy v_worstPins v_farEnd v_queue v_cameAlong ++ wX0 cI a8 a9 a10 a11 w_pins w_bars w_names w_lesser w_greater) → va_S A s.heap H locs → lv_has ls 6 [(0, .ref a0), (1, .ref a8), (2, .int p2), (3, .int l3), (4, .int l4)] → W p l e (uR 4 103) s m args below meth c H locs 0 0 Q (F0 m 31 ls [.int t0]) := by
        intro l3 l4 t0 v_farEnd v_queue v_cameAlong H locs ls E hP hD hS hl
        refine lv_istore (lv' := [(5, .int t0), (0, .ref a0), (1, .ref a8), (2, .int p2), (3, .int l3), (4, .int l4)]) hx hb dX3_ringOf_31 hl (by decide) rfl (fun ls hl => ?_)
        refine lv_iload hx hb dX3_ringOf_33 (lv_at hl 0 rfl) ?_
        refine lv_if_eq (tgt := 65) hx hb dX3_ringOf_35 (by decide) (fun c1 => ?_) (fun c1 => ?_)
        · have E := br_p E c1
          exact J65 _ _ _ _ _ _ _ _ E hP hD hS (lv_sub hl [1, 2, 3, 4, 5] rfl)
        · have E := br_n E c1
          refine lv_aload_n hx hb dX3_ringOf_38 rfl (lv_at hl 1 rfl) ?_
          refine lv_aload_n hx hb dX3_ringOf_39 rfl (lv_at hl 2 rfl) ?_
          refine lv_iload_n hx hb dX3_ringOf_40 rfl (lv_at hl 3 rfl) ?_
          refine lv_aload_n hx hb dX3_ringOf_41 rfl (lv_at hl 1 rfl) ?_
          refine gf_X3_32 h0 hP 0 rfl rfl dX3_ringOf_42 ?_
          refine lv_iconst (v := 1) hx hb dX3_ringOf_45 (by decide) ?_
          refine lv_iload hx hb dX3_ringOf_46 (lv_at hl 5 rfl) ?_
          refine lv_ishl hx hb dX3_ringOf_48 ?_
          refine lv_iconst (v := (-1)) hx hb dX3_ringOf_49 (by decide) ?_
          refine lv_ixor hx hb dX3_ringOf_50 ?_
          refine lv_iand hx hb dX3_ringOf_51 ?_
          obtain ⟨r2, hF, E⟩ := bn_e E
          refine callVfi (wo := (wX3 cI a0 a1 a2 a3 a4 a5 a6 a7 v_near v_tiedTo v_parts v_partCount v_carrying v_rank v_freedoms v_isStiff v_worstBy v_worstPins r2.2.1 r2.2.2.1 r2.2.2.2 ++ wX0 cI a8 a9 a10 a11 w_pins w_bars w_names w_lesser w_greater)) h0 (c_X3_wouldCarryBehind l D cI cZ cS a0 a1 a2 a3 a4 a5 a6 a7 a8 a9 a10 a11 v_near v_tiedTo v_parts v_partCount v_carrying v_rank v_freedoms v_isStiff v_worstBy v_worstPins v_farEnd v_queue v_cameAlong w_pins w_bars w_names w_lesser w_greater p2 (v_carrying &&& (((1 : Int32) <<< (l4 &&& 31)) ^^^ (-1))) r2 hF) (gV wq_434 wq_436 wp_12 wq_4 wq_437) hdX3_wouldCarryBehind ⟨Nat.le_of_ble_eq_true rfl, Nat.le_of_ble_eq_true rfl⟩ ⟨Nat.le_refl _, Nat.le_refl _⟩ hP hD hS hA 0 3 rfl rfl rfl hl.1 rfl (Nat.le_of_ble_eq_true rfl) dX3_ringOf_52 (fun H locs hP hD hS => ?_)
          refine lv_if_eq (tgt := 65) hx hb dX3_ringOf_55 (by decide) (fun c3 => ?_) (fun c3 => ?_)
          · have E := br_p E c3
            exact J65 _ _ _ _ _ _ _ _ E hP hD hS (lv_sub hl [1, 2, 3, 4, 5] rfl)
          · have E := br_n E c3
            refine lv_iload_n hx hb dX3_ringOf_58 rfl (lv_at hl 4 rfl) ?_
            refine lv_iconst (v := 1) hx hb dX3_ringOf_59 (by decide) ?_
            refine lv_iload hx hb dX3_ringOf_60 (lv_at hl 5 rfl) ?_
            refine lv_ishl hx hb dX3_ringOf_62 ?_
            refine lv_ior hx hb dX3_ringOf_63 ?_
            refine lv_istore_n (lv' := [(3, .int (l3 ||| ((1 : Int32) <<< (l4 &&& 31)))), (5, .int t0), (0, .ref a0), (1, .ref a8), (2, .int p2), (4, .int l4)]) hx hb dX3_ringOf_64 rfl hl (by decide) rfl (fun ls hl => ?_)
            exact J65 _ _ _ _ _ _ _ _ E hP hD hS (lv_sub hl [2, 3, 4, 0, 5] rfl)
      refine lv_iload hx hb dX3_ringOf_7 (lv_at hl 4 rfl) ?_
      refine lv_iload_n hx hb dX3_ringOf_9 rfl (lv_at hl 2 rfl) ?_
      refine lv_icmp_ge (tgt := 71) hx hb dX3_ringOf_10 (by decide) (fun c4 => ?_) (fun c4 => ?_)
      · have E := br_p E c4
        refine lv_iload_n hx hb dX3_ringOf_71 rfl (lv_at hl 3 rfl) ?_
        exact hfin _ (Option.some.inj E) _ _ _ _ hP hD hS dX3_ringOf_72
      · have E := br_n E c4
        refine lv_aload_n hx hb dX3_ringOf_13 rfl (lv_at hl 0 rfl) ?_
        refine gf_X3_32 h0 hP 0 rfl rfl dX3_ringOf_14 ?_
        refine lv_iload hx hb dX3_ringOf_17 (lv_at hl 4 rfl) ?_
        refine lv_ishr hx hb dX3_ringOf_19 ?_
        refine lv_iconst (v := 1) hx hb dX3_ringOf_20 (by decide) ?_
        refine lv_iand hx hb dX3_ringOf_21 ?_
        refine lv_iconst (v := 1) hx hb dX3_ringOf_22 (by decide) ?_
        refine lv_icmp_ne (tgt := 30) hx hb dX3_ringOf_23 (by decide) (fun c5 => ?_) (fun c5 => ?_)
        · have E := br_n E c5
          refine lv_iconst (v := 0) hx hb dX3_ringOf_30 (by decide) ?_
          exact J31 _ _ _ _ _ _ _ _ _ E hP hD hS (lv_sub hl [0, 1, 2, 3, 4] rfl)
        · have E := br_p E c5
          refine lv_iconst (v := 1) hx hb dX3_ringOf_26 (by decide) ?_
          refine lv_goto (tgt := 31) hx hb dX3_ringOf_27 (by decide) ?_
          exact J31 _ _ _ _ _ _ _ _ _ E hP hD hS (lv_sub hl [0, 1, 2, 3, 4] rfl)
  refine lv_iconst (v := 1) hx hb dX3_ringOf_0 (by decide) ?_
  refine lv_iload_n hx hb dX3_ringOf_1 rfl (lv_at hl 2 rfl) ?_
  refine lv_ishl hx hb dX3_ringOf_2 ?_
  refine lv_istore_n (lv' := [(3, .int ((1 : Int32) <<< (p2 &&& 31))), (0, .ref a0), (1, .ref a8), (2, .int p2)]) hx hb dX3_ringOf_3 rfl hl (by decide) rfl (fun ls hl => ?_)
  refine lv_iconst (v := 0) hx hb dX3_ringOf_4 (by decide) ?_
  refine lv_istore (lv' := [(4, .int 0), (3, .int ((1 : Int32) <<< (p2 &&& 31))), (0, .ref a0), (1, .ref a8), (2, .int p2)]) hx hb dX3_ringOf_5 hl (by decide) rfl (fun ls hl => ?_)
  exact J7 5000 _ _ _ _ _ _ _ _ E hP hD hS (lv_sub hl [2, 3, 4, 1, 0] rfl)
theorem hdX3_leastBit : yX3_leastBit.cls ≠ "java/lang/invoke/MethodHandle" ∧ yX3_leastBit.cls ≠ "java/lang/invoke/VarHandle" ∧ (parseMethodDescriptor yX3_leastBit.desc).map (fun d => d.parameters.length) = some 1 := by decide +kernel
noncomputable def FX3_leastBit_b2 (p0 : Int32)  (k2 : Int32 → Option (Int32)) (l1 : Int32) : Option (Int32) := (if 11 ≤ l1 then (some l1) else (if ((p0 >>> (l1 &&& 31)) &&& 1) = 0 then (k2 (l1 + 1)) else (some l1)))
noncomputable def FX3_leastBit_h2 (p0 : Int32)  : Nat → Int32 → Option (Int32)
  | 0 => fun _ => none
  | n + 1 => fun l1 => FX3_leastBit_b2 p0  (FX3_leastBit_h2 p0  n) l1
noncomputable def FX3_leastBit (p0 : Int32) : Option (Int32) := (FX3_leastBit_h2 p0  5000 0)
set_option maxHeartbeats 4000000 in
set_option maxRecDepth 100000 in
theorem c_X3_leastBit (l : Launch) (D : va_G) (cI cZ cS : ClassId)   (p0 : Int32) (u : Int32) (hF : FX3_leastBit p0 = some u) : MCi l D (tyL cI cZ cS) yX3_leastBit cX3_leastBit 2 (some .int) 0 0 [.int p0] ([] : va_W) ([] : va_W) u := by
  refine MCi.mk (by decide) (Nat.le_of_ble_eq_true rfl) ?_
  intro p e s m args below meth c A ls Q h0 hP hD hA hS hl hfin0
  have hfin : ∀ (u' : Int32), u' = u → ∀ (H : Heap) (locs : List Loc) (ls : Array Slot) (pc : Nat), va_P D vwCl ([] : va_W) H → va_D A ([] : va_W) → va_S A s.heap H locs → decode cX3_leastBit pc = .ok (.ireturn, 1) → W p l e (uR 0 0) s m args below meth c H locs 0 0 Q (F0 m pc ls [.int u']) := by intro u' hu; subst hu; exact hfin0
  clear hfin0
  obtain ⟨hx, hb, hr, hlk, hml, hown, hts, hK⟩ := id h0
  have hl : lv_has ls 2 [(0, .int p0)] := hl
  have E := hF
  have J2 : ∀ (n2 : Nat) (l1 : Int32) (H : Heap) (locs : List Loc) (ls : Array Slot), FX3_leastBit_h2 p0  n2 l1 = some u → va_P D vwCl ([] : va_W) H → va_D A ([] : va_W) → va_S A s.heap H locs → lv_has ls 2 [(0, .int p0), (1, .int l1)] → W p l e (uR 0 0) s m args below meth c H locs 0 0 Q (F0 m 2 ls []) := by
    intro n2
    induction n2 with
    | zero => intro l1 H locs ls E; exact none_e E
    | succ n2 ih2 =>
      intro l1 H locs ls E hP hD hS hl
      have E : FX3_leastBit_b2 p0  (FX3_leastBit_h2 p0  n2) l1 = some u := E
      refine lv_iload_n hx hb dX3_leastBit_2 rfl (lv_at hl 1 rfl) ?_
      refine lv_bipush (v := 11) hx hb dX3_leastBit_3 (by decide) ?_
      refine lv_icmp_ge (tgt := 22) hx hb dX3_leastBit_5 (by decide) (fun c1 => ?_) (fun c1 => ?_)
      · have E := br_p E c1
        refine lv_iload_n hx hb dX3_leastBit_22 rfl (lv_at hl 1 rfl) ?_
        exact hfin _ (Option.some.inj E) _ _ _ _ hP hD hS dX3_leastBit_23
      · have E := br_n E c1
        refine lv_iload_n hx hb dX3_leastBit_8 rfl (lv_at hl 0 rfl) ?_
        refine lv_iload_n hx hb dX3_leastBit_9 rfl (lv_at hl 1 rfl) ?_
        refine lv_ishr hx hb dX3_leastBit_10 ?_
        refine lv_iconst (v := 1) hx hb dX3_leastBit_11 (by decide) ?_
        refine lv_iand hx hb dX3_leastBit_12 ?_
        refine lv_if_ne (tgt := 22) hx hb dX3_leastBit_13 (by decide) (fun c2 => ?_) (fun c2 => ?_)
        · have E := br_n E c2
          refine lv_iload_n hx hb dX3_leastBit_22 rfl (lv_at hl 1 rfl) ?_
          exact hfin _ (Option.some.inj E) _ _ _ _ hP hD hS dX3_leastBit_23
        · have E := br_p E c2
          refine lv_iinc (v := (l1 + 1)) (lv' := [(1, .int (l1 + 1)), (0, .int p0)]) hx hb dX3_leastBit_16 hl (k := 1) rfl rfl (by decide) rfl (fun ls hl => ?_)
          refine lv_goto (tgt := 2) hx hb dX3_leastBit_19 (by decide) ?_
          exact ih2 _ _ _ _ E hP hD hS (lv_sub hl [1, 0] rfl)
  refine lv_iconst (v := 0) hx hb dX3_leastBit_0 (by decide) ?_
  refine lv_istore_n (lv' := [(1, .int 0), (0, .int p0)]) hx hb dX3_leastBit_1 rfl hl (by decide) rfl (fun ls hl => ?_)
  exact J2 5000 _ _ _ _ E hP hD hS (lv_sub hl [1, 0] rfl)
theorem hdX3_weigh : yX3_weigh.cls = RX3 ∧ yX3_weigh.cls ≠ "java/lang/invoke/MethodHandle" ∧ yX3_weigh.cls ≠ "java/lang/invoke/VarHandle" ∧ (parseMethodDescriptor yX3_weigh.desc).map (fun d => d.parameters.length) = some 2 := by decide +kernel
noncomputable def FX3_weigh_b50 (p1 p2 : Int32)  (t0 v_worstBy v_worstPins : Int32) : Option (Int32 × Int32) := (if v_worstPins = 0 then (some (p2, p1)) else (if t0 = 0 then (some (v_worstBy, v_worstPins)) else (some (p2, p1))))
noncomputable def FX3_weigh_b49 (p1 p2 : Int32)  (v_worstBy v_worstPins : Int32) : Option (Int32 × Int32) := (FX3_weigh_b50 p1 p2  0 v_worstBy v_worstPins)
noncomputable def FX3_weigh_b45 (p1 p2 : Int32)  (v_worstBy v_worstPins : Int32) : Option (Int32 × Int32) := (FX3_weigh_b50 p1 p2  1 v_worstBy v_worstPins)
noncomputable def FX3_weigh (p1 p2 : Int32) (v_worstBy v_worstPins : Int32) : Option (Int32 × Int32) := ((FJ6_bitCount v_worstPins).bind (fun r3 => ((FJ6_bitCount p1).bind (fun r4 => (if v_worstBy < p2 then (FX3_weigh_b45 p1 p2  v_worstBy v_worstPins) else (if p2 = v_worstBy then (if 0 < (r3 - r4) then (FX3_weigh_b45 p1 p2  v_worstBy v_worstPins) else (if (r3 - r4) = 0 then (if v_worstPins ≤ p1 then (FX3_weigh_b49 p1 p2  v_worstBy v_worstPins) else (FX3_weigh_b45 p1 p2  v_worstBy v_worstPins)) else (FX3_weigh_b49 p1 p2  v_worstBy v_worstPins))) else (FX3_weigh_b49 p1 p2  v_worstBy v_worstPins)))))))
set_option maxHeartbeats 4000000 in
set_option maxRecDepth 100000 in
theorem c_X3_weigh (l : Launch) (D : va_G) (cI cZ cS : ClassId) (a0 a1 a2 a3 a4 a5 a6 a7 : Nat) (v_near v_tiedTo v_parts : Nat → Int32) (v_partCount v_carrying v_rank v_freedoms v_isStiff v_worstBy v_worstPins : Int32) (v_farEnd v_queue v_cameAlong : Nat → Int32) (p1 p2 : Int32) (u : Int32 × Int32) (hF : FX3_weigh p1 p2 v_worstBy v_worstPins = some u) : MCv l D (tyL cI cZ cS) yX3_weigh cX3_weigh 5 none 1 20 [.ref a0, .int p1, .int p2] (wX3 cI a0 a1 a2 a3 a4 a5 a6 a7 v_near v_tiedTo v_parts v_partCount v_carrying v_rank v_freedoms v_isStiff v_worstBy v_worstPins v_farEnd v_queue v_cameAlong) (wX3 cI a0 a1 a2 a3 a4 a5 a6 a7 v_near v_tiedTo v_parts v_partCount v_carrying v_rank v_freedoms v_isStiff u.1 u.2 v_farEnd v_queue v_cameAlong) := by
  refine MCv.mk (by decide) (Nat.le_of_ble_eq_true rfl) ?_
  intro p e s m args below meth c A ls Q h0 hP hD hA hS hl hfin0
  have hfin : ∀ (u' : Int32 × Int32), u' = u → ∀ (H : Heap) (locs : List Loc) (ls : Array Slot) (pc : Nat), va_P D vwCl (wX3 cI a0 a1 a2 a3 a4 a5 a6 a7 v_near v_tiedTo v_parts v_partCount v_carrying v_rank v_freedoms v_isStiff u'.1 u'.2 v_farEnd v_queue v_cameAlong) H → va_D A (wX3 cI a0 a1 a2 a3 a4 a5 a6 a7 v_near v_tiedTo v_parts v_partCount v_carrying v_rank v_freedoms v_isStiff u'.1 u'.2 v_farEnd v_queue v_cameAlong) → va_S A s.heap H locs → decode cX3_weigh pc = .ok (.return_, 1) → W p l e (uR 1 20) s m args below meth c H locs 0 0 Q (F0 m pc ls []) := by intro u' hu; subst hu; exact hfin0
  clear hfin0
  obtain ⟨hx, hb, hr, hlk, hml, hown, hts, hK⟩ := id h0
  have hl : lv_has ls 5 [(0, .ref a0), (1, .int p1), (2, .int p2)] := hl
  have E := hF
  have J50 : ∀ (t0 v_worstBy v_worstPins : Int32) (H : Heap) (locs : List Loc) (ls : Array Slot), FX3_weigh_b50 p1 p2  t0 v_worstBy v_worstPins = some u → va_P D vwCl (wX3 cI a0 a1 a2 a3 a4 a5 a6 a7 v_near v_tiedTo v_parts v_partCount v_carrying v_rank v_freedoms v_isStiff v_worstBy v_worstPins v_farEnd v_queue v_cameAlong) H → va_D A (wX3 cI a0 a1 a2 a3 a4 a5 a6 a7 v_near v_tiedTo v_parts v_partCount v_carrying v_rank v_freedoms v_isStiff v_worstBy v_worstPins v_farEnd v_queue v_cameAlong) → va_S A s.heap H locs → lv_has ls 5 [(0, .ref a0), (1, .int p1), (2, .int p2)] → W p l e (uR 1 20) s m args below meth c H locs 0 0 Q (F0 m 50 ls [.int t0]) := by
    intro t0 v_worstBy v_worstPins H locs ls E hP hD hS hl
    refine lv_istore (lv' := [(4, .int t0), (0, .ref a0), (1, .int p1), (2, .int p2)]) hx hb dX3_weigh_50 hl (by decide) rfl (fun ls hl => ?_)
    refine lv_aload_n hx hb dX3_weigh_52 rfl (lv_at hl 1 rfl) ?_
    refine gf_X3_48 h0 hP 0 rfl rfl dX3_weigh_53 ?_
    refine lv_if_eq (tgt := 64) hx hb dX3_weigh_56 (by decide) (fun c1 => ?_) (fun c1 => ?_)
    · have E := br_p E c1
      refine lv_aload_n hx hb dX3_weigh_64 rfl (lv_at hl 1 rfl) ?_
      refine lv_iload_n hx hb dX3_weigh_65 rfl (lv_at hl 2 rfl) ?_
      refine pf_X3_48 (wo := (wX3 cI a0 a1 a2 a3 a4 a5 a6 a7 v_near v_tiedTo v_parts v_partCount v_carrying v_rank v_freedoms v_isStiff v_worstBy p1 v_farEnd v_queue v_cameAlong)) h0 hP hD hS 0 rfl (Nat.le_of_ble_eq_true rfl) rfl dX3_weigh_66 (fun H locs hP hD hS => ?_)
      refine lv_aload_n hx hb dX3_weigh_69 rfl (lv_at hl 1 rfl) ?_
      refine lv_iload_n hx hb dX3_weigh_70 rfl (lv_at hl 3 rfl) ?_
      refine pf_X3_45 (wo := (wX3 cI a0 a1 a2 a3 a4 a5 a6 a7 v_near v_tiedTo v_parts v_partCount v_carrying v_rank v_freedoms v_isStiff p2 p1 v_farEnd v_queue v_cameAlong)) h0 hP hD hS 0 rfl (Nat.le_of_ble_eq_true rfl) rfl dX3_weigh_71 (fun H locs hP hD hS => ?_)
      exact hfin _ (Option.some.inj E) _ _ _ _ hP hD hS dX3_weigh_74
    · have E := br_n E c1
      refine lv_iload hx hb dX3_weigh_59 (lv_at hl 0 rfl) ?_
      refine lv_if_eq (tgt := 74) hx hb dX3_weigh_61 (by decide) (fun c2 => ?_) (fun c2 => ?_)
      · have E := br_p E c2
        exact hfin _ (Option.some.inj E) _ _ _ _ hP hD hS dX3_weigh_74
      · have E := br_n E c2
        refine lv_aload_n hx hb dX3_weigh_64 rfl (lv_at hl 1 rfl) ?_
        refine lv_iload_n hx hb dX3_weigh_65 rfl (lv_at hl 2 rfl) ?_
        refine pf_X3_48 (wo := (wX3 cI a0 a1 a2 a3 a4 a5 a6 a7 v_near v_tiedTo v_parts v_partCount v_carrying v_rank v_freedoms v_isStiff v_worstBy p1 v_farEnd v_queue v_cameAlong)) h0 hP hD hS 0 rfl (Nat.le_of_ble_eq_true rfl) rfl dX3_weigh_66 (fun H locs hP hD hS => ?_)
        refine lv_aload_n hx hb dX3_weigh_69 rfl (lv_at hl 1 rfl) ?_
        refine lv_iload_n hx hb dX3_weigh_70 rfl (lv_at hl 3 rfl) ?_
        refine pf_X3_45 (wo := (wX3 cI a0 a1 a2 a3 a4 a5 a6 a7 v_near v_tiedTo v_parts v_partCount v_carrying v_rank v_freedoms v_isStiff p2 p1 v_farEnd v_queue v_cameAlong)) h0 hP hD hS 0 rfl (Nat.le_of_ble_eq_true rfl) rfl dX3_weigh_71 (fun H locs hP hD hS => ?_)
        exact hfin _ (Option.some.inj E) _ _ _ _ hP hD hS dX3_weigh_74
  have J49 : ∀ (v_worstBy v_worstPins : Int32) (H : Heap) (locs : List Loc) (ls : Array Slot), FX3_weigh_b49 p1 p2  v_worstBy v_worstPins = some u → va_P D vwCl (wX3 cI a0 a1 a2 a3 a4 a5 a6 a7 v_near v_tiedTo v_parts v_partCount v_carrying v_rank v_freedoms v_isStiff v_worstBy v_worstPins v_farEnd v_queue v_cameAlong) H → va_D A (wX3 cI a0 a1 a2 a3 a4 a5 a6 a7 v_near v_tiedTo v_parts v_partCount v_carrying v_rank v_freedoms v_isStiff v_worstBy v_worstPins v_farEnd v_queue v_cameAlong) → va_S A s.heap H locs → lv_has ls 5 [(0, .ref a0), (1, .int p1), (2, .int p2)] → W p l e (uR 1 20) s m args below meth c H locs 0 0 Q (F0 m 49 ls []) := by
    intro v_worstBy v_worstPins H locs ls E hP hD hS hl
    refine lv_iconst (v := 0) hx hb dX3_weigh_49 (by decide) ?_
    exact J50 _ _ _ _ _ _ E hP hD hS (lv_sub hl [0, 1, 2] rfl)
  have J45 : ∀ (v_worstBy v_worstPins : Int32) (H : Heap) (locs : List Loc) (ls : Array Slot), FX3_weigh_b45 p1 p2  v_worstBy v_worstPins = some u → va_P D vwCl (wX3 cI a0 a1 a2 a3 a4 a5 a6 a7 v_near v_tiedTo v_parts v_partCount v_carrying v_rank v_freedoms v_isStiff v_worstBy v_worstPins v_farEnd v_queue v_cameAlong) H → va_D A (wX3 cI a0 a1 a2 a3 a4 a5 a6 a7 v_near v_tiedTo v_parts v_partCount v_carrying v_rank v_freedoms v_isStiff v_worstBy v_worstPins v_farEnd v_queue v_cameAlong) → va_S A s.heap H locs → lv_has ls 5 [(0, .ref a0), (1, .int p1), (2, .int p2)] → W p l e (uR 1 20) s m args below meth c H locs 0 0 Q (F0 m 45 ls []) := by
    intro v_worstBy v_worstPins H locs ls E hP hD hS hl
    refine lv_iconst (v := 1) hx hb dX3_weigh_45 (by decide) ?_
    refine lv_goto (tgt := 50) hx hb dX3_weigh_46 (by decide) ?_
    exact J50 _ _ _ _ _ _ E hP hD hS (lv_sub hl [0, 1, 2] rfl)
  refine lv_aload_n hx hb dX3_weigh_0 rfl (lv_at hl 0 rfl) ?_
  refine gf_X3_48 h0 hP 0 rfl rfl dX3_weigh_1 ?_
  obtain ⟨r3, hF, E⟩ := bn_e E
  refine callSi (wo := (wX3 cI a0 a1 a2 a3 a4 a5 a6 a7 v_near v_tiedTo v_parts v_partCount v_carrying v_rank v_freedoms v_isStiff v_worstBy v_worstPins v_farEnd v_queue v_cameAlong)) h0 (c_J6_bitCount l D cI cZ cS v_worstPins r3 hF) (gS wq_357 wq_358 wq_10 wq_359) hdJ6_bitCount ⟨Nat.le_of_ble_eq_true rfl, Nat.le_of_ble_eq_true rfl⟩ ⟨Nat.le_refl _, Nat.le_refl _⟩ hP hD hS hA [] rfl rfl rfl rfl hl.1 rfl (Nat.le_of_ble_eq_true rfl) dX3_weigh_4 (fun H locs hP hD hS => ?_)
  refine lv_iload_n hx hb dX3_weigh_7 rfl (lv_at hl 1 rfl) ?_
  obtain ⟨r4, hF, E⟩ := bn_e E
  refine callSi (wo := (wX3 cI a0 a1 a2 a3 a4 a5 a6 a7 v_near v_tiedTo v_parts v_partCount v_carrying v_rank v_freedoms v_isStiff v_worstBy v_worstPins v_farEnd v_queue v_cameAlong)) h0 (c_J6_bitCount l D cI cZ cS p1 r4 hF) (gS wq_357 wq_358 wq_10 wq_359) hdJ6_bitCount ⟨Nat.le_of_ble_eq_true rfl, Nat.le_of_ble_eq_true rfl⟩ ⟨Nat.le_refl _, Nat.le_refl _⟩ hP hD hS hA [] rfl rfl rfl rfl hl.1 rfl (Nat.le_of_ble_eq_true rfl) dX3_weigh_8 (fun H locs hP hD hS => ?_)
  refine lv_isub hx hb dX3_weigh_11 ?_
  refine lv_istore_n (lv' := [(3, .int (r3 - r4)), (0, .ref a0), (1, .int p1), (2, .int p2)]) hx hb dX3_weigh_12 rfl hl (by decide) rfl (fun ls hl => ?_)
  refine lv_iload_n hx hb dX3_weigh_13 rfl (lv_at hl 3 rfl) ?_
  refine lv_aload_n hx hb dX3_weigh_14 rfl (lv_at hl 1 rfl) ?_
  refine gf_X3_45 h0 hP 0 rfl rfl dX3_weigh_15 ?_
  refine lv_icmp_gt (tgt := 45) hx hb dX3_weigh_18 (by decide) (fun c5 => ?_) (fun c5 => ?_)
  · have E := br_p E c5
    exact J45 _ _ _ _ _ E hP hD hS (lv_sub hl [1, 2, 3] rfl)
  · have E := br_n E c5
    refine lv_iload_n hx hb dX3_weigh_21 rfl (lv_at hl 3 rfl) ?_
    refine lv_aload_n hx hb dX3_weigh_22 rfl (lv_at hl 1 rfl) ?_
    refine gf_X3_45 h0 hP 0 rfl rfl dX3_weigh_23 ?_
    refine lv_icmp_ne (tgt := 49) hx hb dX3_weigh_26 (by decide) (fun c6 => ?_) (fun c6 => ?_)
    · have E := br_n E c6
      exact J49 _ _ _ _ _ E hP hD hS (lv_sub hl [1, 2, 3] rfl)
    · have E := br_p E c6
      refine lv_iload_n hx hb dX3_weigh_29 rfl (lv_at hl 0 rfl) ?_
      refine lv_if_gt (tgt := 45) hx hb dX3_weigh_30 (by decide) (fun c7 => ?_) (fun c7 => ?_)
      · have E := br_p E c7
        exact J45 _ _ _ _ _ E hP hD hS (lv_sub hl [1, 2, 3] rfl)
      · have E := br_n E c7
        refine lv_iload_n hx hb dX3_weigh_33 rfl (lv_at hl 0 rfl) ?_
        refine lv_if_ne (tgt := 49) hx hb dX3_weigh_34 (by decide) (fun c8 => ?_) (fun c8 => ?_)
        · have E := br_n E c8
          exact J49 _ _ _ _ _ E hP hD hS (lv_sub hl [1, 2, 3] rfl)
        · have E := br_p E c8
          refine lv_iload_n hx hb dX3_weigh_37 rfl (lv_at hl 2 rfl) ?_
          refine lv_aload_n hx hb dX3_weigh_38 rfl (lv_at hl 1 rfl) ?_
          refine gf_X3_48 h0 hP 0 rfl rfl dX3_weigh_39 ?_
          refine lv_icmp_ge (tgt := 49) hx hb dX3_weigh_42 (by decide) (fun c9 => ?_) (fun c9 => ?_)
          · have E := br_p E c9
            exact J49 _ _ _ _ _ E hP hD hS (lv_sub hl [1, 2, 3] rfl)
          · have E := br_n E c9
            exact J45 _ _ _ _ _ E hP hD hS (lv_sub hl [1, 2, 3] rfl)
theorem hdX3_seekWorst : yX3_seekWorst.cls = RX3 ∧ yX3_seekWorst.cls ≠ "java/lang/invoke/MethodHandle" ∧ yX3_seekWorst.cls ≠ "java/lang/invoke/VarHandle" ∧ (parseMethodDescriptor yX3_seekWorst.desc).map (fun d => d.parameters.length) = some 1 := by decide +kernel
noncomputable def FX3_seekWorst_b122 (w_pins w_bars : Int32) (w_lesser w_greater : Nat → Int32) (k39 : Int32 → Int32 → Int32 → (Nat → Int32) → Int32 → Int32 → Option ((Nat → Int32) × Int32 × Int32)) (l2 l3 l4 : Int32) (v_near : Nat → Int32) (v_worstBy v_worstPins : Int32) : Option ((Nat → Int32) × Int32 × Int32) := (k39 l2 l3 (l4 + 1) v_near v_worstBy v_worstPins)
noncomputable def FX3_seekWorst_b97 (w_pins w_bars : Int32) (w_lesser w_greater : Nat → Int32) (k39 : Int32 → Int32 → Int32 → (Nat → Int32) → Int32 → Int32 → Option ((Nat → Int32) × Int32 × Int32)) (l2 l4 t0 t1 : Int32) (v_near : Nat → Int32) (v_worstBy v_worstPins : Int32) : Option ((Nat → Int32) × Int32 × Int32) := ((FJ6_bitCount l2).bind (fun r1 => (if r1 < 2 then (FX3_seekWorst_b122 w_pins w_bars w_lesser w_greater k39 l2 (t0 + t1) l4 v_near v_worstBy v_worstPins) else ((FJ6_bitCount l2).bind (fun r3 => ((FX3_weigh l2 ((t0 + t1) - ((2 * r3) - 3)) v_worstBy v_worstPins).bind (fun r4 => (FX3_seekWorst_b122 w_pins w_bars w_lesser w_greater k39 l2 (t0 + t1) l4 v_near r4.1 r4.2))))))))
noncomputable def FX3_seekWorst_b39 (w_pins w_bars : Int32) (w_lesser w_greater : Nat → Int32)  (k39 : Int32 → Int32 → Int32 → (Nat → Int32) → Int32 → Int32 → Option ((Nat → Int32) × Int32 × Int32)) (l2 l3 l4 : Int32) (v_near : Nat → Int32) (v_worstBy v_worstPins : Int32) : Option ((Nat → Int32) × Int32 × Int32) := (if ((1 : Int32) <<< (w_pins &&& 31)) ≤ l4 then (some (v_near, v_worstBy, v_worstPins)) else ((FX3_leastBit l4).bind (fun r6 => (gd (vp_in r6 12) ((FJ6_bitCount ((v_near r6.toNatClampNeg) &&& l2)).bind (fun r8 => (if (((l2 ^^^ ((1 : Int32) <<< (r6 &&& 31))) >>> (r6 &&& 31)) &&& 1) = 1 then (FX3_seekWorst_b97 w_pins w_bars w_lesser w_greater k39 (l2 ^^^ ((1 : Int32) <<< (r6 &&& 31))) l4 l3 r8 v_near v_worstBy v_worstPins) else (FX3_seekWorst_b97 w_pins w_bars w_lesser w_greater k39 (l2 ^^^ ((1 : Int32) <<< (r6 &&& 31))) l4 l3 (-r8) v_near v_worstBy v_worstPins))))))))
noncomputable def FX3_seekWorst_h39 (w_pins w_bars : Int32) (w_lesser w_greater : Nat → Int32)  : Nat → Int32 → Int32 → Int32 → (Nat → Int32) → Int32 → Int32 → Option ((Nat → Int32) × Int32 × Int32)
  | 0 => fun _ _ _ _ _ _ => none
  | n + 1 => fun l2 l3 l4 v_near v_worstBy v_worstPins => FX3_seekWorst_b39 w_pins w_bars w_lesser w_greater  (FX3_seekWorst_h39 w_pins w_bars w_lesser w_greater  n) l2 l3 l4 v_near v_worstBy v_worstPins
noncomputable def FX3_seekWorst_b2 (w_pins w_bars : Int32) (w_lesser w_greater : Nat → Int32)  (k2 : Int32 → (Nat → Int32) → Int32 → Int32 → Option ((Nat → Int32) × Int32 × Int32)) (l2 : Int32) (v_near : Nat → Int32) (v_worstBy v_worstPins : Int32) : Option ((Nat → Int32) × Int32 × Int32) := (if w_pins ≤ l2 then (FX3_seekWorst_h39 w_pins w_bars w_lesser w_greater  5000 0 0 1 v_near v_worstBy 0) else ((FX0_neighbours l2 w_bars w_lesser w_greater).bind (fun r11 => (gd (vp_in l2 12) (k2 (l2 + 1) (upd v_near l2.toNatClampNeg r11) v_worstBy v_worstPins)))))
noncomputable def FX3_seekWorst_h2 (w_pins w_bars : Int32) (w_lesser w_greater : Nat → Int32)  : Nat → Int32 → (Nat → Int32) → Int32 → Int32 → Option ((Nat → Int32) × Int32 × Int32)
  | 0 => fun _ _ _ _ => none
  | n + 1 => fun l2 v_near v_worstBy v_worstPins => FX3_seekWorst_b2 w_pins w_bars w_lesser w_greater  (FX3_seekWorst_h2 w_pins w_bars w_lesser w_greater  n) l2 v_near v_worstBy v_worstPins
noncomputable def FX3_seekWorst (v_near : Nat → Int32) (v_worstBy v_worstPins w_pins w_bars : Int32) (w_lesser w_greater : Nat → Int32) : Option ((Nat → Int32) × Int32 × Int32) := (FX3_seekWorst_h2 w_pins w_bars w_lesser w_greater  5000 0 v_near v_worstBy v_worstPins)
set_option maxHeartbeats 4000000 in
set_option maxRecDepth 100000 in
theorem c_X3_seekWorst (l : Launch) (D : va_G) (cI cZ cS : ClassId) (a0 a1 a2 a3 a4 a5 a6 a7 a8 a9 a10 a11 : Nat) (v_near v_tiedTo v_parts : Nat → Int32) (v_partCount v_carrying v_rank v_freedoms v_isStiff v_worstBy v_worstPins : Int32) (v_farEnd v_queue v_cameAlong : Nat → Int32) (w_pins w_bars : Int32) (w_names w_lesser w_greater : Nat → Int32)  (u : (Nat → Int32) × Int32 × Int32) (hF : FX3_seekWorst v_near v_worstBy v_worstPins w_pins w_bars w_lesser w_greater = some u) : MCv l D (tyL cI cZ cS) yX3_seekWorst cX3_seekWorst 7 none 2 44 [.ref a0, .ref a8] (wX3 cI a0 a1 a2 a3 a4 a5 a6 a7 v_near v_tiedTo v_parts v_partCount v_carrying v_rank v_freedoms v_isStiff v_worstBy v_worstPins v_farEnd v_queue v_cameAlong ++ wX0 cI a8 a9 a10 a11 w_pins w_bars w_names w_lesser w_greater) (wX3 cI a0 a1 a2 a3 a4 a5 a6 a7 u.1 v_tiedTo v_parts v_partCount v_carrying v_rank v_freedoms v_isStiff u.2.1 u.2.2 v_farEnd v_queue v_cameAlong ++ wX0 cI a8 a9 a10 a11 w_pins w_bars w_names w_lesser w_greater) := by
  refine MCv.mk (by decide) (Nat.le_of_ble_eq_true rfl) ?_
  intro p e s m args below meth c A ls Q h0 hP hD hA hS hl hfin0
  have hfin : ∀ (u' : (Nat → Int32) × Int32 × Int32), u' = u → ∀ (H : Heap) (locs : List Loc) (ls : Array Slot) (pc : Nat), va_P D vwCl (wX3 cI a0 a1 a2 a3 a4 a5 a6 a7 u'.1 v_tiedTo v_parts v_partCount v_carrying v_rank v_freedoms v_isStiff u'.2.1 u'.2.2 v_farEnd v_queue v_cameAlong ++ wX0 cI a8 a9 a10 a11 w_pins w_bars w_names w_lesser w_greater) H → va_D A (wX3 cI a0 a1 a2 a3 a4 a5 a6 a7 u'.1 v_tiedTo v_parts v_partCount v_carrying v_rank v_freedoms v_isStiff u'.2.1 u'.2.2 v_farEnd v_queue v_cameAlong ++ wX0 cI a8 a9 a10 a11 w_pins w_bars w_names w_lesser w_greater) → va_S A s.heap H locs → decode cX3_seekWorst pc = .ok (.return_, 1) → W p l e (uR 2 44) s m args below meth c H locs 0 0 Q (F0 m pc ls []) := by intro u' hu; subst hu; exact hfin0
  clear hfin0
  obtain ⟨hx, hb, hr, hlk, hml, hown, hts, hK⟩ := id h0
  have hl : lv_has ls 7 [(0, .ref a0), (1, .ref a8)] := hl
  have E := hF
  have J39 : ∀ (n39 : Nat) (l2 l3 l4 : Int32) (v_near : Nat → Int32) (v_worstBy v_worstPins : Int32) (H : Heap) (locs : List Loc) (ls : Array Slot), FX3_seekWorst_h39 w_pins w_bars w_lesser w_greater  n39 l2 l3 l4 v_near v_worstBy v_worstPins = some u → va_P D vwCl (wX3 cI a0 a1 a2 a3 a4 a5 a6 a7 v_near v_tiedTo v_parts v_partCount v_carrying v_rank v_freedoms v_isStiff v_worstBy v_worstPins v_farEnd v_queue v_cameAlong ++ wX0 cI a8 a9 a10 a11 w_pins w_bars w_names w_lesser w_greater) H → va_D A (wX3 cI a0 a1 a2 a3 a4 a5 a6 a7 v_near v_tiedTo v_parts v_partCount v_carrying v_rank v_freedoms v_isStiff v_worstBy v_worstPins v_farEnd v_queue v_cameAlong ++ wX0 cI a8 a9 a10 a11 w_pins w_bars w_names w_lesser w_greater) → va_S A s.heap H locs → lv_has ls 7 [(0, .ref a0), (1, .ref a8), (2, .int l2), (3, .int l3), (4, .int l4)] → W p l e (uR 2 44) s m args below meth c H locs 0 0 Q (F0 m 39 ls []) := by
    intro n39
    induction n39 with
    | zero => intro l2 l3 l4 v_near v_worstBy v_worstPins H locs ls E; exact none_e E
    | succ n39 ih39 =>
      intro l2 l3 l4 v_near v_worstBy v_worstPins H locs ls E hP hD hS hl
      have E : FX3_seekWorst_b39 w_pins w_bars w_lesser w_greater  (FX3_seekWorst_h39 w_pins w_bars w_lesser w_greater  n39) l2 l3 l4 v_near v_worstBy v_worstPins = some u := E
      have J122 : ∀ (l2 l3 l4 : Int32) (v_near : Nat → Int32) (v_worstBy v_worstPins : Int32) (H : Heap) (locs : List Loc) (ls : Array Slot), FX3_seekWorst_b122 w_pins w_bars w_lesser w_greater (FX3_seekWorst_h39 w_pins w_bars w_lesser w_greater  n39) l2 l3 l4 v_near v_worstBy v_worstPins = some u → va_P D vwCl (wX3 cI a0 a1 a2 a3 a4 a5 a6 a7 v_near v_tiedTo v_parts v_partCount v_carrying v_rank v_freedoms v_isStiff v_worstBy v_worstPins v_farEnd v_queue v_cameAlong ++ wX0 cI a8 a9 a10 a11 w_pins w_bars w_names w_lesser w_greater) H → va_D A (wX3 cI a0 a1 a2 a3 a4 a5 a6 a7 v_near v_tiedTo v_parts v_partCount v_carrying v_rank v_freedoms v_isStiff v_worstBy v_worstPins v_farEnd v_queue v_cameAlong ++ wX0 cI a8 a9 a10 a11 w_pins w_bars w_names w_lesser w_greater) → va_S A s.heap H locs → lv_has ls 7 [(0, .ref a0), (1, .ref a8), (2, .int l2), (3, .int l3), (4, .int l4)] → W p l e (uR 2 44) s m args below meth c H locs 0 0 Q (F0 m 122 ls []) := by
        intro l2 l3 l4 v_near v_worstBy v_worstPins H locs ls E hP hD hS hl
        refine lv_iinc (v := (l4 + 1)) (lv' := [(4, .int (l4 + 1)), (0, .ref a0), (1, .ref a8), (2, .int l2), (3, .int l3)]) hx hb dX3_seekWorst_122 hl (k := 4) rfl rfl (by decide) rfl (fun ls hl => ?_)
        refine lv_goto (tgt := 39) hx hb dX3_seekWorst_125 (by decide) ?_
        exact ih39 _ _ _ _ _ _ _ _ _ E hP hD hS (lv_sub hl [1, 2, 3, 4, 0] rfl)
      have J97 : ∀ (l2 l4 t0 t1 : Int32) (v_near : Nat → Int32) (v_worstBy v_worstPins : Int32) (H : Heap) (locs : List Loc) (ls : Array Slot), FX3_seekWorst_b97 w_pins w_bars w_lesser w_greater (FX3_seekWorst_h39 w_pins w_bars w_lesser w_greater  n39) l2 l4 t0 t1 v_near v_worstBy v_worstPins = some u → va_P D vwCl (wX3 cI a0 a1 a2 a3 a4 a5 a6 a7 v_near v_tiedTo v_parts v_partCount v_carrying v_rank v_freedoms v_isStiff v_worstBy v_worstPins v_farEnd v_queue v_cameAlong ++ wX0 cI a8 a9 a10 a11 w_pins w_bars w_names w_lesser w_greater) H → va_D A (wX3 cI a0 a1 a2 a3 a4 a5 a6 a7 v_near v_tiedTo v_parts v_partCount v_carrying v_rank v_freedoms v_isStiff v_worstBy v_worstPins v_farEnd v_queue v_cameAlong ++ wX0 cI a8 a9 a10 a11 w_pins w_bars w_names w_lesser w_greater) → va_S A s.heap H locs → lv_has ls 7 [(0, .ref a0), (1, .ref a8), (2, .int l2), (4, .int l4)] → W p l e (uR 2 44) s m args below meth c H locs 0 0 Q (F0 m 97 ls [.int t1, .int t0]) := by
        intro l2 l4 t0 t1 v_near v_worstBy v_worstPins H locs ls E hP hD hS hl
        refine lv_iadd hx hb dX3_seekWorst_97 ?_
        refine lv_istore_n (lv' := [(3, .int (t0 + t1)), (0, .ref a0), (1, .ref a8), (2, .int l2), (4, .int l4)]) hx hb dX3_seekWorst_98 rfl hl (by decide) rfl (fun ls hl => ?_)
        refine lv_iload_n hx hb dX3_seekWorst_99 rfl (lv_at hl 3 rfl) ?_
        obtain ⟨r1, hF, E⟩ := bn_e E
        refine callSi (wo := (wX3 cI a0 a1 a2 a3 a4 a5 a6 a7 v_near v_tiedTo v_parts v_partCount v_carrying v_rank v_freedoms v_isStiff v_worstBy v_worstPins v_farEnd v_queue v_cameAlong ++ wX0 cI a8 a9 a10 a11 w_pins w_bars w_names w_lesser w_greater)) h0 (c_J6_bitCount l D cI cZ cS l2 r1 hF) (gS wq_357 wq_358 wq_10 wq_359) hdJ6_bitCount ⟨Nat.le_of_ble_eq_true rfl, Nat.le_of_ble_eq_true rfl⟩ ⟨Nat.le_refl _, Nat.le_refl _⟩ hP hD hS hA [] rfl rfl rfl rfl hl.1 rfl (Nat.le_of_ble_eq_true rfl) dX3_seekWorst_100 (fun H locs hP hD hS => ?_)
        refine lv_iconst (v := 2) hx hb dX3_seekWorst_103 (by decide) ?_
        refine lv_icmp_lt (tgt := 122) hx hb dX3_seekWorst_104 (by decide) (fun c2 => ?_) (fun c2 => ?_)
        · have E := br_p E c2
          exact J122 _ _ _ _ _ _ _ _ _ E hP hD hS (lv_sub hl [1, 2, 3, 0, 4] rfl)
        · have E := br_n E c2
          refine lv_aload_n hx hb dX3_seekWorst_107 rfl (lv_at hl 1 rfl) ?_
          refine lv_iload_n hx hb dX3_seekWorst_108 rfl (lv_at hl 3 rfl) ?_
          refine lv_iload_n hx hb dX3_seekWorst_109 rfl (lv_at hl 0 rfl) ?_
          refine lv_iconst (v := 2) hx hb dX3_seekWorst_110 (by decide) ?_
          refine lv_iload_n hx hb dX3_seekWorst_111 rfl (lv_at hl 3 rfl) ?_
          obtain ⟨r3, hF, E⟩ := bn_e E
          refine callSi (wo := (wX3 cI a0 a1 a2 a3 a4 a5 a6 a7 v_near v_tiedTo v_parts v_partCount v_carrying v_rank v_freedoms v_isStiff v_worstBy v_worstPins v_farEnd v_queue v_cameAlong ++ wX0 cI a8 a9 a10 a11 w_pins w_bars w_names w_lesser w_greater)) h0 (c_J6_bitCount l D cI cZ cS l2 r3 hF) (gS wq_357 wq_358 wq_10 wq_359) hdJ6_bitCount ⟨Nat.le_of_ble_eq_true rfl, Nat.le_of_ble_eq_true rfl⟩ ⟨Nat.le_refl _, Nat.le_refl _⟩ hP hD hS hA [] rfl rfl rfl rfl hl.1 rfl (Nat.le_of_ble_eq_true rfl) dX3_seekWorst_112 (fun H locs hP hD hS => ?_)
          refine lv_imul hx hb dX3_seekWorst_115 ?_
          refine lv_iconst (v := 3) hx hb dX3_seekWorst_116 (by decide) ?_
          refine lv_isub hx hb dX3_seekWorst_117 ?_
          refine lv_isub hx hb dX3_seekWorst_118 ?_
          obtain ⟨r4, hF, E⟩ := bn_e E
          refine callVv (wo := (wX3 cI a0 a1 a2 a3 a4 a5 a6 a7 v_near v_tiedTo v_parts v_partCount v_carrying v_rank v_freedoms v_isStiff r4.1 r4.2 v_farEnd v_queue v_cameAlong ++ wX0 cI a8 a9 a10 a11 w_pins w_bars w_names w_lesser w_greater)) h0 (c_X3_weigh l D cI cZ cS a0 a1 a2 a3 a4 a5 a6 a7 v_near v_tiedTo v_parts v_partCount v_carrying v_rank v_freedoms v_isStiff v_worstBy v_worstPins v_farEnd v_queue v_cameAlong l2 ((t0 + t1) - ((2 * r3) - 3)) r4 hF) (gV wq_450 wq_452 wp_13 wq_4 wq_453) hdX3_weigh ⟨Nat.le_of_ble_eq_true rfl, Nat.le_of_ble_eq_true rfl⟩ ⟨Nat.le_refl _, Nat.le_refl _⟩ hP hD hS hA 0 3 rfl rfl rfl [0, 1, 2, 3, 4, 5, 6, 7] rfl rfl rfl rfl hl.1 rfl (Nat.le_of_ble_eq_true rfl) dX3_seekWorst_119 (fun H locs hP hD hS => ?_)
          exact J122 _ _ _ _ _ _ _ _ _ E hP hD hS (lv_sub hl [1, 2, 3, 0, 4] rfl)
      refine lv_iload hx hb dX3_seekWorst_39 (lv_at hl 4 rfl) ?_
      refine lv_iconst (v := 1) hx hb dX3_seekWorst_41 (by decide) ?_
      refine lv_aload_n hx hb dX3_seekWorst_42 rfl (lv_at hl 1 rfl) ?_
      refine gf_X3_66 h0 hP 8 rfl rfl dX3_seekWorst_43 ?_
      refine lv_ishl hx hb dX3_seekWorst_46 ?_
      refine lv_icmp_ge (tgt := 128) hx hb dX3_seekWorst_47 (by decide) (fun c5 => ?_) (fun c5 => ?_)
      · have E := br_p E c5
        exact hfin _ (Option.some.inj E) _ _ _ _ hP hD hS dX3_seekWorst_128
      · have E := br_n E c5
        refine lv_iload hx hb dX3_seekWorst_50 (lv_at hl 4 rfl) ?_
        obtain ⟨r6, hF, E⟩ := bn_e E
        refine callSi (wo := (wX3 cI a0 a1 a2 a3 a4 a5 a6 a7 v_near v_tiedTo v_parts v_partCount v_carrying v_rank v_freedoms v_isStiff v_worstBy v_worstPins v_farEnd v_queue v_cameAlong ++ wX0 cI a8 a9 a10 a11 w_pins w_bars w_names w_lesser w_greater)) h0 (c_X3_leastBit l D cI cZ cS l4 r6 hF) (gS wq_447 wq_448 wq_4 wq_449) hdX3_leastBit ⟨Nat.le_of_ble_eq_true rfl, Nat.le_of_ble_eq_true rfl⟩ ⟨Nat.le_refl _, Nat.le_refl _⟩ hP hD hS hA [] rfl rfl rfl rfl hl.1 rfl (Nat.le_of_ble_eq_true rfl) dX3_seekWorst_52 (fun H locs hP hD hS => ?_)
        refine lv_istore (lv' := [(5, .int r6), (0, .ref a0), (1, .ref a8), (2, .int l2), (3, .int l3), (4, .int l4)]) hx hb dX3_seekWorst_55 hl (by decide) rfl (fun ls hl => ?_)
        refine lv_aload_n hx hb dX3_seekWorst_57 rfl (lv_at hl 1 rfl) ?_
        refine gf_X3_18 h0 hP 0 rfl rfl dX3_seekWorst_58 ?_
        refine lv_iload hx hb dX3_seekWorst_61 (lv_at hl 0 rfl) ?_
        obtain ⟨g7, E⟩ := gd_e E
        refine aldi hx hb hK hP 1 rfl rfl g7 dX3_seekWorst_63 ?_
        refine lv_iload_n hx hb dX3_seekWorst_64 rfl (lv_at hl 3 rfl) ?_
        refine lv_iand hx hb dX3_seekWorst_65 ?_
        obtain ⟨r8, hF, E⟩ := bn_e E
        refine callSi (wo := (wX3 cI a0 a1 a2 a3 a4 a5 a6 a7 v_near v_tiedTo v_parts v_partCount v_carrying v_rank v_freedoms v_isStiff v_worstBy v_worstPins v_farEnd v_queue v_cameAlong ++ wX0 cI a8 a9 a10 a11 w_pins w_bars w_names w_lesser w_greater)) h0 (c_J6_bitCount l D cI cZ cS ((v_near r6.toNatClampNeg) &&& l2) r8 hF) (gS wq_357 wq_358 wq_10 wq_359) hdJ6_bitCount ⟨Nat.le_of_ble_eq_true rfl, Nat.le_of_ble_eq_true rfl⟩ ⟨Nat.le_refl _, Nat.le_refl _⟩ hP hD hS hA [] rfl rfl rfl rfl hl.1 rfl (Nat.le_of_ble_eq_true rfl) dX3_seekWorst_66 (fun H locs hP hD hS => ?_)
        refine lv_istore (lv' := [(6, .int r8), (5, .int r6), (0, .ref a0), (1, .ref a8), (2, .int l2), (3, .int l3), (4, .int l4)]) hx hb dX3_seekWorst_69 hl (by decide) rfl (fun ls hl => ?_)
        refine lv_iload_n hx hb dX3_seekWorst_71 rfl (lv_at hl 4 rfl) ?_
        refine lv_iconst (v := 1) hx hb dX3_seekWorst_72 (by decide) ?_
        refine lv_iload hx hb dX3_seekWorst_73 (lv_at hl 1 rfl) ?_
        refine lv_ishl hx hb dX3_seekWorst_75 ?_
        refine lv_ixor hx hb dX3_seekWorst_76 ?_
        refine lv_istore_n (lv' := [(2, .int (l2 ^^^ ((1 : Int32) <<< (r6 &&& 31)))), (6, .int r8), (5, .int r6), (0, .ref a0), (1, .ref a8), (3, .int l3), (4, .int l4)]) hx hb dX3_seekWorst_77 rfl hl (by decide) rfl (fun ls hl => ?_)
        refine lv_iload_n hx hb dX3_seekWorst_78 rfl (lv_at hl 5 rfl) ?_
        refine lv_iload_n hx hb dX3_seekWorst_79 rfl (lv_at hl 0 rfl) ?_
        refine lv_iload hx hb dX3_seekWorst_80 (lv_at hl 2 rfl) ?_
        refine lv_ishr hx hb dX3_seekWorst_82 ?_
        refine lv_iconst (v := 1) hx hb dX3_seekWorst_83 (by decide) ?_
        refine lv_iand hx hb dX3_seekWorst_84 ?_
        refine lv_iconst (v := 1) hx hb dX3_seekWorst_85 (by decide) ?_
        refine lv_icmp_ne (tgt := 94) hx hb dX3_seekWorst_86 (by decide) (fun c9 => ?_) (fun c9 => ?_)
        · have E := br_n E c9
          refine lv_iload hx hb dX3_seekWorst_94 (lv_at hl 1 rfl) ?_
          refine lv_ineg hx hb dX3_seekWorst_96 ?_
          exact J97 _ _ _ _ _ _ _ _ _ _ E hP hD hS (lv_sub hl [3, 4, 0, 6] rfl)
        · have E := br_p E c9
          refine lv_iload hx hb dX3_seekWorst_89 (lv_at hl 1 rfl) ?_
          refine lv_goto (tgt := 97) hx hb dX3_seekWorst_91 (by decide) ?_
          exact J97 _ _ _ _ _ _ _ _ _ _ E hP hD hS (lv_sub hl [3, 4, 0, 6] rfl)
  have J2 : ∀ (n2 : Nat) (l2 : Int32) (v_near : Nat → Int32) (v_worstBy v_worstPins : Int32) (H : Heap) (locs : List Loc) (ls : Array Slot), FX3_seekWorst_h2 w_pins w_bars w_lesser w_greater  n2 l2 v_near v_worstBy v_worstPins = some u → va_P D vwCl (wX3 cI a0 a1 a2 a3 a4 a5 a6 a7 v_near v_tiedTo v_parts v_partCount v_carrying v_rank v_freedoms v_isStiff v_worstBy v_worstPins v_farEnd v_queue v_cameAlong ++ wX0 cI a8 a9 a10 a11 w_pins w_bars w_names w_lesser w_greater) H → va_D A (wX3 cI a0 a1 a2 a3 a4 a5 a6 a7 v_near v_tiedTo v_parts v_partCount v_carrying v_rank v_freedoms v_isStiff v_worstBy v_worstPins v_farEnd v_queue v_cameAlong ++ wX0 cI a8 a9 a10 a11 w_pins w_bars w_names w_lesser w_greater) → va_S A s.heap H locs → lv_has ls 7 [(0, .ref a0), (1, .ref a8), (2, .int l2)] → W p l e (uR 2 44) s m args below meth c H locs 0 0 Q (F0 m 2 ls []) := by
    intro n2
    induction n2 with
    | zero => intro l2 v_near v_worstBy v_worstPins H locs ls E; exact none_e E
    | succ n2 ih2 =>
      intro l2 v_near v_worstBy v_worstPins H locs ls E hP hD hS hl
      have E : FX3_seekWorst_b2 w_pins w_bars w_lesser w_greater  (FX3_seekWorst_h2 w_pins w_bars w_lesser w_greater  n2) l2 v_near v_worstBy v_worstPins = some u := E
      refine lv_iload_n hx hb dX3_seekWorst_2 rfl (lv_at hl 2 rfl) ?_
      refine lv_aload_n hx hb dX3_seekWorst_3 rfl (lv_at hl 1 rfl) ?_
      refine gf_X3_66 h0 hP 8 rfl rfl dX3_seekWorst_4 ?_
      refine lv_icmp_ge (tgt := 27) hx hb dX3_seekWorst_7 (by decide) (fun c10 => ?_) (fun c10 => ?_)
      · have E := br_p E c10
        refine lv_aload_n hx hb dX3_seekWorst_27 rfl (lv_at hl 0 rfl) ?_
        refine lv_iconst (v := 0) hx hb dX3_seekWorst_28 (by decide) ?_
        refine pf_X3_48 (wo := (wX3 cI a0 a1 a2 a3 a4 a5 a6 a7 v_near v_tiedTo v_parts v_partCount v_carrying v_rank v_freedoms v_isStiff v_worstBy 0 v_farEnd v_queue v_cameAlong ++ wX0 cI a8 a9 a10 a11 w_pins w_bars w_names w_lesser w_greater)) h0 hP hD hS 0 rfl (Nat.le_of_ble_eq_true rfl) rfl dX3_seekWorst_29 (fun H locs hP hD hS => ?_)
        refine lv_iconst (v := 0) hx hb dX3_seekWorst_32 (by decide) ?_
        refine lv_istore_n (lv' := [(2, .int 0), (0, .ref a0), (1, .ref a8)]) hx hb dX3_seekWorst_33 rfl hl (by decide) rfl (fun ls hl => ?_)
        refine lv_iconst (v := 0) hx hb dX3_seekWorst_34 (by decide) ?_
        refine lv_istore_n (lv' := [(3, .int 0), (2, .int 0), (0, .ref a0), (1, .ref a8)]) hx hb dX3_seekWorst_35 rfl hl (by decide) rfl (fun ls hl => ?_)
        refine lv_iconst (v := 1) hx hb dX3_seekWorst_36 (by decide) ?_
        refine lv_istore (lv' := [(4, .int 1), (3, .int 0), (2, .int 0), (0, .ref a0), (1, .ref a8)]) hx hb dX3_seekWorst_37 hl (by decide) rfl (fun ls hl => ?_)
        exact J39 5000 _ _ _ _ _ _ _ _ _ E hP hD hS (lv_sub hl [3, 4, 2, 1, 0] rfl)
      · have E := br_n E c10
        refine lv_aload_n hx hb dX3_seekWorst_10 rfl (lv_at hl 0 rfl) ?_
        refine gf_X3_18 h0 hP 0 rfl rfl dX3_seekWorst_11 ?_
        refine lv_iload_n hx hb dX3_seekWorst_14 rfl (lv_at hl 2 rfl) ?_
        refine lv_aload_n hx hb dX3_seekWorst_15 rfl (lv_at hl 1 rfl) ?_
        refine lv_iload_n hx hb dX3_seekWorst_16 rfl (lv_at hl 2 rfl) ?_
        obtain ⟨r11, hF, E⟩ := bn_e E
        refine callVi (wo := (wX3 cI a0 a1 a2 a3 a4 a5 a6 a7 v_near v_tiedTo v_parts v_partCount v_carrying v_rank v_freedoms v_isStiff v_worstBy v_worstPins v_farEnd v_queue v_cameAlong ++ wX0 cI a8 a9 a10 a11 w_pins w_bars w_names w_lesser w_greater)) h0 (c_X0_neighbours l D cI cZ cS a8 a9 a10 a11 w_pins w_bars w_names w_lesser w_greater l2 r11 hF) (gV wq_446 wq_393 wq_394 wq_2 wq_395) hdX0_neighbours ⟨Nat.le_of_ble_eq_true rfl, Nat.le_of_ble_eq_true rfl⟩ ⟨Nat.le_refl _, Nat.le_refl _⟩ hP hD hS hA 0 0 rfl rfl rfl [8, 9, 10, 11] rfl rfl rfl rfl hl.1 rfl (Nat.le_of_ble_eq_true rfl) dX3_seekWorst_17 (fun H locs hP hD hS => ?_)
        obtain ⟨g12, E⟩ := gd_e E
        refine asti (wo := (wX3 cI a0 a1 a2 a3 a4 a5 a6 a7 (upd v_near l2.toNatClampNeg r11) v_tiedTo v_parts v_partCount v_carrying v_rank v_freedoms v_isStiff v_worstBy v_worstPins v_farEnd v_queue v_cameAlong ++ wX0 cI a8 a9 a10 a11 w_pins w_bars w_names w_lesser w_greater)) hx hb hK hP hD hS 1 rfl rfl g12 rfl dX3_seekWorst_20 (fun H locs hP hD hS => ?_)
        refine lv_iinc (v := (l2 + 1)) (lv' := [(2, .int (l2 + 1)), (0, .ref a0), (1, .ref a8)]) hx hb dX3_seekWorst_21 hl (k := 2) rfl rfl (by decide) rfl (fun ls hl => ?_)
        refine lv_goto (tgt := 2) hx hb dX3_seekWorst_24 (by decide) ?_
        exact ih2 _ _ _ _ _ _ _ E hP hD hS (lv_sub hl [1, 2, 0] rfl)
  refine lv_iconst (v := 0) hx hb dX3_seekWorst_0 (by decide) ?_
  refine lv_istore_n (lv' := [(2, .int 0), (0, .ref a0), (1, .ref a8)]) hx hb dX3_seekWorst_1 rfl hl (by decide) rfl (fun ls hl => ?_)
  exact J2 5000 _ _ _ _ _ _ _ E hP hD hS (lv_sub hl [1, 2, 0] rfl)
theorem hdX3_freedomsWithout : yX3_freedomsWithout.cls = RX3 ∧ yX3_freedomsWithout.cls ≠ "java/lang/invoke/MethodHandle" ∧ yX3_freedomsWithout.cls ≠ "java/lang/invoke/VarHandle" ∧ (parseMethodDescriptor yX3_freedomsWithout.desc).map (fun d => d.parameters.length) = some 2 := by decide +kernel
noncomputable def FX3_freedomsWithout (p2 : Int32) (v_farEnd v_queue v_cameAlong : Nat → Int32) (w_pins w_bars : Int32) (w_lesser w_greater : Nat → Int32) : Option (Int32 × (Nat → Int32) × (Nat → Int32) × (Nat → Int32)) := ((FX3_carryingWithLast p2 v_farEnd v_queue v_cameAlong w_bars w_lesser w_greater).bind (fun r1 => ((FJ6_bitCount (r1.1 &&& (((1 : Int32) <<< ((w_bars - 1) &&& 31)) - 1))).bind (fun r2 => (some (((2 * w_pins) - r2), r1.2.1, r1.2.2.1, r1.2.2.2))))))
set_option maxHeartbeats 4000000 in
set_option maxRecDepth 100000 in
theorem c_X3_freedomsWithout (l : Launch) (D : va_G) (cI cZ cS : ClassId) (a0 a1 a2 a3 a4 a5 a6 a7 a8 a9 a10 a11 : Nat) (v_near v_tiedTo v_parts : Nat → Int32) (v_partCount v_carrying v_rank v_freedoms v_isStiff v_worstBy v_worstPins : Int32) (v_farEnd v_queue v_cameAlong : Nat → Int32) (w_pins w_bars : Int32) (w_names w_lesser w_greater : Nat → Int32) (p2 : Int32) (u : Int32 × (Nat → Int32) × (Nat → Int32) × (Nat → Int32)) (hF : FX3_freedomsWithout p2 v_farEnd v_queue v_cameAlong w_pins w_bars w_lesser w_greater = some u) : MCi l D (tyL cI cZ cS) yX3_freedomsWithout cX3_freedomsWithout 4 (some .int) 4 105 [.ref a0, .ref a8, .int p2] (wX3 cI a0 a1 a2 a3 a4 a5 a6 a7 v_near v_tiedTo v_parts v_partCount v_carrying v_rank v_freedoms v_isStiff v_worstBy v_worstPins v_farEnd v_queue v_cameAlong ++ wX0 cI a8 a9 a10 a11 w_pins w_bars w_names w_lesser w_greater) (wX3 cI a0 a1 a2 a3 a4 a5 a6 a7 v_near v_tiedTo v_parts v_partCount v_carrying v_rank v_freedoms v_isStiff v_worstBy v_worstPins u.2.1 u.2.2.1 u.2.2.2 ++ wX0 cI a8 a9 a10 a11 w_pins w_bars w_names w_lesser w_greater) u.1 := by
  refine MCi.mk (by decide) (Nat.le_of_ble_eq_true rfl) ?_
  intro p e s m args below meth c A ls Q h0 hP hD hA hS hl hfin0
  have hfin : ∀ (u' : Int32 × (Nat → Int32) × (Nat → Int32) × (Nat → Int32)), u' = u → ∀ (H : Heap) (locs : List Loc) (ls : Array Slot) (pc : Nat), va_P D vwCl (wX3 cI a0 a1 a2 a3 a4 a5 a6 a7 v_near v_tiedTo v_parts v_partCount v_carrying v_rank v_freedoms v_isStiff v_worstBy v_worstPins u'.2.1 u'.2.2.1 u'.2.2.2 ++ wX0 cI a8 a9 a10 a11 w_pins w_bars w_names w_lesser w_greater) H → va_D A (wX3 cI a0 a1 a2 a3 a4 a5 a6 a7 v_near v_tiedTo v_parts v_partCount v_carrying v_rank v_freedoms v_isStiff v_worstBy v_worstPins u'.2.1 u'.2.2.1 u'.2.2.2 ++ wX0 cI a8 a9 a10 a11 w_pins w_bars w_names w_lesser w_greater) → va_S A s.heap H locs → decode cX3_freedomsWithout pc = .ok (.ireturn, 1) → W p l e (uR 4 105) s m args below meth c H locs 0 0 Q (F0 m pc ls [.int u'.1]) := by intro u' hu; subst hu; exact hfin0
  clear hfin0
  obtain ⟨hx, hb, hr, hlk, hml, hown, hts, hK⟩ := id h0
  have hl : lv_has ls 4 [(0, .ref a0), (1, .ref a8), (2, .int p2)] := hl
  have E := hF
  refine lv_aload_n hx hb dX3_freedomsWithout_0 rfl (lv_at hl 0 rfl) ?_
  refine lv_aload_n hx hb dX3_freedomsWithout_1 rfl (lv_at hl 1 rfl) ?_
  refine lv_iload_n hx hb dX3_freedomsWithout_2 rfl (lv_at hl 2 rfl) ?_
  obtain ⟨r1, hF, E⟩ := bn_e E
  refine callVfi (wo := (wX3 cI a0 a1 a2 a3 a4 a5 a6 a7 v_near v_tiedTo v_parts v_partCount v_carrying v_rank v_freedoms v_isStiff v_worstBy v_worstPins r1.2.1 r1.2.2.1 r1.2.2.2 ++ wX0 cI a8 a9 a10 a11 w_pins w_bars w_names w_lesser w_greater)) h0 (c_X3_carryingWithLast l D cI cZ cS a0 a1 a2 a3 a4 a5 a6 a7 a8 a9 a10 a11 v_near v_tiedTo v_parts v_partCount v_carrying v_rank v_freedoms v_isStiff v_worstBy v_worstPins v_farEnd v_queue v_cameAlong w_pins w_bars w_names w_lesser w_greater p2 r1 hF) (gV wq_325 wq_326 wq_327 wq_4 wq_328) hdX3_carryingWithLast ⟨Nat.le_of_ble_eq_true rfl, Nat.le_of_ble_eq_true rfl⟩ ⟨Nat.le_refl _, Nat.le_refl _⟩ hP hD hS hA 0 3 rfl rfl rfl hl.1 rfl (Nat.le_of_ble_eq_true rfl) dX3_freedomsWithout_3 (fun H locs hP hD hS => ?_)
  refine lv_iconst (v := 1) hx hb dX3_freedomsWithout_6 (by decide) ?_
  refine lv_aload_n hx hb dX3_freedomsWithout_7 rfl (lv_at hl 1 rfl) ?_
  refine gf_X3_51 h0 hP 8 rfl rfl dX3_freedomsWithout_8 ?_
  refine lv_iconst (v := 1) hx hb dX3_freedomsWithout_11 (by decide) ?_
  refine lv_isub hx hb dX3_freedomsWithout_12 ?_
  refine lv_ishl hx hb dX3_freedomsWithout_13 ?_
  refine lv_iconst (v := 1) hx hb dX3_freedomsWithout_14 (by decide) ?_
  refine lv_isub hx hb dX3_freedomsWithout_15 ?_
  refine lv_iand hx hb dX3_freedomsWithout_16 ?_
  refine lv_istore_n (lv' := [(3, .int (r1.1 &&& (((1 : Int32) <<< ((w_bars - 1) &&& 31)) - 1))), (0, .ref a0), (1, .ref a8), (2, .int p2)]) hx hb dX3_freedomsWithout_17 rfl hl (by decide) rfl (fun ls hl => ?_)
  refine lv_iconst (v := 2) hx hb dX3_freedomsWithout_18 (by decide) ?_
  refine lv_aload_n hx hb dX3_freedomsWithout_19 rfl (lv_at hl 2 rfl) ?_
  refine gf_X3_66 h0 hP 8 rfl rfl dX3_freedomsWithout_20 ?_
  refine lv_imul hx hb dX3_freedomsWithout_23 ?_
  refine lv_iload_n hx hb dX3_freedomsWithout_24 rfl (lv_at hl 0 rfl) ?_
  obtain ⟨r2, hF, E⟩ := bn_e E
  refine callSi (wo := (wX3 cI a0 a1 a2 a3 a4 a5 a6 a7 v_near v_tiedTo v_parts v_partCount v_carrying v_rank v_freedoms v_isStiff v_worstBy v_worstPins r1.2.1 r1.2.2.1 r1.2.2.2 ++ wX0 cI a8 a9 a10 a11 w_pins w_bars w_names w_lesser w_greater)) h0 (c_J6_bitCount l D cI cZ cS (r1.1 &&& (((1 : Int32) <<< ((w_bars - 1) &&& 31)) - 1)) r2 hF) (gS wq_357 wq_358 wq_10 wq_359) hdJ6_bitCount ⟨Nat.le_of_ble_eq_true rfl, Nat.le_of_ble_eq_true rfl⟩ ⟨Nat.le_refl _, Nat.le_refl _⟩ hP hD hS hA [] rfl rfl rfl rfl hl.1 rfl (Nat.le_of_ble_eq_true rfl) dX3_freedomsWithout_25 (fun H locs hP hD hS => ?_)
  refine lv_isub hx hb dX3_freedomsWithout_28 ?_
  exact hfin _ (Option.some.inj E) _ _ _ _ hP hD hS dX3_freedomsWithout_29
theorem hdX3_lackingAt : yX3_lackingAt.cls = RX3 ∧ yX3_lackingAt.cls ≠ "java/lang/invoke/MethodHandle" ∧ yX3_lackingAt.cls ≠ "java/lang/invoke/VarHandle" ∧ (parseMethodDescriptor yX3_lackingAt.desc).map (fun d => d.parameters.length) = some 2 := by decide +kernel
noncomputable def FX3_lackingAt_b65 (p1 p2 : Int32) (k5 : Int32 → Int32 → (Nat → Int32) → (Nat → Int32) → (Nat → Int32) → Option (Int32 × (Nat → Int32) × (Nat → Int32) × (Nat → Int32))) (k17 : Int32 → Int32 → Int32 → (Nat → Int32) → (Nat → Int32) → (Nat → Int32) → Option (Int32 × (Nat → Int32) × (Nat → Int32) × (Nat → Int32))) (l3 l4 l5 : Int32) (v_farEnd v_queue v_cameAlong : Nat → Int32) : Option (Int32 × (Nat → Int32) × (Nat → Int32) × (Nat → Int32)) := (k17 l3 l4 (l5 + 1) v_farEnd v_queue v_cameAlong)
noncomputable def FX3_lackingAt_b17 (p1 p2 : Int32) (k5 : Int32 → Int32 → (Nat → Int32) → (Nat → Int32) → (Nat → Int32) → Option (Int32 × (Nat → Int32) × (Nat → Int32) × (Nat → Int32))) (k17 : Int32 → Int32 → Int32 → (Nat → Int32) → (Nat → Int32) → (Nat → Int32) → Option (Int32 × (Nat → Int32) × (Nat → Int32) × (Nat → Int32))) (l3 l4 l5 : Int32) (v_farEnd v_queue v_cameAlong : Nat → Int32) : Option (Int32 × (Nat → Int32) × (Nat → Int32) × (Nat → Int32)) := (if p1 ≤ l5 then (k5 l3 (l4 + 1) v_farEnd v_queue v_cameAlong) else ((FX1_wouldCarry l4 l5 v_farEnd v_queue v_cameAlong).bind (fun r2 => (if r2.1 = 0 then (FX3_lackingAt_b65 p1 p2 k5 k17 l3 l4 l5 r2.2.1 r2.2.2.1 r2.2.2.2) else (if l3 = p2 then (some (((100 * l4) + l5), r2.2.1, r2.2.2.1, r2.2.2.2)) else ((FX1_lay l4 l5 r2.2.1).bind (fun r5 => (FX3_lackingAt_b65 p1 p2 k5 k17 (l3 + 1) l4 l5 r5 r2.2.2.1 r2.2.2.2))))))))
noncomputable def FX3_lackingAt_h17 (p1 p2 : Int32) (k5 : Int32 → Int32 → (Nat → Int32) → (Nat → Int32) → (Nat → Int32) → Option (Int32 × (Nat → Int32) × (Nat → Int32) × (Nat → Int32))) : Nat → Int32 → Int32 → Int32 → (Nat → Int32) → (Nat → Int32) → (Nat → Int32) → Option (Int32 × (Nat → Int32) × (Nat → Int32) × (Nat → Int32))
  | 0 => fun _ _ _ _ _ _ => none
  | n + 1 => fun l3 l4 l5 v_farEnd v_queue v_cameAlong => FX3_lackingAt_b17 p1 p2 k5 (FX3_lackingAt_h17 p1 p2 k5 n) l3 l4 l5 v_farEnd v_queue v_cameAlong
noncomputable def FX3_lackingAt_b5 (p1 p2 : Int32)  (k5 : Int32 → Int32 → (Nat → Int32) → (Nat → Int32) → (Nat → Int32) → Option (Int32 × (Nat → Int32) × (Nat → Int32) × (Nat → Int32))) (l3 l4 : Int32) (v_farEnd v_queue v_cameAlong : Nat → Int32) : Option (Int32 × (Nat → Int32) × (Nat → Int32) × (Nat → Int32)) := (if p1 ≤ l4 then (if p2 = (-1) then (some (l3, v_farEnd, v_queue, v_cameAlong)) else (some ((-12), v_farEnd, v_queue, v_cameAlong))) else (FX3_lackingAt_h17 p1 p2 k5 5000 l3 l4 (l4 + 1) v_farEnd v_queue v_cameAlong))
noncomputable def FX3_lackingAt_h5 (p1 p2 : Int32)  : Nat → Int32 → Int32 → (Nat → Int32) → (Nat → Int32) → (Nat → Int32) → Option (Int32 × (Nat → Int32) × (Nat → Int32) × (Nat → Int32))
  | 0 => fun _ _ _ _ _ => none
  | n + 1 => fun l3 l4 v_farEnd v_queue v_cameAlong => FX3_lackingAt_b5 p1 p2  (FX3_lackingAt_h5 p1 p2  n) l3 l4 v_farEnd v_queue v_cameAlong
noncomputable def FX3_lackingAt (p1 p2 : Int32) (v_farEnd v_queue v_cameAlong : Nat → Int32) : Option (Int32 × (Nat → Int32) × (Nat → Int32) × (Nat → Int32)) := (FX3_lackingAt_h5 p1 p2  5000 0 0 v_farEnd v_queue v_cameAlong)
set_option maxHeartbeats 4000000 in
set_option maxRecDepth 100000 in
theorem c_X3_lackingAt (l : Launch) (D : va_G) (cI cZ cS : ClassId) (a0 a1 a2 a3 a4 a5 a6 a7 : Nat) (v_near v_tiedTo v_parts : Nat → Int32) (v_partCount v_carrying v_rank v_freedoms v_isStiff v_worstBy v_worstPins : Int32) (v_farEnd v_queue v_cameAlong : Nat → Int32) (p1 p2 : Int32) (u : Int32 × (Nat → Int32) × (Nat → Int32) × (Nat → Int32)) (hF : FX3_lackingAt p1 p2 v_farEnd v_queue v_cameAlong = some u) : MCi l D (tyL cI cZ cS) yX3_lackingAt cX3_lackingAt 6 (some .int) 3 78 [.ref a0, .int p1, .int p2] (wX3 cI a0 a1 a2 a3 a4 a5 a6 a7 v_near v_tiedTo v_parts v_partCount v_carrying v_rank v_freedoms v_isStiff v_worstBy v_worstPins v_farEnd v_queue v_cameAlong) (wX3 cI a0 a1 a2 a3 a4 a5 a6 a7 v_near v_tiedTo v_parts v_partCount v_carrying v_rank v_freedoms v_isStiff v_worstBy v_worstPins u.2.1 u.2.2.1 u.2.2.2) u.1 := by
  refine MCi.mk (by decide) (Nat.le_of_ble_eq_true rfl) ?_
  intro p e s m args below meth c A ls Q h0 hP hD hA hS hl hfin0
  have hfin : ∀ (u' : Int32 × (Nat → Int32) × (Nat → Int32) × (Nat → Int32)), u' = u → ∀ (H : Heap) (locs : List Loc) (ls : Array Slot) (pc : Nat), va_P D vwCl (wX3 cI a0 a1 a2 a3 a4 a5 a6 a7 v_near v_tiedTo v_parts v_partCount v_carrying v_rank v_freedoms v_isStiff v_worstBy v_worstPins u'.2.1 u'.2.2.1 u'.2.2.2) H → va_D A (wX3 cI a0 a1 a2 a3 a4 a5 a6 a7 v_near v_tiedTo v_parts v_partCount v_carrying v_rank v_freedoms v_isStiff v_worstBy v_worstPins u'.2.1 u'.2.2.1 u'.2.2.2) → va_S A s.heap H locs → decode cX3_lackingAt pc = .ok (.ireturn, 1) → W p l e (uR 3 78) s m args below meth c H locs 0 0 Q (F0 m pc ls [.int u'.1]) := by intro u' hu; subst hu; exact hfin0
  clear hfin0
  obtain ⟨hx, hb, hr, hlk, hml, hown, hts, hK⟩ := id h0
  have hl : lv_has ls 6 [(0, .ref a0), (1, .int p1), (2, .int p2)] := hl
  have E := hF
  have J5 : ∀ (n5 : Nat) (l3 l4 : Int32) (v_farEnd v_queue v_cameAlong : Nat → Int32) (H : Heap) (locs : List Loc) (ls : Array Slot), FX3_lackingAt_h5 p1 p2  n5 l3 l4 v_farEnd v_queue v_cameAlong = some u → va_P D vwCl (wX3 cI a0 a1 a2 a3 a4 a5 a6 a7 v_near v_tiedTo v_parts v_partCount v_carrying v_rank v_freedoms v_isStiff v_worstBy v_worstPins v_farEnd v_queue v_cameAlong) H → va_D A (wX3 cI a0 a1 a2 a3 a4 a5 a6 a7 v_near v_tiedTo v_parts v_partCount v_carrying v_rank v_freedoms v_isStiff v_worstBy v_worstPins v_farEnd v_queue v_cameAlong) → va_S A s.heap H locs → lv_has ls 6 [(0, .ref a0), (1, .int p1), (2, .int p2), (3, .int l3), (4, .int l4)] → W p l e (uR 3 78) s m args below meth c H locs 0 0 Q (F0 m 5 ls []) := by
    intro n5
    induction n5 with
    | zero => intro l3 l4 v_farEnd v_queue v_cameAlong H locs ls E; exact none_e E
    | succ n5 ih5 =>
      intro l3 l4 v_farEnd v_queue v_cameAlong H locs ls E hP hD hS hl
      have E : FX3_lackingAt_b5 p1 p2  (FX3_lackingAt_h5 p1 p2  n5) l3 l4 v_farEnd v_queue v_cameAlong = some u := E
      have J17 : ∀ (n17 : Nat) (l3 l4 l5 : Int32) (v_farEnd v_queue v_cameAlong : Nat → Int32) (H : Heap) (locs : List Loc) (ls : Array Slot), FX3_lackingAt_h17 p1 p2 (FX3_lackingAt_h5 p1 p2  n5) n17 l3 l4 l5 v_farEnd v_queue v_cameAlong = some u → va_P D vwCl (wX3 cI a0 a1 a2 a3 a4 a5 a6 a7 v_near v_tiedTo v_parts v_partCount v_carrying v_rank v_freedoms v_isStiff v_worstBy v_worstPins v_farEnd v_queue v_cameAlong) H → va_D A (wX3 cI a0 a1 a2 a3 a4 a5 a6 a7 v_near v_tiedTo v_parts v_partCount v_carrying v_rank v_freedoms v_isStiff v_worstBy v_worstPins v_farEnd v_queue v_cameAlong) → va_S A s.heap H locs → lv_has ls 6 [(0, .ref a0), (1, .int p1), (2, .int p2), (3, .int l3), (4, .int l4), (5, .int l5)] → W p l e (uR 3 78) s m args below meth c H locs 0 0 Q (F0 m 17 ls []) := by
        intro n17
        induction n17 with
        | zero => intro l3 l4 l5 v_farEnd v_queue v_cameAlong H locs ls E; exact none_e E
        | succ n17 ih17 =>
          intro l3 l4 l5 v_farEnd v_queue v_cameAlong H locs ls E hP hD hS hl
          have E : FX3_lackingAt_b17 p1 p2 (FX3_lackingAt_h5 p1 p2  n5) (FX3_lackingAt_h17 p1 p2 (FX3_lackingAt_h5 p1 p2  n5) n17) l3 l4 l5 v_farEnd v_queue v_cameAlong = some u := E
          have J65 : ∀ (l3 l4 l5 : Int32) (v_farEnd v_queue v_cameAlong : Nat → Int32) (H : Heap) (locs : List Loc) (ls : Array Slot), FX3_lackingAt_b65 p1 p2 (FX3_lackingAt_h5 p1 p2  n5) (FX3_lackingAt_h17 p1 p2 (FX3_lackingAt_h5 p1 p2  n5) n17) l3 l4 l5 v_farEnd v_queue v_cameAlong = some u → va_P D vwCl (wX3 cI a0 a1 a2 a3 a4 a5 a6 a7 v_near v_tiedTo v_parts v_partCount v_carrying v_rank v_freedoms v_isStiff v_worstBy v_worstPins v_farEnd v_queue v_cameAlong) H → va_D A (wX3 cI a0 a1 a2 a3 a4 a5 a6 a7 v_near v_tiedTo v_parts v_partCount v_carrying v_rank v_freedoms v_isStiff v_worstBy v_worstPins v_farEnd v_queue v_cameAlong) → va_S A s.heap H locs → lv_has ls 6 [(0, .ref a0), (1, .int p1), (2, .int p2), (3, .int l3), (4, .int l4), (5, .int l5)] → W p l e (uR 3 78) s m args below meth c H locs 0 0 Q (F0 m 65 ls []) := by
            intro l3 l4 l5 v_farEnd v_queue v_cameAlong H locs ls E hP hD hS hl
            refine lv_iinc (v := (l5 + 1)) (lv' := [(5, .int (l5 + 1)), (0, .ref a0), (1, .int p1), (2, .int p2), (3, .int l3), (4, .int l4)]) hx hb dX3_lackingAt_65 hl (k := 5) rfl rfl (by decide) rfl (fun ls hl => ?_)
            refine lv_goto (tgt := 17) hx hb dX3_lackingAt_68 (by decide) ?_
            exact ih17 _ _ _ _ _ _ _ _ _ E hP hD hS (lv_sub hl [1, 2, 3, 4, 5, 0] rfl)
          refine lv_iload hx hb dX3_lackingAt_17 (lv_at hl 5 rfl) ?_
          refine lv_iload_n hx hb dX3_lackingAt_19 rfl (lv_at hl 1 rfl) ?_
          refine lv_icmp_ge (tgt := 71) hx hb dX3_lackingAt_20 (by decide) (fun c1 => ?_) (fun c1 => ?_)
          · have E := br_p E c1
            refine lv_iinc (v := (l4 + 1)) (lv' := [(4, .int (l4 + 1)), (0, .ref a0), (1, .int p1), (2, .int p2), (3, .int l3), (5, .int l5)]) hx hb dX3_lackingAt_71 hl (k := 4) rfl rfl (by decide) rfl (fun ls hl => ?_)
            refine lv_goto (tgt := 5) hx hb dX3_lackingAt_74 (by decide) ?_
            exact ih5 _ _ _ _ _ _ _ _ E hP hD hS (lv_sub hl [1, 2, 3, 4, 0] rfl)
          · have E := br_n E c1
            refine lv_aload_n hx hb dX3_lackingAt_23 rfl (lv_at hl 0 rfl) ?_
            refine gf_X3_12 h0 hP 0 rfl rfl dX3_lackingAt_24 ?_
            refine lv_iload hx hb dX3_lackingAt_27 (lv_at hl 4 rfl) ?_
            refine lv_iload hx hb dX3_lackingAt_29 (lv_at hl 5 rfl) ?_
            obtain ⟨r2, hF, E⟩ := bn_e E
            refine callVi (wo := (wX3 cI a0 a1 a2 a3 a4 a5 a6 a7 v_near v_tiedTo v_parts v_partCount v_carrying v_rank v_freedoms v_isStiff v_worstBy v_worstPins r2.2.1 r2.2.2.1 r2.2.2.2)) h0 (c_X1_wouldCarry l D cI cZ cS a4 a5 a6 a7 v_farEnd v_queue v_cameAlong l4 l5 r2 hF) (gV wq_333 wq_334 wq_335 wq_5 wq_336) hdX1_wouldCarry ⟨Nat.le_of_ble_eq_true rfl, Nat.le_of_ble_eq_true rfl⟩ ⟨Nat.le_refl _, Nat.le_refl _⟩ hP hD hS hA 0 1 rfl rfl rfl [4, 5, 6, 7] rfl rfl rfl rfl hl.1 rfl (Nat.le_of_ble_eq_true rfl) dX3_lackingAt_31 (fun H locs hP hD hS => ?_)
            refine lv_if_eq (tgt := 65) hx hb dX3_lackingAt_34 (by decide) (fun c3 => ?_) (fun c3 => ?_)
            · have E := br_p E c3
              exact J65 _ _ _ _ _ _ _ _ _ E hP hD hS (lv_sub hl [0, 1, 2, 3, 4, 5] rfl)
            · have E := br_n E c3
              refine lv_iload_n hx hb dX3_lackingAt_37 rfl (lv_at hl 3 rfl) ?_
              refine lv_iload_n hx hb dX3_lackingAt_38 rfl (lv_at hl 2 rfl) ?_
              refine lv_icmp_ne (tgt := 51) hx hb dX3_lackingAt_39 (by decide) (fun c4 => ?_) (fun c4 => ?_)
              · have E := br_n E c4
                refine lv_aload_n hx hb dX3_lackingAt_51 rfl (lv_at hl 0 rfl) ?_
                refine gf_X3_12 h0 hP 0 rfl rfl dX3_lackingAt_52 ?_
                refine lv_iload hx hb dX3_lackingAt_55 (lv_at hl 4 rfl) ?_
                refine lv_iload hx hb dX3_lackingAt_57 (lv_at hl 5 rfl) ?_
                obtain ⟨r5, hF, E⟩ := bn_e E
                refine callVv (wo := (wX3 cI a0 a1 a2 a3 a4 a5 a6 a7 v_near v_tiedTo v_parts v_partCount v_carrying v_rank v_freedoms v_isStiff v_worstBy v_worstPins r5 r2.2.2.1 r2.2.2.2)) h0 (c_X1_lay l D cI cZ cS a4 a5 a6 a7 r2.2.1 r2.2.2.1 r2.2.2.2 l4 l5 r5 hF) (gV wq_353 wq_354 wq_355 wq_5 wq_356) hdX1_lay ⟨Nat.le_of_ble_eq_true rfl, Nat.le_of_ble_eq_true rfl⟩ ⟨Nat.le_refl _, Nat.le_refl _⟩ hP hD hS hA 0 1 rfl rfl rfl [4, 5, 6, 7] rfl rfl rfl rfl hl.1 rfl (Nat.le_of_ble_eq_true rfl) dX3_lackingAt_59 (fun H locs hP hD hS => ?_)
                refine lv_iinc (v := (l3 + 1)) (lv' := [(3, .int (l3 + 1)), (0, .ref a0), (1, .int p1), (2, .int p2), (4, .int l4), (5, .int l5)]) hx hb dX3_lackingAt_62 hl (k := 3) rfl rfl (by decide) rfl (fun ls hl => ?_)
                exact J65 _ _ _ _ _ _ _ _ _ E hP hD hS (lv_sub hl [1, 2, 3, 0, 4, 5] rfl)
              · have E := br_p E c4
                refine lv_bipush (v := 100) hx hb dX3_lackingAt_42 (by decide) ?_
                refine lv_iload hx hb dX3_lackingAt_44 (lv_at hl 4 rfl) ?_
                refine lv_imul hx hb dX3_lackingAt_46 ?_
                refine lv_iload hx hb dX3_lackingAt_47 (lv_at hl 5 rfl) ?_
                refine lv_iadd hx hb dX3_lackingAt_49 ?_
                exact hfin _ (Option.some.inj E) _ _ _ _ hP hD hS dX3_lackingAt_50
      refine lv_iload hx hb dX3_lackingAt_5 (lv_at hl 4 rfl) ?_
      refine lv_iload_n hx hb dX3_lackingAt_7 rfl (lv_at hl 1 rfl) ?_
      refine lv_icmp_ge (tgt := 77) hx hb dX3_lackingAt_8 (by decide) (fun c6 => ?_) (fun c6 => ?_)
      · have E := br_p E c6
        refine lv_iload_n hx hb dX3_lackingAt_77 rfl (lv_at hl 2 rfl) ?_
        refine lv_iconst (v := (-1)) hx hb dX3_lackingAt_78 (by decide) ?_
        refine lv_icmp_ne (tgt := 86) hx hb dX3_lackingAt_79 (by decide) (fun c7 => ?_) (fun c7 => ?_)
        · have E := br_n E c7
          refine lv_bipush (v := (-12)) hx hb dX3_lackingAt_86 (by decide) ?_
          exact hfin _ (Option.some.inj E) _ _ _ _ hP hD hS dX3_lackingAt_88
        · have E := br_p E c7
          refine lv_iload_n hx hb dX3_lackingAt_82 rfl (lv_at hl 3 rfl) ?_
          refine lv_goto (tgt := 88) hx hb dX3_lackingAt_83 (by decide) ?_
          exact hfin _ (Option.some.inj E) _ _ _ _ hP hD hS dX3_lackingAt_88
      · have E := br_n E c6
        refine lv_iload hx hb dX3_lackingAt_11 (lv_at hl 4 rfl) ?_
        refine lv_iconst (v := 1) hx hb dX3_lackingAt_13 (by decide) ?_
        refine lv_iadd hx hb dX3_lackingAt_14 ?_
        refine lv_istore (lv' := [(5, .int (l4 + 1)), (0, .ref a0), (1, .int p1), (2, .int p2), (3, .int l3), (4, .int l4)]) hx hb dX3_lackingAt_15 hl (by decide) rfl (fun ls hl => ?_)
        exact J17 5000 _ _ _ _ _ _ _ _ _ E hP hD hS (lv_sub hl [1, 2, 3, 4, 5, 0] rfl)
  refine lv_iconst (v := 0) hx hb dX3_lackingAt_0 (by decide) ?_
  refine lv_istore_n (lv' := [(3, .int 0), (0, .ref a0), (1, .int p1), (2, .int p2)]) hx hb dX3_lackingAt_1 rfl hl (by decide) rfl (fun ls hl => ?_)
  refine lv_iconst (v := 0) hx hb dX3_lackingAt_2 (by decide) ?_
  refine lv_istore (lv' := [(4, .int 0), (3, .int 0), (0, .ref a0), (1, .int p1), (2, .int p2)]) hx hb dX3_lackingAt_3 hl (by decide) rfl (fun ls hl => ?_)
  exact J5 5000 _ _ _ _ _ _ _ _ E hP hD hS (lv_sub hl [2, 3, 4, 1, 0] rfl)
