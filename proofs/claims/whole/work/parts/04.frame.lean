theorem hdX0_pinOfName : yX0_pinOfName.cls = RX0 ∧ yX0_pinOfName.cls ≠ "java/lang/invoke/MethodHandle" ∧ yX0_pinOfName.cls ≠ "java/lang/invoke/VarHandle" ∧ (parseMethodDescriptor yX0_pinOfName.desc).map (fun d => d.parameters.length) = some 1 := by decide +kernel
noncomputable def FX0_pinOfName_b2 (p1 v_pins : Int32) (v_names : Nat → Int32)  (k2 : Int32 → Option (Int32)) (l2 : Int32) : Option (Int32) := (if v_pins ≤ l2 then (some (-1)) else (gd (vp_in l2 12) (if (v_names l2.toNatClampNeg) = p1 then (some l2) else (k2 (l2 + 1)))))
noncomputable def FX0_pinOfName_h2 (p1 v_pins : Int32) (v_names : Nat → Int32)  : Nat → Int32 → Option (Int32)
  | 0 => fun _ => none
  | n + 1 => fun l2 => FX0_pinOfName_b2 p1 v_pins v_names  (FX0_pinOfName_h2 p1 v_pins v_names  n) l2
noncomputable def FX0_pinOfName (p1 : Int32) (v_pins : Int32) (v_names : Nat → Int32) : Option (Int32) := (FX0_pinOfName_h2 p1 v_pins v_names  5000 0)
set_option maxHeartbeats 4000000 in
set_option maxRecDepth 100000 in
theorem c_X0_pinOfName (l : Launch) (D : va_G) (cI cZ cS : ClassId) (a0 a1 a2 a3 : Nat) (v_pins v_bars : Int32) (v_names v_lesser v_greater : Nat → Int32) (p1 : Int32) (u : Int32) (hF : FX0_pinOfName p1 v_pins v_names = some u) : MCi l D (tyL cI cZ cS) yX0_pinOfName cX0_pinOfName 3 (some .int) 0 0 [.ref a0, .int p1] (wX0 cI a0 a1 a2 a3 v_pins v_bars v_names v_lesser v_greater) (wX0 cI a0 a1 a2 a3 v_pins v_bars v_names v_lesser v_greater) u := by
  refine MCi.mk (by decide) (Nat.le_of_ble_eq_true rfl) ?_
  intro p e s m args below meth c A ls Q h0 hP hD hA hS hl hfin0
  have hfin : ∀ (u' : Int32), u' = u → ∀ (H : Heap) (locs : List Loc) (ls : Array Slot) (pc : Nat), va_P D vwCl (wX0 cI a0 a1 a2 a3 v_pins v_bars v_names v_lesser v_greater) H → va_D A (wX0 cI a0 a1 a2 a3 v_pins v_bars v_names v_lesser v_greater) → va_S A s.heap H locs → decode cX0_pinOfName pc = .ok (.ireturn, 1) → W p l e (uR 0 0) s m args below meth c H locs 0 0 Q (F0 m pc ls [.int u']) := by intro u' hu; subst hu; exact hfin0
  clear hfin0
  obtain ⟨hx, hb, hr, hlk, hml, hown, hts, hK⟩ := id h0
  have hl : lv_has ls 3 [(0, .ref a0), (1, .int p1)] := hl
  have E := hF
  have J2 : ∀ (n2 : Nat) (l2 : Int32) (H : Heap) (locs : List Loc) (ls : Array Slot), FX0_pinOfName_h2 p1 v_pins v_names  n2 l2 = some u → va_P D vwCl (wX0 cI a0 a1 a2 a3 v_pins v_bars v_names v_lesser v_greater) H → va_D A (wX0 cI a0 a1 a2 a3 v_pins v_bars v_names v_lesser v_greater) → va_S A s.heap H locs → lv_has ls 3 [(0, .ref a0), (1, .int p1), (2, .int l2)] → W p l e (uR 0 0) s m args below meth c H locs 0 0 Q (F0 m 2 ls []) := by
    intro n2
    induction n2 with
    | zero => intro l2 H locs ls E; exact none_e E
    | succ n2 ih2 =>
      intro l2 H locs ls E hP hD hS hl
      have E : FX0_pinOfName_b2 p1 v_pins v_names  (FX0_pinOfName_h2 p1 v_pins v_names  n2) l2 = some u := E
      refine lv_iload_n hx hb dX0_pinOfName_2 rfl (lv_at hl 2 rfl) ?_
      refine lv_aload_n hx hb dX0_pinOfName_3 rfl (lv_at hl 0 rfl) ?_
      refine gf_X0_9 h0 hP 0 rfl rfl dX0_pinOfName_4 ?_
      refine lv_icmp_ge (tgt := 28) hx hb dX0_pinOfName_7 (by decide) (fun c1 => ?_) (fun c1 => ?_)
      · have E := br_p E c1
        refine lv_iconst (v := (-1)) hx hb dX0_pinOfName_28 (by decide) ?_
        exact hfin _ (Option.some.inj E) _ _ _ _ hP hD hS dX0_pinOfName_29
      · have E := br_n E c1
        refine lv_aload_n hx hb dX0_pinOfName_10 rfl (lv_at hl 0 rfl) ?_
        refine gf_X0_18 h0 hP 0 rfl rfl dX0_pinOfName_11 ?_
        refine lv_iload_n hx hb dX0_pinOfName_14 rfl (lv_at hl 2 rfl) ?_
        obtain ⟨g2, E⟩ := gd_e E
        refine aldi hx hb hK hP 1 rfl rfl g2 dX0_pinOfName_15 ?_
        refine lv_iload_n hx hb dX0_pinOfName_16 rfl (lv_at hl 1 rfl) ?_
        refine lv_icmp_ne (tgt := 22) hx hb dX0_pinOfName_17 (by decide) (fun c3 => ?_) (fun c3 => ?_)
        · have E := br_n E c3
          refine lv_iinc (v := (l2 + 1)) (lv' := [(2, .int (l2 + 1)), (0, .ref a0), (1, .int p1)]) hx hb dX0_pinOfName_22 hl (k := 2) rfl rfl (by decide) rfl (fun ls hl => ?_)
          refine lv_goto (tgt := 2) hx hb dX0_pinOfName_25 (by decide) ?_
          exact ih2 _ _ _ _ E hP hD hS (lv_sub hl [1, 2, 0] rfl)
        · have E := br_p E c3
          refine lv_iload_n hx hb dX0_pinOfName_20 rfl (lv_at hl 2 rfl) ?_
          exact hfin _ (Option.some.inj E) _ _ _ _ hP hD hS dX0_pinOfName_21
  refine lv_iconst (v := 0) hx hb dX0_pinOfName_0 (by decide) ?_
  refine lv_istore_n (lv' := [(2, .int 0), (0, .ref a0), (1, .int p1)]) hx hb dX0_pinOfName_1 rfl hl (by decide) rfl (fun ls hl => ?_)
  exact J2 5000 _ _ _ _ E hP hD hS (lv_sub hl [1, 2, 0] rfl)
theorem hdX0_addPin : yX0_addPin.cls = RX0 ∧ yX0_addPin.cls ≠ "java/lang/invoke/MethodHandle" ∧ yX0_addPin.cls ≠ "java/lang/invoke/VarHandle" ∧ (parseMethodDescriptor yX0_addPin.desc).map (fun d => d.parameters.length) = some 1 := by decide +kernel
noncomputable def FX0_addPin (p1 : Int32) (v_pins : Int32) (v_names : Nat → Int32) : Option (Int32 × Int32 × (Nat → Int32)) := (if v_pins < 12 then (gd (vp_in v_pins 12) (some (((v_pins + 1) - 1), (v_pins + 1), (upd v_names v_pins.toNatClampNeg p1)))) else (some ((-4), v_pins, v_names)))
set_option maxHeartbeats 4000000 in
set_option maxRecDepth 100000 in
theorem c_X0_addPin (l : Launch) (D : va_G) (cI cZ cS : ClassId) (a0 a1 a2 a3 : Nat) (v_pins v_bars : Int32) (v_names v_lesser v_greater : Nat → Int32) (p1 : Int32) (u : Int32 × Int32 × (Nat → Int32)) (hF : FX0_addPin p1 v_pins v_names = some u) : MCi l D (tyL cI cZ cS) yX0_addPin cX0_addPin 2 (some .int) 0 0 [.ref a0, .int p1] (wX0 cI a0 a1 a2 a3 v_pins v_bars v_names v_lesser v_greater) (wX0 cI a0 a1 a2 a3 u.2.1 v_bars u.2.2 v_lesser v_greater) u.1 := by
  refine MCi.mk (by decide) (Nat.le_of_ble_eq_true rfl) ?_
  intro p e s m args below meth c A ls Q h0 hP hD hA hS hl hfin0
  have hfin : ∀ (u' : Int32 × Int32 × (Nat → Int32)), u' = u → ∀ (H : Heap) (locs : List Loc) (ls : Array Slot) (pc : Nat), va_P D vwCl (wX0 cI a0 a1 a2 a3 u'.2.1 v_bars u'.2.2 v_lesser v_greater) H → va_D A (wX0 cI a0 a1 a2 a3 u'.2.1 v_bars u'.2.2 v_lesser v_greater) → va_S A s.heap H locs → decode cX0_addPin pc = .ok (.ireturn, 1) → W p l e (uR 0 0) s m args below meth c H locs 0 0 Q (F0 m pc ls [.int u'.1]) := by intro u' hu; subst hu; exact hfin0
  clear hfin0
  obtain ⟨hx, hb, hr, hlk, hml, hown, hts, hK⟩ := id h0
  have hl : lv_has ls 2 [(0, .ref a0), (1, .int p1)] := hl
  have E := hF
  refine lv_aload_n hx hb dX0_addPin_0 rfl (lv_at hl 0 rfl) ?_
  refine gf_X0_9 h0 hP 0 rfl rfl dX0_addPin_1 ?_
  refine lv_bipush (v := 12) hx hb dX0_addPin_4 (by decide) ?_
  refine lv_icmp_lt (tgt := 12) hx hb dX0_addPin_6 (by decide) (fun c1 => ?_) (fun c1 => ?_)
  · have E := br_p E c1
    refine lv_aload_n hx hb dX0_addPin_12 rfl (lv_at hl 0 rfl) ?_
    refine gf_X0_18 h0 hP 0 rfl rfl dX0_addPin_13 ?_
    refine lv_aload_n hx hb dX0_addPin_16 rfl (lv_at hl 0 rfl) ?_
    refine gf_X0_9 h0 hP 0 rfl rfl dX0_addPin_17 ?_
    refine lv_iload_n hx hb dX0_addPin_20 rfl (lv_at hl 1 rfl) ?_
    obtain ⟨g2, E⟩ := gd_e E
    refine asti (wo := (wX0 cI a0 a1 a2 a3 v_pins v_bars (upd v_names v_pins.toNatClampNeg p1) v_lesser v_greater)) hx hb hK hP hD hS 1 rfl rfl g2 rfl dX0_addPin_21 (fun H locs hP hD hS => ?_)
    refine lv_aload_n hx hb dX0_addPin_22 rfl (lv_at hl 0 rfl) ?_
    refine lv_dup hx hb dX0_addPin_23 rfl ?_
    refine gf_X0_9 h0 hP 0 rfl rfl dX0_addPin_24 ?_
    refine lv_iconst (v := 1) hx hb dX0_addPin_27 (by decide) ?_
    refine lv_iadd hx hb dX0_addPin_28 ?_
    refine pf_X0_9 (wo := (wX0 cI a0 a1 a2 a3 (v_pins + 1) v_bars (upd v_names v_pins.toNatClampNeg p1) v_lesser v_greater)) h0 hP hD hS 0 rfl (Nat.le_of_ble_eq_true rfl) rfl dX0_addPin_29 (fun H locs hP hD hS => ?_)
    refine lv_aload_n hx hb dX0_addPin_32 rfl (lv_at hl 0 rfl) ?_
    refine gf_X0_9 h0 hP 0 rfl rfl dX0_addPin_33 ?_
    refine lv_iconst (v := 1) hx hb dX0_addPin_36 (by decide) ?_
    refine lv_isub hx hb dX0_addPin_37 ?_
    exact hfin _ (Option.some.inj E) _ _ _ _ hP hD hS dX0_addPin_38
  · have E := br_n E c1
    refine lv_bipush (v := (-4)) hx hb dX0_addPin_9 (by decide) ?_
    exact hfin _ (Option.some.inj E) _ _ _ _ hP hD hS dX0_addPin_11
theorem hdX0_placeOf : yX0_placeOf.cls = RX0 ∧ yX0_placeOf.cls ≠ "java/lang/invoke/MethodHandle" ∧ yX0_placeOf.cls ≠ "java/lang/invoke/VarHandle" ∧ (parseMethodDescriptor yX0_placeOf.desc).map (fun d => d.parameters.length) = some 2 := by decide +kernel
noncomputable def FX0_placeOf_b51 (p1 p2 v_bars : Int32) (v_lesser v_greater : Nat → Int32) (k16 : Int32 → Int32 → Int32 → Option (Int32)) (l3 l4 l5 : Int32) : Option (Int32) := (k16 l3 l4 (l5 + 1))
noncomputable def FX0_placeOf_b16 (p1 p2 v_bars : Int32) (v_lesser v_greater : Nat → Int32)  (k16 : Int32 → Int32 → Int32 → Option (Int32)) (l3 l4 l5 : Int32) : Option (Int32) := (if v_bars ≤ l5 then (some (-1)) else (gd (vp_in l5 24) (if (v_lesser l5.toNatClampNeg) = l3 then (gd (vp_in l5 24) (if (v_greater l5.toNatClampNeg) = l4 then (some l5) else (FX0_placeOf_b51 p1 p2 v_bars v_lesser v_greater k16 l3 l4 l5))) else (FX0_placeOf_b51 p1 p2 v_bars v_lesser v_greater k16 l3 l4 l5))))
noncomputable def FX0_placeOf_h16 (p1 p2 v_bars : Int32) (v_lesser v_greater : Nat → Int32)  : Nat → Int32 → Int32 → Int32 → Option (Int32)
  | 0 => fun _ _ _ => none
  | n + 1 => fun l3 l4 l5 => FX0_placeOf_b16 p1 p2 v_bars v_lesser v_greater  (FX0_placeOf_h16 p1 p2 v_bars v_lesser v_greater  n) l3 l4 l5
noncomputable def FX0_placeOf (p1 p2 : Int32) (v_bars : Int32) (v_lesser v_greater : Nat → Int32) : Option (Int32) := (FX0_placeOf_h16 p1 p2 v_bars v_lesser v_greater  5000 (if p2 < p1 then p2 else p1) (if p1 < p2 then p2 else p1) 0)
set_option maxHeartbeats 4000000 in
set_option maxRecDepth 100000 in
theorem c_X0_placeOf (l : Launch) (D : va_G) (cI cZ cS : ClassId) (a0 a1 a2 a3 : Nat) (v_pins v_bars : Int32) (v_names v_lesser v_greater : Nat → Int32) (p1 p2 : Int32) (u : Int32) (hF : FX0_placeOf p1 p2 v_bars v_lesser v_greater = some u) : MCi l D (tyL cI cZ cS) yX0_placeOf cX0_placeOf 6 (some .int) 1 21 [.ref a0, .int p1, .int p2] (wX0 cI a0 a1 a2 a3 v_pins v_bars v_names v_lesser v_greater) (wX0 cI a0 a1 a2 a3 v_pins v_bars v_names v_lesser v_greater) u := by
  refine MCi.mk (by decide) (Nat.le_of_ble_eq_true rfl) ?_
  intro p e s m args below meth c A ls Q h0 hP hD hA hS hl hfin0
  have hfin : ∀ (u' : Int32), u' = u → ∀ (H : Heap) (locs : List Loc) (ls : Array Slot) (pc : Nat), va_P D vwCl (wX0 cI a0 a1 a2 a3 v_pins v_bars v_names v_lesser v_greater) H → va_D A (wX0 cI a0 a1 a2 a3 v_pins v_bars v_names v_lesser v_greater) → va_S A s.heap H locs → decode cX0_placeOf pc = .ok (.ireturn, 1) → W p l e (uR 1 21) s m args below meth c H locs 0 0 Q (F0 m pc ls [.int u']) := by intro u' hu; subst hu; exact hfin0
  clear hfin0
  obtain ⟨hx, hb, hr, hlk, hml, hown, hts, hK⟩ := id h0
  have hl : lv_has ls 6 [(0, .ref a0), (1, .int p1), (2, .int p2)] := hl
  have E := hF
  have J16 : ∀ (n16 : Nat) (l3 l4 l5 : Int32) (H : Heap) (locs : List Loc) (ls : Array Slot), FX0_placeOf_h16 p1 p2 v_bars v_lesser v_greater  n16 l3 l4 l5 = some u → va_P D vwCl (wX0 cI a0 a1 a2 a3 v_pins v_bars v_names v_lesser v_greater) H → va_D A (wX0 cI a0 a1 a2 a3 v_pins v_bars v_names v_lesser v_greater) → va_S A s.heap H locs → lv_has ls 6 [(0, .ref a0), (3, .int l3), (4, .int l4), (5, .int l5)] → W p l e (uR 1 21) s m args below meth c H locs 0 0 Q (F0 m 16 ls []) := by
    intro n16
    induction n16 with
    | zero => intro l3 l4 l5 H locs ls E; exact none_e E
    | succ n16 ih16 =>
      intro l3 l4 l5 H locs ls E hP hD hS hl
      have E : FX0_placeOf_b16 p1 p2 v_bars v_lesser v_greater  (FX0_placeOf_h16 p1 p2 v_bars v_lesser v_greater  n16) l3 l4 l5 = some u := E
      have J51 : ∀ (l3 l4 l5 : Int32) (H : Heap) (locs : List Loc) (ls : Array Slot), FX0_placeOf_b51 p1 p2 v_bars v_lesser v_greater (FX0_placeOf_h16 p1 p2 v_bars v_lesser v_greater  n16) l3 l4 l5 = some u → va_P D vwCl (wX0 cI a0 a1 a2 a3 v_pins v_bars v_names v_lesser v_greater) H → va_D A (wX0 cI a0 a1 a2 a3 v_pins v_bars v_names v_lesser v_greater) → va_S A s.heap H locs → lv_has ls 6 [(0, .ref a0), (3, .int l3), (4, .int l4), (5, .int l5)] → W p l e (uR 1 21) s m args below meth c H locs 0 0 Q (F0 m 51 ls []) := by
        intro l3 l4 l5 H locs ls E hP hD hS hl
        refine lv_iinc (v := (l5 + 1)) (lv' := [(5, .int (l5 + 1)), (0, .ref a0), (3, .int l3), (4, .int l4)]) hx hb dX0_placeOf_51 hl (k := 3) rfl rfl (by decide) rfl (fun ls hl => ?_)
        refine lv_goto (tgt := 16) hx hb dX0_placeOf_54 (by decide) ?_
        exact ih16 _ _ _ _ _ _ E hP hD hS (lv_sub hl [1, 2, 3, 0] rfl)
      refine lv_iload hx hb dX0_placeOf_16 (lv_at hl 3 rfl) ?_
      refine lv_aload_n hx hb dX0_placeOf_18 rfl (lv_at hl 0 rfl) ?_
      refine gf_X0_15 h0 hP 0 rfl rfl dX0_placeOf_19 ?_
      refine lv_icmp_ge (tgt := 57) hx hb dX0_placeOf_22 (by decide) (fun c1 => ?_) (fun c1 => ?_)
      · have E := br_p E c1
        refine lv_iconst (v := (-1)) hx hb dX0_placeOf_57 (by decide) ?_
        exact hfin _ (Option.some.inj E) _ _ _ _ hP hD hS dX0_placeOf_58
      · have E := br_n E c1
        refine lv_aload_n hx hb dX0_placeOf_25 rfl (lv_at hl 0 rfl) ?_
        refine gf_X0_22 h0 hP 0 rfl rfl dX0_placeOf_26 ?_
        refine lv_iload hx hb dX0_placeOf_29 (lv_at hl 3 rfl) ?_
        obtain ⟨g2, E⟩ := gd_e E
        refine aldi hx hb hK hP 2 rfl rfl g2 dX0_placeOf_31 ?_
        refine lv_iload_n hx hb dX0_placeOf_32 rfl (lv_at hl 1 rfl) ?_
        refine lv_icmp_ne (tgt := 51) hx hb dX0_placeOf_33 (by decide) (fun c3 => ?_) (fun c3 => ?_)
        · have E := br_n E c3
          exact J51 _ _ _ _ _ _ E hP hD hS (lv_sub hl [0, 1, 2, 3] rfl)
        · have E := br_p E c3
          refine lv_aload_n hx hb dX0_placeOf_36 rfl (lv_at hl 0 rfl) ?_
          refine gf_X0_25 h0 hP 0 rfl rfl dX0_placeOf_37 ?_
          refine lv_iload hx hb dX0_placeOf_40 (lv_at hl 3 rfl) ?_
          obtain ⟨g4, E⟩ := gd_e E
          refine aldi hx hb hK hP 3 rfl rfl g4 dX0_placeOf_42 ?_
          refine lv_iload hx hb dX0_placeOf_43 (lv_at hl 2 rfl) ?_
          refine lv_icmp_ne (tgt := 51) hx hb dX0_placeOf_45 (by decide) (fun c5 => ?_) (fun c5 => ?_)
          · have E := br_n E c5
            exact J51 _ _ _ _ _ _ E hP hD hS (lv_sub hl [0, 1, 2, 3] rfl)
          · have E := br_p E c5
            refine lv_iload hx hb dX0_placeOf_48 (lv_at hl 3 rfl) ?_
            exact hfin _ (Option.some.inj E) _ _ _ _ hP hD hS dX0_placeOf_50
  refine lv_iload_n hx hb dX0_placeOf_0 rfl (lv_at hl 1 rfl) ?_
  refine lv_iload_n hx hb dX0_placeOf_1 rfl (lv_at hl 2 rfl) ?_
  refine va_mmin hx hb (hml.trans hl.1.symm) hown (hts _ wq_284) (hts _ wq_285) (hts _ wq_9) (hts _ wq_286) (Nat.le_of_ble_eq_true rfl) (Nat.le_of_ble_eq_true rfl) (Nat.le_refl _) (Nat.le_refl _) dX0_placeOf_2 ?_
  refine lv_istore_n (lv' := [(3, .int (if p2 < p1 then p2 else p1)), (0, .ref a0), (1, .int p1), (2, .int p2)]) hx hb dX0_placeOf_5 rfl hl (by decide) rfl (fun ls hl => ?_)
  refine lv_iload_n hx hb dX0_placeOf_6 rfl (lv_at hl 2 rfl) ?_
  refine lv_iload_n hx hb dX0_placeOf_7 rfl (lv_at hl 3 rfl) ?_
  refine va_mmax hx hb (hml.trans hl.1.symm) hown (hts _ wq_287) (hts _ wq_288) (hts _ wq_9) (hts _ wq_289) (Nat.le_of_ble_eq_true rfl) (Nat.le_of_ble_eq_true rfl) (Nat.le_refl _) (Nat.le_refl _) dX0_placeOf_8 ?_
  refine lv_istore (lv' := [(4, .int (if p1 < p2 then p2 else p1)), (3, .int (if p2 < p1 then p2 else p1)), (0, .ref a0), (1, .int p1), (2, .int p2)]) hx hb dX0_placeOf_11 hl (by decide) rfl (fun ls hl => ?_)
  refine lv_iconst (v := 0) hx hb dX0_placeOf_13 (by decide) ?_
  refine lv_istore (lv' := [(5, .int 0), (4, .int (if p1 < p2 then p2 else p1)), (3, .int (if p2 < p1 then p2 else p1)), (0, .ref a0), (1, .int p1), (2, .int p2)]) hx hb dX0_placeOf_14 hl (by decide) rfl (fun ls hl => ?_)
  exact J16 5000 _ _ _ _ _ _ E hP hD hS (lv_sub hl [3, 2, 1, 0] rfl)
theorem hdX0_addBar : yX0_addBar.cls = RX0 ∧ yX0_addBar.cls ≠ "java/lang/invoke/MethodHandle" ∧ yX0_addBar.cls ≠ "java/lang/invoke/VarHandle" ∧ (parseMethodDescriptor yX0_addBar.desc).map (fun d => d.parameters.length) = some 2 := by decide +kernel
noncomputable def FX0_addBar (p1 p2 : Int32) (v_bars : Int32) (v_lesser v_greater : Nat → Int32) : Option (Int32 × Int32 × (Nat → Int32) × (Nat → Int32)) := (if v_bars < 24 then (gd (vp_in v_bars 24) (gd (vp_in v_bars 24) (some (((v_bars + 1) - 1), (v_bars + 1), (upd v_lesser v_bars.toNatClampNeg (if p2 < p1 then p2 else p1)), (upd v_greater v_bars.toNatClampNeg (if p1 < p2 then p2 else p1)))))) else (some ((-4), v_bars, v_lesser, v_greater)))
set_option maxHeartbeats 4000000 in
set_option maxRecDepth 100000 in
theorem c_X0_addBar (l : Launch) (D : va_G) (cI cZ cS : ClassId) (a0 a1 a2 a3 : Nat) (v_pins v_bars : Int32) (v_names v_lesser v_greater : Nat → Int32) (p1 p2 : Int32) (u : Int32 × Int32 × (Nat → Int32) × (Nat → Int32)) (hF : FX0_addBar p1 p2 v_bars v_lesser v_greater = some u) : MCi l D (tyL cI cZ cS) yX0_addBar cX0_addBar 3 (some .int) 1 21 [.ref a0, .int p1, .int p2] (wX0 cI a0 a1 a2 a3 v_pins v_bars v_names v_lesser v_greater) (wX0 cI a0 a1 a2 a3 v_pins u.2.1 v_names u.2.2.1 u.2.2.2) u.1 := by
  refine MCi.mk (by decide) (Nat.le_of_ble_eq_true rfl) ?_
  intro p e s m args below meth c A ls Q h0 hP hD hA hS hl hfin0
  have hfin : ∀ (u' : Int32 × Int32 × (Nat → Int32) × (Nat → Int32)), u' = u → ∀ (H : Heap) (locs : List Loc) (ls : Array Slot) (pc : Nat), va_P D vwCl (wX0 cI a0 a1 a2 a3 v_pins u'.2.1 v_names u'.2.2.1 u'.2.2.2) H → va_D A (wX0 cI a0 a1 a2 a3 v_pins u'.2.1 v_names u'.2.2.1 u'.2.2.2) → va_S A s.heap H locs → decode cX0_addBar pc = .ok (.ireturn, 1) → W p l e (uR 1 21) s m args below meth c H locs 0 0 Q (F0 m pc ls [.int u'.1]) := by intro u' hu; subst hu; exact hfin0
  clear hfin0
  obtain ⟨hx, hb, hr, hlk, hml, hown, hts, hK⟩ := id h0
  have hl : lv_has ls 3 [(0, .ref a0), (1, .int p1), (2, .int p2)] := hl
  have E := hF
  refine lv_aload_n hx hb dX0_addBar_0 rfl (lv_at hl 0 rfl) ?_
  refine gf_X0_15 h0 hP 0 rfl rfl dX0_addBar_1 ?_
  refine lv_bipush (v := 24) hx hb dX0_addBar_4 (by decide) ?_
  refine lv_icmp_lt (tgt := 12) hx hb dX0_addBar_6 (by decide) (fun c1 => ?_) (fun c1 => ?_)
  · have E := br_p E c1
    refine lv_aload_n hx hb dX0_addBar_12 rfl (lv_at hl 0 rfl) ?_
    refine gf_X0_22 h0 hP 0 rfl rfl dX0_addBar_13 ?_
    refine lv_aload_n hx hb dX0_addBar_16 rfl (lv_at hl 0 rfl) ?_
    refine gf_X0_15 h0 hP 0 rfl rfl dX0_addBar_17 ?_
    refine lv_iload_n hx hb dX0_addBar_20 rfl (lv_at hl 1 rfl) ?_
    refine lv_iload_n hx hb dX0_addBar_21 rfl (lv_at hl 2 rfl) ?_
    refine va_mmin hx hb (hml.trans hl.1.symm) hown (hts _ wq_284) (hts _ wq_285) (hts _ wq_9) (hts _ wq_286) (Nat.le_of_ble_eq_true rfl) (Nat.le_of_ble_eq_true rfl) (Nat.le_refl _) (Nat.le_refl _) dX0_addBar_22 ?_
    obtain ⟨g2, E⟩ := gd_e E
    refine asti (wo := (wX0 cI a0 a1 a2 a3 v_pins v_bars v_names (upd v_lesser v_bars.toNatClampNeg (if p2 < p1 then p2 else p1)) v_greater)) hx hb hK hP hD hS 2 rfl rfl g2 rfl dX0_addBar_25 (fun H locs hP hD hS => ?_)
    refine lv_aload_n hx hb dX0_addBar_26 rfl (lv_at hl 0 rfl) ?_
    refine gf_X0_25 h0 hP 0 rfl rfl dX0_addBar_27 ?_
    refine lv_aload_n hx hb dX0_addBar_30 rfl (lv_at hl 0 rfl) ?_
    refine gf_X0_15 h0 hP 0 rfl rfl dX0_addBar_31 ?_
    refine lv_iload_n hx hb dX0_addBar_34 rfl (lv_at hl 1 rfl) ?_
    refine lv_iload_n hx hb dX0_addBar_35 rfl (lv_at hl 2 rfl) ?_
    refine va_mmax hx hb (hml.trans hl.1.symm) hown (hts _ wq_287) (hts _ wq_288) (hts _ wq_9) (hts _ wq_289) (Nat.le_of_ble_eq_true rfl) (Nat.le_of_ble_eq_true rfl) (Nat.le_refl _) (Nat.le_refl _) dX0_addBar_36 ?_
    obtain ⟨g3, E⟩ := gd_e E
    refine asti (wo := (wX0 cI a0 a1 a2 a3 v_pins v_bars v_names (upd v_lesser v_bars.toNatClampNeg (if p2 < p1 then p2 else p1)) (upd v_greater v_bars.toNatClampNeg (if p1 < p2 then p2 else p1)))) hx hb hK hP hD hS 3 rfl rfl g3 rfl dX0_addBar_39 (fun H locs hP hD hS => ?_)
    refine lv_aload_n hx hb dX0_addBar_40 rfl (lv_at hl 0 rfl) ?_
    refine lv_dup hx hb dX0_addBar_41 rfl ?_
    refine gf_X0_15 h0 hP 0 rfl rfl dX0_addBar_42 ?_
    refine lv_iconst (v := 1) hx hb dX0_addBar_45 (by decide) ?_
    refine lv_iadd hx hb dX0_addBar_46 ?_
    refine pf_X0_15 (wo := (wX0 cI a0 a1 a2 a3 v_pins (v_bars + 1) v_names (upd v_lesser v_bars.toNatClampNeg (if p2 < p1 then p2 else p1)) (upd v_greater v_bars.toNatClampNeg (if p1 < p2 then p2 else p1)))) h0 hP hD hS 0 rfl (Nat.le_of_ble_eq_true rfl) rfl dX0_addBar_47 (fun H locs hP hD hS => ?_)
    refine lv_aload_n hx hb dX0_addBar_50 rfl (lv_at hl 0 rfl) ?_
    refine gf_X0_15 h0 hP 0 rfl rfl dX0_addBar_51 ?_
    refine lv_iconst (v := 1) hx hb dX0_addBar_54 (by decide) ?_
    refine lv_isub hx hb dX0_addBar_55 ?_
    exact hfin _ (Option.some.inj E) _ _ _ _ hP hD hS dX0_addBar_56
  · have E := br_n E c1
    refine lv_bipush (v := (-4)) hx hb dX0_addBar_9 (by decide) ?_
    exact hfin _ (Option.some.inj E) _ _ _ _ hP hD hS dX0_addBar_11
theorem hdX0_dropBar : yX0_dropBar.cls = RX0 ∧ yX0_dropBar.cls ≠ "java/lang/invoke/MethodHandle" ∧ yX0_dropBar.cls ≠ "java/lang/invoke/VarHandle" ∧ (parseMethodDescriptor yX0_dropBar.desc).map (fun d => d.parameters.length) = some 1 := by decide +kernel
noncomputable def FX0_dropBar_b2 (p1 : Int32)  (k2 : Int32 → Int32 → (Nat → Int32) → (Nat → Int32) → Option (Int32 × (Nat → Int32) × (Nat → Int32))) (l2 v_bars : Int32) (v_lesser v_greater : Nat → Int32) : Option (Int32 × (Nat → Int32) × (Nat → Int32)) := (if v_bars ≤ (l2 + 1) then (some ((v_bars - 1), v_lesser, v_greater)) else (gd (vp_in (l2 + 1) 24) (gd (vp_in l2 24) (gd (vp_in (l2 + 1) 24) (gd (vp_in l2 24) (k2 (l2 + 1) v_bars (upd v_lesser l2.toNatClampNeg (v_lesser (l2 + 1).toNatClampNeg)) (upd v_greater l2.toNatClampNeg (v_greater (l2 + 1).toNatClampNeg))))))))
noncomputable def FX0_dropBar_h2 (p1 : Int32)  : Nat → Int32 → Int32 → (Nat → Int32) → (Nat → Int32) → Option (Int32 × (Nat → Int32) × (Nat → Int32))
  | 0 => fun _ _ _ _ => none
  | n + 1 => fun l2 v_bars v_lesser v_greater => FX0_dropBar_b2 p1  (FX0_dropBar_h2 p1  n) l2 v_bars v_lesser v_greater
noncomputable def FX0_dropBar (p1 : Int32) (v_bars : Int32) (v_lesser v_greater : Nat → Int32) : Option (Int32 × (Nat → Int32) × (Nat → Int32)) := (FX0_dropBar_h2 p1  5000 p1 v_bars v_lesser v_greater)
set_option maxHeartbeats 4000000 in
set_option maxRecDepth 100000 in
theorem c_X0_dropBar (l : Launch) (D : va_G) (cI cZ cS : ClassId) (a0 a1 a2 a3 : Nat) (v_pins v_bars : Int32) (v_names v_lesser v_greater : Nat → Int32) (p1 : Int32) (u : Int32 × (Nat → Int32) × (Nat → Int32)) (hF : FX0_dropBar p1 v_bars v_lesser v_greater = some u) : MCv l D (tyL cI cZ cS) yX0_dropBar cX0_dropBar 3 none 0 0 [.ref a0, .int p1] (wX0 cI a0 a1 a2 a3 v_pins v_bars v_names v_lesser v_greater) (wX0 cI a0 a1 a2 a3 v_pins u.1 v_names u.2.1 u.2.2) := by
  refine MCv.mk (by decide) (Nat.le_of_ble_eq_true rfl) ?_
  intro p e s m args below meth c A ls Q h0 hP hD hA hS hl hfin0
  have hfin : ∀ (u' : Int32 × (Nat → Int32) × (Nat → Int32)), u' = u → ∀ (H : Heap) (locs : List Loc) (ls : Array Slot) (pc : Nat), va_P D vwCl (wX0 cI a0 a1 a2 a3 v_pins u'.1 v_names u'.2.1 u'.2.2) H → va_D A (wX0 cI a0 a1 a2 a3 v_pins u'.1 v_names u'.2.1 u'.2.2) → va_S A s.heap H locs → decode cX0_dropBar pc = .ok (.return_, 1) → W p l e (uR 0 0) s m args below meth c H locs 0 0 Q (F0 m pc ls []) := by intro u' hu; subst hu; exact hfin0
  clear hfin0
  obtain ⟨hx, hb, hr, hlk, hml, hown, hts, hK⟩ := id h0
  have hl : lv_has ls 3 [(0, .ref a0), (1, .int p1)] := hl
  have E := hF
  have J2 : ∀ (n2 : Nat) (l2 v_bars : Int32) (v_lesser v_greater : Nat → Int32) (H : Heap) (locs : List Loc) (ls : Array Slot), FX0_dropBar_h2 p1  n2 l2 v_bars v_lesser v_greater = some u → va_P D vwCl (wX0 cI a0 a1 a2 a3 v_pins v_bars v_names v_lesser v_greater) H → va_D A (wX0 cI a0 a1 a2 a3 v_pins v_bars v_names v_lesser v_greater) → va_S A s.heap H locs → lv_has ls 3 [(0, .ref a0), (2, .int l2)] → W p l e (uR 0 0) s m args below meth c H locs 0 0 Q (F0 m 2 ls []) := by
    intro n2
    induction n2 with
    | zero => intro l2 v_bars v_lesser v_greater H locs ls E; exact none_e E
    | succ n2 ih2 =>
      intro l2 v_bars v_lesser v_greater H locs ls E hP hD hS hl
      have E : FX0_dropBar_b2 p1  (FX0_dropBar_h2 p1  n2) l2 v_bars v_lesser v_greater = some u := E
      refine lv_iload_n hx hb dX0_dropBar_2 rfl (lv_at hl 1 rfl) ?_
      refine lv_iconst (v := 1) hx hb dX0_dropBar_3 (by decide) ?_
      refine lv_iadd hx hb dX0_dropBar_4 ?_
      refine lv_aload_n hx hb dX0_dropBar_5 rfl (lv_at hl 0 rfl) ?_
      refine gf_X0_15 h0 hP 0 rfl rfl dX0_dropBar_6 ?_
      refine lv_icmp_ge (tgt := 46) hx hb dX0_dropBar_9 (by decide) (fun c1 => ?_) (fun c1 => ?_)
      · have E := br_p E c1
        refine lv_aload_n hx hb dX0_dropBar_46 rfl (lv_at hl 0 rfl) ?_
        refine lv_dup hx hb dX0_dropBar_47 rfl ?_
        refine gf_X0_15 h0 hP 0 rfl rfl dX0_dropBar_48 ?_
        refine lv_iconst (v := 1) hx hb dX0_dropBar_51 (by decide) ?_
        refine lv_isub hx hb dX0_dropBar_52 ?_
        refine pf_X0_15 (wo := (wX0 cI a0 a1 a2 a3 v_pins (v_bars - 1) v_names v_lesser v_greater)) h0 hP hD hS 0 rfl (Nat.le_of_ble_eq_true rfl) rfl dX0_dropBar_53 (fun H locs hP hD hS => ?_)
        exact hfin _ (Option.some.inj E) _ _ _ _ hP hD hS dX0_dropBar_56
      · have E := br_n E c1
        refine lv_aload_n hx hb dX0_dropBar_12 rfl (lv_at hl 0 rfl) ?_
        refine gf_X0_22 h0 hP 0 rfl rfl dX0_dropBar_13 ?_
        refine lv_iload_n hx hb dX0_dropBar_16 rfl (lv_at hl 1 rfl) ?_
        refine lv_aload_n hx hb dX0_dropBar_17 rfl (lv_at hl 0 rfl) ?_
        refine gf_X0_22 h0 hP 0 rfl rfl dX0_dropBar_18 ?_
        refine lv_iload_n hx hb dX0_dropBar_21 rfl (lv_at hl 1 rfl) ?_
        refine lv_iconst (v := 1) hx hb dX0_dropBar_22 (by decide) ?_
        refine lv_iadd hx hb dX0_dropBar_23 ?_
        obtain ⟨g2, E⟩ := gd_e E
        refine aldi hx hb hK hP 2 rfl rfl g2 dX0_dropBar_24 ?_
        obtain ⟨g3, E⟩ := gd_e E
        refine asti (wo := (wX0 cI a0 a1 a2 a3 v_pins v_bars v_names (upd v_lesser l2.toNatClampNeg (v_lesser (l2 + 1).toNatClampNeg)) v_greater)) hx hb hK hP hD hS 2 rfl rfl g3 rfl dX0_dropBar_25 (fun H locs hP hD hS => ?_)
        refine lv_aload_n hx hb dX0_dropBar_26 rfl (lv_at hl 0 rfl) ?_
        refine gf_X0_25 h0 hP 0 rfl rfl dX0_dropBar_27 ?_
        refine lv_iload_n hx hb dX0_dropBar_30 rfl (lv_at hl 1 rfl) ?_
        refine lv_aload_n hx hb dX0_dropBar_31 rfl (lv_at hl 0 rfl) ?_
        refine gf_X0_25 h0 hP 0 rfl rfl dX0_dropBar_32 ?_
        refine lv_iload_n hx hb dX0_dropBar_35 rfl (lv_at hl 1 rfl) ?_
        refine lv_iconst (v := 1) hx hb dX0_dropBar_36 (by decide) ?_
        refine lv_iadd hx hb dX0_dropBar_37 ?_
        obtain ⟨g4, E⟩ := gd_e E
        refine aldi hx hb hK hP 3 rfl rfl g4 dX0_dropBar_38 ?_
        obtain ⟨g5, E⟩ := gd_e E
        refine asti (wo := (wX0 cI a0 a1 a2 a3 v_pins v_bars v_names (upd v_lesser l2.toNatClampNeg (v_lesser (l2 + 1).toNatClampNeg)) (upd v_greater l2.toNatClampNeg (v_greater (l2 + 1).toNatClampNeg)))) hx hb hK hP hD hS 3 rfl rfl g5 rfl dX0_dropBar_39 (fun H locs hP hD hS => ?_)
        refine lv_iinc (v := (l2 + 1)) (lv' := [(2, .int (l2 + 1)), (0, .ref a0)]) hx hb dX0_dropBar_40 hl (k := 1) rfl rfl (by decide) rfl (fun ls hl => ?_)
        refine lv_goto (tgt := 2) hx hb dX0_dropBar_43 (by decide) ?_
        exact ih2 _ _ _ _ _ _ _ E hP hD hS (lv_sub hl [1, 0] rfl)
  refine lv_iload_n hx hb dX0_dropBar_0 rfl (lv_at hl 1 rfl) ?_
  refine lv_istore_n (lv' := [(2, .int p1), (0, .ref a0), (1, .int p1)]) hx hb dX0_dropBar_1 rfl hl (by decide) rfl (fun ls hl => ?_)
  exact J2 5000 _ _ _ _ _ _ _ E hP hD hS (lv_sub hl [1, 0] rfl)
theorem hdX0_neighbours : yX0_neighbours.cls = RX0 ∧ yX0_neighbours.cls ≠ "java/lang/invoke/MethodHandle" ∧ yX0_neighbours.cls ≠ "java/lang/invoke/VarHandle" ∧ (parseMethodDescriptor yX0_neighbours.desc).map (fun d => d.parameters.length) = some 1 := by decide +kernel
noncomputable def FX0_neighbours_b57 (p1 v_bars : Int32) (v_lesser v_greater : Nat → Int32) (k4 : Int32 → Int32 → Option (Int32)) (l2 l3 : Int32) : Option (Int32) := (k4 l2 (l3 + 1))
noncomputable def FX0_neighbours_b4 (p1 v_bars : Int32) (v_lesser v_greater : Nat → Int32)  (k4 : Int32 → Int32 → Option (Int32)) (l2 l3 : Int32) : Option (Int32) := (if v_bars ≤ l3 then (some l2) else (gd (vp_in l3 24) (if (v_lesser l3.toNatClampNeg) = p1 then (gd (vp_in l3 24) (FX0_neighbours_b57 p1 v_bars v_lesser v_greater k4 (l2 ||| ((1 : Int32) <<< ((v_greater l3.toNatClampNeg) &&& 31))) l3)) else (gd (vp_in l3 24) (if (v_greater l3.toNatClampNeg) = p1 then (gd (vp_in l3 24) (FX0_neighbours_b57 p1 v_bars v_lesser v_greater k4 (l2 ||| ((1 : Int32) <<< ((v_lesser l3.toNatClampNeg) &&& 31))) l3)) else (FX0_neighbours_b57 p1 v_bars v_lesser v_greater k4 l2 l3))))))
noncomputable def FX0_neighbours_h4 (p1 v_bars : Int32) (v_lesser v_greater : Nat → Int32)  : Nat → Int32 → Int32 → Option (Int32)
  | 0 => fun _ _ => none
  | n + 1 => fun l2 l3 => FX0_neighbours_b4 p1 v_bars v_lesser v_greater  (FX0_neighbours_h4 p1 v_bars v_lesser v_greater  n) l2 l3
noncomputable def FX0_neighbours (p1 : Int32) (v_bars : Int32) (v_lesser v_greater : Nat → Int32) : Option (Int32) := (FX0_neighbours_h4 p1 v_bars v_lesser v_greater  5000 0 0)
set_option maxHeartbeats 4000000 in
set_option maxRecDepth 100000 in
theorem c_X0_neighbours (l : Launch) (D : va_G) (cI cZ cS : ClassId) (a0 a1 a2 a3 : Nat) (v_pins v_bars : Int32) (v_names v_lesser v_greater : Nat → Int32) (p1 : Int32) (u : Int32) (hF : FX0_neighbours p1 v_bars v_lesser v_greater = some u) : MCi l D (tyL cI cZ cS) yX0_neighbours cX0_neighbours 4 (some .int) 0 0 [.ref a0, .int p1] (wX0 cI a0 a1 a2 a3 v_pins v_bars v_names v_lesser v_greater) (wX0 cI a0 a1 a2 a3 v_pins v_bars v_names v_lesser v_greater) u := by
  refine MCi.mk (by decide) (Nat.le_of_ble_eq_true rfl) ?_
  intro p e s m args below meth c A ls Q h0 hP hD hA hS hl hfin0
  have hfin : ∀ (u' : Int32), u' = u → ∀ (H : Heap) (locs : List Loc) (ls : Array Slot) (pc : Nat), va_P D vwCl (wX0 cI a0 a1 a2 a3 v_pins v_bars v_names v_lesser v_greater) H → va_D A (wX0 cI a0 a1 a2 a3 v_pins v_bars v_names v_lesser v_greater) → va_S A s.heap H locs → decode cX0_neighbours pc = .ok (.ireturn, 1) → W p l e (uR 0 0) s m args below meth c H locs 0 0 Q (F0 m pc ls [.int u']) := by intro u' hu; subst hu; exact hfin0
  clear hfin0
  obtain ⟨hx, hb, hr, hlk, hml, hown, hts, hK⟩ := id h0
  have hl : lv_has ls 4 [(0, .ref a0), (1, .int p1)] := hl
  have E := hF
  have J4 : ∀ (n4 : Nat) (l2 l3 : Int32) (H : Heap) (locs : List Loc) (ls : Array Slot), FX0_neighbours_h4 p1 v_bars v_lesser v_greater  n4 l2 l3 = some u → va_P D vwCl (wX0 cI a0 a1 a2 a3 v_pins v_bars v_names v_lesser v_greater) H → va_D A (wX0 cI a0 a1 a2 a3 v_pins v_bars v_names v_lesser v_greater) → va_S A s.heap H locs → lv_has ls 4 [(0, .ref a0), (1, .int p1), (2, .int l2), (3, .int l3)] → W p l e (uR 0 0) s m args below meth c H locs 0 0 Q (F0 m 4 ls []) := by
    intro n4
    induction n4 with
    | zero => intro l2 l3 H locs ls E; exact none_e E
    | succ n4 ih4 =>
      intro l2 l3 H locs ls E hP hD hS hl
      have E : FX0_neighbours_b4 p1 v_bars v_lesser v_greater  (FX0_neighbours_h4 p1 v_bars v_lesser v_greater  n4) l2 l3 = some u := E
      have J57 : ∀ (l2 l3 : Int32) (H : Heap) (locs : List Loc) (ls : Array Slot), FX0_neighbours_b57 p1 v_bars v_lesser v_greater (FX0_neighbours_h4 p1 v_bars v_lesser v_greater  n4) l2 l3 = some u → va_P D vwCl (wX0 cI a0 a1 a2 a3 v_pins v_bars v_names v_lesser v_greater) H → va_D A (wX0 cI a0 a1 a2 a3 v_pins v_bars v_names v_lesser v_greater) → va_S A s.heap H locs → lv_has ls 4 [(0, .ref a0), (1, .int p1), (2, .int l2), (3, .int l3)] → W p l e (uR 0 0) s m args below meth c H locs 0 0 Q (F0 m 57 ls []) := by
        intro l2 l3 H locs ls E hP hD hS hl
        refine lv_iinc (v := (l3 + 1)) (lv' := [(3, .int (l3 + 1)), (0, .ref a0), (1, .int p1), (2, .int l2)]) hx hb dX0_neighbours_57 hl (k := 3) rfl rfl (by decide) rfl (fun ls hl => ?_)
        refine lv_goto (tgt := 4) hx hb dX0_neighbours_60 (by decide) ?_
        exact ih4 _ _ _ _ _ E hP hD hS (lv_sub hl [1, 2, 3, 0] rfl)
      refine lv_iload_n hx hb dX0_neighbours_4 rfl (lv_at hl 3 rfl) ?_
      refine lv_aload_n hx hb dX0_neighbours_5 rfl (lv_at hl 0 rfl) ?_
      refine gf_X0_15 h0 hP 0 rfl rfl dX0_neighbours_6 ?_
      refine lv_icmp_ge (tgt := 63) hx hb dX0_neighbours_9 (by decide) (fun c1 => ?_) (fun c1 => ?_)
      · have E := br_p E c1
        refine lv_iload_n hx hb dX0_neighbours_63 rfl (lv_at hl 2 rfl) ?_
        exact hfin _ (Option.some.inj E) _ _ _ _ hP hD hS dX0_neighbours_64
      · have E := br_n E c1
        refine lv_aload_n hx hb dX0_neighbours_12 rfl (lv_at hl 0 rfl) ?_
        refine gf_X0_22 h0 hP 0 rfl rfl dX0_neighbours_13 ?_
        refine lv_iload_n hx hb dX0_neighbours_16 rfl (lv_at hl 3 rfl) ?_
        obtain ⟨g2, E⟩ := gd_e E
        refine aldi hx hb hK hP 2 rfl rfl g2 dX0_neighbours_17 ?_
        refine lv_iload_n hx hb dX0_neighbours_18 rfl (lv_at hl 1 rfl) ?_
        refine lv_icmp_ne (tgt := 36) hx hb dX0_neighbours_19 (by decide) (fun c3 => ?_) (fun c3 => ?_)
        · have E := br_n E c3
          refine lv_aload_n hx hb dX0_neighbours_36 rfl (lv_at hl 0 rfl) ?_
          refine gf_X0_25 h0 hP 0 rfl rfl dX0_neighbours_37 ?_
          refine lv_iload_n hx hb dX0_neighbours_40 rfl (lv_at hl 3 rfl) ?_
          obtain ⟨g4, E⟩ := gd_e E
          refine aldi hx hb hK hP 3 rfl rfl g4 dX0_neighbours_41 ?_
          refine lv_iload_n hx hb dX0_neighbours_42 rfl (lv_at hl 1 rfl) ?_
          refine lv_icmp_ne (tgt := 57) hx hb dX0_neighbours_43 (by decide) (fun c5 => ?_) (fun c5 => ?_)
          · have E := br_n E c5
            exact J57 _ _ _ _ _ E hP hD hS (lv_sub hl [0, 1, 2, 3] rfl)
          · have E := br_p E c5
            refine lv_iload_n hx hb dX0_neighbours_46 rfl (lv_at hl 2 rfl) ?_
            refine lv_iconst (v := 1) hx hb dX0_neighbours_47 (by decide) ?_
            refine lv_aload_n hx hb dX0_neighbours_48 rfl (lv_at hl 0 rfl) ?_
            refine gf_X0_22 h0 hP 0 rfl rfl dX0_neighbours_49 ?_
            refine lv_iload_n hx hb dX0_neighbours_52 rfl (lv_at hl 3 rfl) ?_
            obtain ⟨g6, E⟩ := gd_e E
            refine aldi hx hb hK hP 2 rfl rfl g6 dX0_neighbours_53 ?_
            refine lv_ishl hx hb dX0_neighbours_54 ?_
            refine lv_ior hx hb dX0_neighbours_55 ?_
            refine lv_istore_n (lv' := [(2, .int (l2 ||| ((1 : Int32) <<< ((v_lesser l3.toNatClampNeg) &&& 31)))), (0, .ref a0), (1, .int p1), (3, .int l3)]) hx hb dX0_neighbours_56 rfl hl (by decide) rfl (fun ls hl => ?_)
            exact J57 _ _ _ _ _ E hP hD hS (lv_sub hl [1, 2, 0, 3] rfl)
        · have E := br_p E c3
          refine lv_iload_n hx hb dX0_neighbours_22 rfl (lv_at hl 2 rfl) ?_
          refine lv_iconst (v := 1) hx hb dX0_neighbours_23 (by decide) ?_
          refine lv_aload_n hx hb dX0_neighbours_24 rfl (lv_at hl 0 rfl) ?_
          refine gf_X0_25 h0 hP 0 rfl rfl dX0_neighbours_25 ?_
          refine lv_iload_n hx hb dX0_neighbours_28 rfl (lv_at hl 3 rfl) ?_
          obtain ⟨g7, E⟩ := gd_e E
          refine aldi hx hb hK hP 3 rfl rfl g7 dX0_neighbours_29 ?_
          refine lv_ishl hx hb dX0_neighbours_30 ?_
          refine lv_ior hx hb dX0_neighbours_31 ?_
          refine lv_istore_n (lv' := [(2, .int (l2 ||| ((1 : Int32) <<< ((v_greater l3.toNatClampNeg) &&& 31)))), (0, .ref a0), (1, .int p1), (3, .int l3)]) hx hb dX0_neighbours_32 rfl hl (by decide) rfl (fun ls hl => ?_)
          refine lv_goto (tgt := 57) hx hb dX0_neighbours_33 (by decide) ?_
          exact J57 _ _ _ _ _ E hP hD hS (lv_sub hl [1, 2, 0, 3] rfl)
  refine lv_iconst (v := 0) hx hb dX0_neighbours_0 (by decide) ?_
  refine lv_istore_n (lv' := [(2, .int 0), (0, .ref a0), (1, .int p1)]) hx hb dX0_neighbours_1 rfl hl (by decide) rfl (fun ls hl => ?_)
  refine lv_iconst (v := 0) hx hb dX0_neighbours_2 (by decide) ?_
  refine lv_istore_n (lv' := [(3, .int 0), (2, .int 0), (0, .ref a0), (1, .int p1)]) hx hb dX0_neighbours_3 rfl hl (by decide) rfl (fun ls hl => ?_)
  exact J4 5000 _ _ _ _ _ E hP hD hS (lv_sub hl [2, 3, 1, 0] rfl)
theorem hdX0_letters : yX0_letters.cls = RX0 ∧ yX0_letters.cls ≠ "java/lang/invoke/MethodHandle" ∧ yX0_letters.cls ≠ "java/lang/invoke/VarHandle" ∧ (parseMethodDescriptor yX0_letters.desc).map (fun d => d.parameters.length) = some 1 := by decide +kernel
noncomputable def FX0_letters_b9 (p1 : Int32) (v_names : Nat → Int32)  (k9 : Int32 → Int32 → Option (Int32)) (l2 l3 : Int32) : Option (Int32) := (if l3 = 0 then (some l2) else (if 4 ≤ l2 then (some l2) else (k9 (l2 + 1) (l3 >>> ((8 : Int32) &&& 31)))))
noncomputable def FX0_letters_h9 (p1 : Int32) (v_names : Nat → Int32)  : Nat → Int32 → Int32 → Option (Int32)
  | 0 => fun _ _ => none
  | n + 1 => fun l2 l3 => FX0_letters_b9 p1 v_names  (FX0_letters_h9 p1 v_names  n) l2 l3
noncomputable def FX0_letters (p1 : Int32) (v_names : Nat → Int32) : Option (Int32) := (gd (vp_in p1 12) (FX0_letters_h9 p1 v_names  5000 0 (v_names p1.toNatClampNeg)))
set_option maxHeartbeats 4000000 in
set_option maxRecDepth 100000 in
theorem c_X0_letters (l : Launch) (D : va_G) (cI cZ cS : ClassId) (a0 a1 a2 a3 : Nat) (v_pins v_bars : Int32) (v_names v_lesser v_greater : Nat → Int32) (p1 : Int32) (u : Int32) (hF : FX0_letters p1 v_names = some u) : MCi l D (tyL cI cZ cS) yX0_letters cX0_letters 4 (some .int) 0 0 [.ref a0, .int p1] (wX0 cI a0 a1 a2 a3 v_pins v_bars v_names v_lesser v_greater) (wX0 cI a0 a1 a2 a3 v_pins v_bars v_names v_lesser v_greater) u := by
  refine MCi.mk (by decide) (Nat.le_of_ble_eq_true rfl) ?_
  intro p e s m args below meth c A ls Q h0 hP hD hA hS hl hfin0
  have hfin : ∀ (u' : Int32), u' = u → ∀ (H : Heap) (locs : List Loc) (ls : Array Slot) (pc : Nat), va_P D vwCl (wX0 cI a0 a1 a2 a3 v_pins v_bars v_names v_lesser v_greater) H → va_D A (wX0 cI a0 a1 a2 a3 v_pins v_bars v_names v_lesser v_greater) → va_S A s.heap H locs → decode cX0_letters pc = .ok (.ireturn, 1) → W p l e (uR 0 0) s m args below meth c H locs 0 0 Q (F0 m pc ls [.int u']) := by intro u' hu; subst hu; exact hfin0
  clear hfin0
  obtain ⟨hx, hb, hr, hlk, hml, hown, hts, hK⟩ := id h0
  have hl : lv_has ls 4 [(0, .ref a0), (1, .int p1)] := hl
  have E := hF
  have J9 : ∀ (n9 : Nat) (l2 l3 : Int32) (H : Heap) (locs : List Loc) (ls : Array Slot), FX0_letters_h9 p1 v_names  n9 l2 l3 = some u → va_P D vwCl (wX0 cI a0 a1 a2 a3 v_pins v_bars v_names v_lesser v_greater) H → va_D A (wX0 cI a0 a1 a2 a3 v_pins v_bars v_names v_lesser v_greater) → va_S A s.heap H locs → lv_has ls 4 [(2, .int l2), (3, .int l3)] → W p l e (uR 0 0) s m args below meth c H locs 0 0 Q (F0 m 9 ls []) := by
    intro n9
    induction n9 with
    | zero => intro l2 l3 H locs ls E; exact none_e E
    | succ n9 ih9 =>
      intro l2 l3 H locs ls E hP hD hS hl
      have E : FX0_letters_b9 p1 v_names  (FX0_letters_h9 p1 v_names  n9) l2 l3 = some u := E
      refine lv_iload_n hx hb dX0_letters_9 rfl (lv_at hl 1 rfl) ?_
      refine lv_if_eq (tgt := 29) hx hb dX0_letters_10 (by decide) (fun c1 => ?_) (fun c1 => ?_)
      · have E := br_p E c1
        refine lv_iload_n hx hb dX0_letters_29 rfl (lv_at hl 0 rfl) ?_
        exact hfin _ (Option.some.inj E) _ _ _ _ hP hD hS dX0_letters_30
      · have E := br_n E c1
        refine lv_iload_n hx hb dX0_letters_13 rfl (lv_at hl 0 rfl) ?_
        refine lv_iconst (v := 4) hx hb dX0_letters_14 (by decide) ?_
        refine lv_icmp_ge (tgt := 29) hx hb dX0_letters_15 (by decide) (fun c2 => ?_) (fun c2 => ?_)
        · have E := br_p E c2
          refine lv_iload_n hx hb dX0_letters_29 rfl (lv_at hl 0 rfl) ?_
          exact hfin _ (Option.some.inj E) _ _ _ _ hP hD hS dX0_letters_30
        · have E := br_n E c2
          refine lv_iinc (v := (l2 + 1)) (lv' := [(2, .int (l2 + 1)), (3, .int l3)]) hx hb dX0_letters_18 hl (k := 0) rfl rfl (by decide) rfl (fun ls hl => ?_)
          refine lv_iload_n hx hb dX0_letters_21 rfl (lv_at hl 1 rfl) ?_
          refine lv_bipush (v := 8) hx hb dX0_letters_22 (by decide) ?_
          refine lv_ishr hx hb dX0_letters_24 ?_
          refine lv_istore_n (lv' := [(3, .int (l3 >>> ((8 : Int32) &&& 31))), (2, .int (l2 + 1))]) hx hb dX0_letters_25 rfl hl (by decide) rfl (fun ls hl => ?_)
          refine lv_goto (tgt := 9) hx hb dX0_letters_26 (by decide) ?_
          exact ih9 _ _ _ _ _ E hP hD hS (lv_sub hl [1, 0] rfl)
  refine lv_iconst (v := 0) hx hb dX0_letters_0 (by decide) ?_
  refine lv_istore_n (lv' := [(2, .int 0), (0, .ref a0), (1, .int p1)]) hx hb dX0_letters_1 rfl hl (by decide) rfl (fun ls hl => ?_)
  refine lv_aload_n hx hb dX0_letters_2 rfl (lv_at hl 1 rfl) ?_
  refine gf_X0_18 h0 hP 0 rfl rfl dX0_letters_3 ?_
  refine lv_iload_n hx hb dX0_letters_6 rfl (lv_at hl 2 rfl) ?_
  obtain ⟨g3, E⟩ := gd_e E
  refine aldi hx hb hK hP 1 rfl rfl g3 dX0_letters_7 ?_
  refine lv_istore_n (lv' := [(3, .int (v_names p1.toNatClampNeg)), (2, .int 0), (0, .ref a0), (1, .int p1)]) hx hb dX0_letters_8 rfl hl (by decide) rfl (fun ls hl => ?_)
  exact J9 5000 _ _ _ _ _ E hP hD hS (lv_sub hl [1, 0] rfl)
theorem hdX0_letter : yX0_letter.cls = RX0 ∧ yX0_letter.cls ≠ "java/lang/invoke/MethodHandle" ∧ yX0_letter.cls ≠ "java/lang/invoke/VarHandle" ∧ (parseMethodDescriptor yX0_letter.desc).map (fun d => d.parameters.length) = some 2 := by decide +kernel
noncomputable def FX0_letter (p1 p2 : Int32) (v_names : Nat → Int32) : Option (Int32) := ((FX0_letters p1 v_names).bind (fun r1 => (if 0 ≤ ((r1 - 1) - p2) then (gd (vp_in p1 12) (some (((v_names p1.toNatClampNeg) >>> ((8 * ((r1 - 1) - p2)) &&& 31)) &&& 255))) else (some (-1)))))
set_option maxHeartbeats 4000000 in
set_option maxRecDepth 100000 in
theorem c_X0_letter (l : Launch) (D : va_G) (cI cZ cS : ClassId) (a0 a1 a2 a3 : Nat) (v_pins v_bars : Int32) (v_names v_lesser v_greater : Nat → Int32) (p1 p2 : Int32) (u : Int32) (hF : FX0_letter p1 p2 v_names = some u) : MCi l D (tyL cI cZ cS) yX0_letter cX0_letter 4 (some .int) 1 23 [.ref a0, .int p1, .int p2] (wX0 cI a0 a1 a2 a3 v_pins v_bars v_names v_lesser v_greater) (wX0 cI a0 a1 a2 a3 v_pins v_bars v_names v_lesser v_greater) u := by
  refine MCi.mk (by decide) (Nat.le_of_ble_eq_true rfl) ?_
  intro p e s m args below meth c A ls Q h0 hP hD hA hS hl hfin0
  have hfin : ∀ (u' : Int32), u' = u → ∀ (H : Heap) (locs : List Loc) (ls : Array Slot) (pc : Nat), va_P D vwCl (wX0 cI a0 a1 a2 a3 v_pins v_bars v_names v_lesser v_greater) H → va_D A (wX0 cI a0 a1 a2 a3 v_pins v_bars v_names v_lesser v_greater) → va_S A s.heap H locs → decode cX0_letter pc = .ok (.ireturn, 1) → W p l e (uR 1 23) s m args below meth c H locs 0 0 Q (F0 m pc ls [.int u']) := by intro u' hu; subst hu; exact hfin0
  clear hfin0
  obtain ⟨hx, hb, hr, hlk, hml, hown, hts, hK⟩ := id h0
  have hl : lv_has ls 4 [(0, .ref a0), (1, .int p1), (2, .int p2)] := hl
  have E := hF
  refine lv_aload_n hx hb dX0_letter_0 rfl (lv_at hl 0 rfl) ?_
  refine lv_iload_n hx hb dX0_letter_1 rfl (lv_at hl 1 rfl) ?_
  obtain ⟨r1, hF, E⟩ := bn_e E
  refine callVfi (wo := (wX0 cI a0 a1 a2 a3 v_pins v_bars v_names v_lesser v_greater)) h0 (c_X0_letters l D cI cZ cS a0 a1 a2 a3 v_pins v_bars v_names v_lesser v_greater p1 r1 hF) (gV wq_409 wq_402 wq_403 wq_2 wq_404) hdX0_letters ⟨Nat.le_of_ble_eq_true rfl, Nat.le_of_ble_eq_true rfl⟩ ⟨Nat.le_refl _, Nat.le_refl _⟩ hP hD hS hA 0 0 rfl rfl rfl hl.1 rfl (Nat.le_of_ble_eq_true rfl) dX0_letter_2 (fun H locs hP hD hS => ?_)
  refine lv_iconst (v := 1) hx hb dX0_letter_5 (by decide) ?_
  refine lv_isub hx hb dX0_letter_6 ?_
  refine lv_iload_n hx hb dX0_letter_7 rfl (lv_at hl 2 rfl) ?_
  refine lv_isub hx hb dX0_letter_8 ?_
  refine lv_istore_n (lv' := [(3, .int ((r1 - 1) - p2)), (0, .ref a0), (1, .int p1), (2, .int p2)]) hx hb dX0_letter_9 rfl hl (by decide) rfl (fun ls hl => ?_)
  refine lv_iload_n hx hb dX0_letter_10 rfl (lv_at hl 0 rfl) ?_
  refine lv_if_ge (tgt := 18) hx hb dX0_letter_11 (by decide) (fun c2 => ?_) (fun c2 => ?_)
  · have E := br_p E c2
    refine lv_aload_n hx hb dX0_letter_18 rfl (lv_at hl 1 rfl) ?_
    refine gf_X0_18 h0 hP 0 rfl rfl dX0_letter_19 ?_
    refine lv_iload_n hx hb dX0_letter_22 rfl (lv_at hl 2 rfl) ?_
    obtain ⟨g3, E⟩ := gd_e E
    refine aldi hx hb hK hP 1 rfl rfl g3 dX0_letter_23 ?_
    refine lv_bipush (v := 8) hx hb dX0_letter_24 (by decide) ?_
    refine lv_iload_n hx hb dX0_letter_26 rfl (lv_at hl 0 rfl) ?_
    refine lv_imul hx hb dX0_letter_27 ?_
    refine lv_ishr hx hb dX0_letter_28 ?_
    refine lv_sipush (v := 255) hx hb dX0_letter_29 (by decide) ?_
    refine lv_iand hx hb dX0_letter_32 ?_
    exact hfin _ (Option.some.inj E) _ _ _ _ hP hD hS dX0_letter_33
  · have E := br_n E c2
    refine lv_iconst (v := (-1)) hx hb dX0_letter_14 (by decide) ?_
    refine lv_goto (tgt := 33) hx hb dX0_letter_15 (by decide) ?_
    exact hfin _ (Option.some.inj E) _ _ _ _ hP hD hS dX0_letter_33
theorem hdX0_barSize : yX0_barSize.cls = RX0 ∧ yX0_barSize.cls ≠ "java/lang/invoke/MethodHandle" ∧ yX0_barSize.cls ≠ "java/lang/invoke/VarHandle" ∧ (parseMethodDescriptor yX0_barSize.desc).map (fun d => d.parameters.length) = some 1 := by decide +kernel
noncomputable def FX0_barSize (p1 : Int32) (v_names v_lesser v_greater : Nat → Int32) : Option (Int32) := (gd (vp_in p1 24) ((FX0_letters (v_lesser p1.toNatClampNeg) v_names).bind (fun r2 => (gd (vp_in p1 24) ((FX0_letters (v_greater p1.toNatClampNeg) v_names).bind (fun r4 => (some ((r2 + 1) + r4))))))))
set_option maxHeartbeats 4000000 in
set_option maxRecDepth 100000 in
theorem c_X0_barSize (l : Launch) (D : va_G) (cI cZ cS : ClassId) (a0 a1 a2 a3 : Nat) (v_pins v_bars : Int32) (v_names v_lesser v_greater : Nat → Int32) (p1 : Int32) (u : Int32) (hF : FX0_barSize p1 v_names v_lesser v_greater = some u) : MCi l D (tyL cI cZ cS) yX0_barSize cX0_barSize 2 (some .int) 1 23 [.ref a0, .int p1] (wX0 cI a0 a1 a2 a3 v_pins v_bars v_names v_lesser v_greater) (wX0 cI a0 a1 a2 a3 v_pins v_bars v_names v_lesser v_greater) u := by
  refine MCi.mk (by decide) (Nat.le_of_ble_eq_true rfl) ?_
  intro p e s m args below meth c A ls Q h0 hP hD hA hS hl hfin0
  have hfin : ∀ (u' : Int32), u' = u → ∀ (H : Heap) (locs : List Loc) (ls : Array Slot) (pc : Nat), va_P D vwCl (wX0 cI a0 a1 a2 a3 v_pins v_bars v_names v_lesser v_greater) H → va_D A (wX0 cI a0 a1 a2 a3 v_pins v_bars v_names v_lesser v_greater) → va_S A s.heap H locs → decode cX0_barSize pc = .ok (.ireturn, 1) → W p l e (uR 1 23) s m args below meth c H locs 0 0 Q (F0 m pc ls [.int u']) := by intro u' hu; subst hu; exact hfin0
  clear hfin0
  obtain ⟨hx, hb, hr, hlk, hml, hown, hts, hK⟩ := id h0
  have hl : lv_has ls 2 [(0, .ref a0), (1, .int p1)] := hl
  have E := hF
  refine lv_aload_n hx hb dX0_barSize_0 rfl (lv_at hl 0 rfl) ?_
  refine lv_aload_n hx hb dX0_barSize_1 rfl (lv_at hl 0 rfl) ?_
  refine gf_X0_22 h0 hP 0 rfl rfl dX0_barSize_2 ?_
  refine lv_iload_n hx hb dX0_barSize_5 rfl (lv_at hl 1 rfl) ?_
  obtain ⟨g1, E⟩ := gd_e E
  refine aldi hx hb hK hP 2 rfl rfl g1 dX0_barSize_6 ?_
  obtain ⟨r2, hF, E⟩ := bn_e E
  refine callVfi (wo := (wX0 cI a0 a1 a2 a3 v_pins v_bars v_names v_lesser v_greater)) h0 (c_X0_letters l D cI cZ cS a0 a1 a2 a3 v_pins v_bars v_names v_lesser v_greater (v_lesser p1.toNatClampNeg) r2 hF) (gV wq_409 wq_402 wq_403 wq_2 wq_404) hdX0_letters ⟨Nat.le_of_ble_eq_true rfl, Nat.le_of_ble_eq_true rfl⟩ ⟨Nat.le_refl _, Nat.le_refl _⟩ hP hD hS hA 0 0 rfl rfl rfl hl.1 rfl (Nat.le_of_ble_eq_true rfl) dX0_barSize_7 (fun H locs hP hD hS => ?_)
  refine lv_iconst (v := 1) hx hb dX0_barSize_10 (by decide) ?_
  refine lv_iadd hx hb dX0_barSize_11 ?_
  refine lv_aload_n hx hb dX0_barSize_12 rfl (lv_at hl 0 rfl) ?_
  refine lv_aload_n hx hb dX0_barSize_13 rfl (lv_at hl 0 rfl) ?_
  refine gf_X0_25 h0 hP 0 rfl rfl dX0_barSize_14 ?_
  refine lv_iload_n hx hb dX0_barSize_17 rfl (lv_at hl 1 rfl) ?_
  obtain ⟨g3, E⟩ := gd_e E
  refine aldi hx hb hK hP 3 rfl rfl g3 dX0_barSize_18 ?_
  obtain ⟨r4, hF, E⟩ := bn_e E
  refine callVfi (wo := (wX0 cI a0 a1 a2 a3 v_pins v_bars v_names v_lesser v_greater)) h0 (c_X0_letters l D cI cZ cS a0 a1 a2 a3 v_pins v_bars v_names v_lesser v_greater (v_greater p1.toNatClampNeg) r4 hF) (gV wq_409 wq_402 wq_403 wq_2 wq_404) hdX0_letters ⟨Nat.le_of_ble_eq_true rfl, Nat.le_of_ble_eq_true rfl⟩ ⟨Nat.le_refl _, Nat.le_refl _⟩ hP hD hS hA 0 0 rfl rfl rfl hl.1 rfl (Nat.le_of_ble_eq_true rfl) dX0_barSize_19 (fun H locs hP hD hS => ?_)
  refine lv_iadd hx hb dX0_barSize_22 ?_
  exact hfin _ (Option.some.inj E) _ _ _ _ hP hD hS dX0_barSize_23
theorem hdX0_barLetter : yX0_barLetter.cls = RX0 ∧ yX0_barLetter.cls ≠ "java/lang/invoke/MethodHandle" ∧ yX0_barLetter.cls ≠ "java/lang/invoke/VarHandle" ∧ (parseMethodDescriptor yX0_barLetter.desc).map (fun d => d.parameters.length) = some 2 := by decide +kernel
noncomputable def FX0_barLetter (p1 p2 : Int32) (v_names v_lesser v_greater : Nat → Int32) : Option (Int32) := (gd (vp_in p1 24) ((FX0_letters (v_lesser p1.toNatClampNeg) v_names).bind (fun r2 => (if r2 ≤ p2 then (if p2 = r2 then (some 45) else (gd (vp_in p1 24) ((FX0_letter (v_greater p1.toNatClampNeg) ((p2 - r2) - 1) v_names).bind (fun r6 => (some r6))))) else (gd (vp_in p1 24) ((FX0_letter (v_lesser p1.toNatClampNeg) p2 v_names).bind (fun r8 => (some r8))))))))
set_option maxHeartbeats 4000000 in
set_option maxRecDepth 100000 in
theorem c_X0_barLetter (l : Launch) (D : va_G) (cI cZ cS : ClassId) (a0 a1 a2 a3 : Nat) (v_pins v_bars : Int32) (v_names v_lesser v_greater : Nat → Int32) (p1 p2 : Int32) (u : Int32) (hF : FX0_barLetter p1 p2 v_names v_lesser v_greater = some u) : MCi l D (tyL cI cZ cS) yX0_barLetter cX0_barLetter 4 (some .int) 2 46 [.ref a0, .int p1, .int p2] (wX0 cI a0 a1 a2 a3 v_pins v_bars v_names v_lesser v_greater) (wX0 cI a0 a1 a2 a3 v_pins v_bars v_names v_lesser v_greater) u := by
  refine MCi.mk (by decide) (Nat.le_of_ble_eq_true rfl) ?_
  intro p e s m args below meth c A ls Q h0 hP hD hA hS hl hfin0
  have hfin : ∀ (u' : Int32), u' = u → ∀ (H : Heap) (locs : List Loc) (ls : Array Slot) (pc : Nat), va_P D vwCl (wX0 cI a0 a1 a2 a3 v_pins v_bars v_names v_lesser v_greater) H → va_D A (wX0 cI a0 a1 a2 a3 v_pins v_bars v_names v_lesser v_greater) → va_S A s.heap H locs → decode cX0_barLetter pc = .ok (.ireturn, 1) → W p l e (uR 2 46) s m args below meth c H locs 0 0 Q (F0 m pc ls [.int u']) := by intro u' hu; subst hu; exact hfin0
  clear hfin0
  obtain ⟨hx, hb, hr, hlk, hml, hown, hts, hK⟩ := id h0
  have hl : lv_has ls 4 [(0, .ref a0), (1, .int p1), (2, .int p2)] := hl
  have E := hF
  refine lv_aload_n hx hb dX0_barLetter_0 rfl (lv_at hl 0 rfl) ?_
  refine lv_aload_n hx hb dX0_barLetter_1 rfl (lv_at hl 0 rfl) ?_
  refine gf_X0_22 h0 hP 0 rfl rfl dX0_barLetter_2 ?_
  refine lv_iload_n hx hb dX0_barLetter_5 rfl (lv_at hl 1 rfl) ?_
  obtain ⟨g1, E⟩ := gd_e E
  refine aldi hx hb hK hP 2 rfl rfl g1 dX0_barLetter_6 ?_
  obtain ⟨r2, hF, E⟩ := bn_e E
  refine callVfi (wo := (wX0 cI a0 a1 a2 a3 v_pins v_bars v_names v_lesser v_greater)) h0 (c_X0_letters l D cI cZ cS a0 a1 a2 a3 v_pins v_bars v_names v_lesser v_greater (v_lesser p1.toNatClampNeg) r2 hF) (gV wq_409 wq_402 wq_403 wq_2 wq_404) hdX0_letters ⟨Nat.le_of_ble_eq_true rfl, Nat.le_of_ble_eq_true rfl⟩ ⟨Nat.le_refl _, Nat.le_refl _⟩ hP hD hS hA 0 0 rfl rfl rfl hl.1 rfl (Nat.le_of_ble_eq_true rfl) dX0_barLetter_7 (fun H locs hP hD hS => ?_)
  refine lv_istore_n (lv' := [(3, .int r2), (0, .ref a0), (1, .int p1), (2, .int p2)]) hx hb dX0_barLetter_10 rfl hl (by decide) rfl (fun ls hl => ?_)
  refine lv_iload_n hx hb dX0_barLetter_11 rfl (lv_at hl 3 rfl) ?_
  refine lv_iload_n hx hb dX0_barLetter_12 rfl (lv_at hl 0 rfl) ?_
  refine lv_icmp_ge (tgt := 28) hx hb dX0_barLetter_13 (by decide) (fun c3 => ?_) (fun c3 => ?_)
  · have E := br_p E c3
    refine lv_iload_n hx hb dX0_barLetter_28 rfl (lv_at hl 3 rfl) ?_
    refine lv_iload_n hx hb dX0_barLetter_29 rfl (lv_at hl 0 rfl) ?_
    refine lv_icmp_ne (tgt := 38) hx hb dX0_barLetter_30 (by decide) (fun c4 => ?_) (fun c4 => ?_)
    · have E := br_n E c4
      refine lv_aload_n hx hb dX0_barLetter_38 rfl (lv_at hl 1 rfl) ?_
      refine lv_aload_n hx hb dX0_barLetter_39 rfl (lv_at hl 1 rfl) ?_
      refine gf_X0_25 h0 hP 0 rfl rfl dX0_barLetter_40 ?_
      refine lv_iload_n hx hb dX0_barLetter_43 rfl (lv_at hl 2 rfl) ?_
      obtain ⟨g5, E⟩ := gd_e E
      refine aldi hx hb hK hP 3 rfl rfl g5 dX0_barLetter_44 ?_
      refine lv_iload_n hx hb dX0_barLetter_45 rfl (lv_at hl 3 rfl) ?_
      refine lv_iload_n hx hb dX0_barLetter_46 rfl (lv_at hl 0 rfl) ?_
      refine lv_isub hx hb dX0_barLetter_47 ?_
      refine lv_iconst (v := 1) hx hb dX0_barLetter_48 (by decide) ?_
      refine lv_isub hx hb dX0_barLetter_49 ?_
      obtain ⟨r6, hF, E⟩ := bn_e E
      refine callVfi (wo := (wX0 cI a0 a1 a2 a3 v_pins v_bars v_names v_lesser v_greater)) h0 (c_X0_letter l D cI cZ cS a0 a1 a2 a3 v_pins v_bars v_names v_lesser v_greater (v_greater p1.toNatClampNeg) ((p2 - r2) - 1) r6 hF) (gV wq_519 wq_406 wq_407 wq_2 wq_408) hdX0_letter ⟨Nat.le_of_ble_eq_true rfl, Nat.le_of_ble_eq_true rfl⟩ ⟨Nat.le_refl _, Nat.le_refl _⟩ hP hD hS hA 0 0 rfl rfl rfl hl.1 rfl (Nat.le_of_ble_eq_true rfl) dX0_barLetter_50 (fun H locs hP hD hS => ?_)
      exact hfin _ (Option.some.inj E) _ _ _ _ hP hD hS dX0_barLetter_53
    · have E := br_p E c4
      refine lv_bipush (v := 45) hx hb dX0_barLetter_33 (by decide) ?_
      refine lv_goto (tgt := 53) hx hb dX0_barLetter_35 (by decide) ?_
      exact hfin _ (Option.some.inj E) _ _ _ _ hP hD hS dX0_barLetter_53
  · have E := br_n E c3
    refine lv_aload_n hx hb dX0_barLetter_16 rfl (lv_at hl 1 rfl) ?_
    refine lv_aload_n hx hb dX0_barLetter_17 rfl (lv_at hl 1 rfl) ?_
    refine gf_X0_22 h0 hP 0 rfl rfl dX0_barLetter_18 ?_
    refine lv_iload_n hx hb dX0_barLetter_21 rfl (lv_at hl 2 rfl) ?_
    obtain ⟨g7, E⟩ := gd_e E
    refine aldi hx hb hK hP 2 rfl rfl g7 dX0_barLetter_22 ?_
    refine lv_iload_n hx hb dX0_barLetter_23 rfl (lv_at hl 3 rfl) ?_
    obtain ⟨r8, hF, E⟩ := bn_e E
    refine callVfi (wo := (wX0 cI a0 a1 a2 a3 v_pins v_bars v_names v_lesser v_greater)) h0 (c_X0_letter l D cI cZ cS a0 a1 a2 a3 v_pins v_bars v_names v_lesser v_greater (v_lesser p1.toNatClampNeg) p2 r8 hF) (gV wq_519 wq_406 wq_407 wq_2 wq_408) hdX0_letter ⟨Nat.le_of_ble_eq_true rfl, Nat.le_of_ble_eq_true rfl⟩ ⟨Nat.le_refl _, Nat.le_refl _⟩ hP hD hS hA 0 0 rfl rfl rfl hl.1 rfl (Nat.le_of_ble_eq_true rfl) dX0_barLetter_24 (fun H locs hP hD hS => ?_)
    exact hfin _ (Option.some.inj E) _ _ _ _ hP hD hS dX0_barLetter_27
theorem hdX0_takeFrom : yX0_takeFrom.cls = RX0 ∧ yX0_takeFrom.cls ≠ "java/lang/invoke/MethodHandle" ∧ yX0_takeFrom.cls ≠ "java/lang/invoke/VarHandle" ∧ (parseMethodDescriptor yX0_takeFrom.desc).map (fun d => d.parameters.length) = some 1 := by decide +kernel
noncomputable def FX0_takeFrom (v_pins v_bars : Int32) (v_names v_lesser v_greater : Nat → Int32) (w_pins w_bars : Int32) (w_names w_lesser w_greater : Nat → Int32) : Option (Int32 × Int32 × (Nat → Int32) × (Nat → Int32) × (Nat → Int32)) := (gd (¬ (0 : Int32) < 0 ∧ ¬ (0 : Int32) < 0 ∧ ¬ (12 : Int32) < 0 ∧ (0 : Int32).toNatClampNeg + (12 : Int32).toNatClampNeg ≤ 12 ∧ (0 : Int32).toNatClampNeg + (12 : Int32).toNatClampNeg ≤ 12) (gd (¬ (0 : Int32) < 0 ∧ ¬ (0 : Int32) < 0 ∧ ¬ (24 : Int32) < 0 ∧ (0 : Int32).toNatClampNeg + (24 : Int32).toNatClampNeg ≤ 24 ∧ (0 : Int32).toNatClampNeg + (24 : Int32).toNatClampNeg ≤ 24) (gd (¬ (0 : Int32) < 0 ∧ ¬ (0 : Int32) < 0 ∧ ¬ (24 : Int32) < 0 ∧ (0 : Int32).toNatClampNeg + (24 : Int32).toNatClampNeg ≤ 24 ∧ (0 : Int32).toNatClampNeg + (24 : Int32).toNatClampNeg ≤ 24) (some (w_pins, w_bars, (va_cpy w_names v_names ((0 : Int32).toNatClampNeg) ((0 : Int32).toNatClampNeg) ((12 : Int32).toNatClampNeg)), (va_cpy w_lesser v_lesser ((0 : Int32).toNatClampNeg) ((0 : Int32).toNatClampNeg) ((24 : Int32).toNatClampNeg)), (va_cpy w_greater v_greater ((0 : Int32).toNatClampNeg) ((0 : Int32).toNatClampNeg) ((24 : Int32).toNatClampNeg)))))))
set_option maxHeartbeats 4000000 in
set_option maxRecDepth 100000 in
theorem c_X0_takeFrom (l : Launch) (D : va_G) (cI cZ cS : ClassId) (a0 a1 a2 a3 a4 a5 a6 a7 : Nat) (v_pins v_bars : Int32) (v_names v_lesser v_greater : Nat → Int32) (w_pins w_bars : Int32) (w_names w_lesser w_greater : Nat → Int32)  (u : Int32 × Int32 × (Nat → Int32) × (Nat → Int32) × (Nat → Int32)) (hF : FX0_takeFrom v_pins v_bars v_names v_lesser v_greater w_pins w_bars w_names w_lesser w_greater = some u) : MCv l D (tyL cI cZ cS) yX0_takeFrom cX0_takeFrom 2 none 1 200 [.ref a0, .ref a4] (wX0 cI a0 a1 a2 a3 v_pins v_bars v_names v_lesser v_greater ++ wX0 cI a4 a5 a6 a7 w_pins w_bars w_names w_lesser w_greater) (wX0 cI a0 a1 a2 a3 u.1 u.2.1 u.2.2.1 u.2.2.2.1 u.2.2.2.2 ++ wX0 cI a4 a5 a6 a7 w_pins w_bars w_names w_lesser w_greater) := by
  refine MCv.mk (by decide) (Nat.le_of_ble_eq_true rfl) ?_
  intro p e s m args below meth c A ls Q h0 hP hD hA hS hl hfin0
  have hfin : ∀ (u' : Int32 × Int32 × (Nat → Int32) × (Nat → Int32) × (Nat → Int32)), u' = u → ∀ (H : Heap) (locs : List Loc) (ls : Array Slot) (pc : Nat), va_P D vwCl (wX0 cI a0 a1 a2 a3 u'.1 u'.2.1 u'.2.2.1 u'.2.2.2.1 u'.2.2.2.2 ++ wX0 cI a4 a5 a6 a7 w_pins w_bars w_names w_lesser w_greater) H → va_D A (wX0 cI a0 a1 a2 a3 u'.1 u'.2.1 u'.2.2.1 u'.2.2.2.1 u'.2.2.2.2 ++ wX0 cI a4 a5 a6 a7 w_pins w_bars w_names w_lesser w_greater) → va_S A s.heap H locs → decode cX0_takeFrom pc = .ok (.return_, 1) → W p l e (uR 1 200) s m args below meth c H locs 0 0 Q (F0 m pc ls []) := by intro u' hu; subst hu; exact hfin0
  clear hfin0
  obtain ⟨hx, hb, hr, hlk, hml, hown, hts, hK⟩ := id h0
  have hl : lv_has ls 2 [(0, .ref a0), (1, .ref a4)] := hl
  have E := hF
  refine lv_aload_n hx hb dX0_takeFrom_0 rfl (lv_at hl 0 rfl) ?_
  refine lv_aload_n hx hb dX0_takeFrom_1 rfl (lv_at hl 1 rfl) ?_
  refine gf_X0_9 h0 hP 4 rfl rfl dX0_takeFrom_2 ?_
  refine pf_X0_9 (wo := (wX0 cI a0 a1 a2 a3 w_pins v_bars v_names v_lesser v_greater ++ wX0 cI a4 a5 a6 a7 w_pins w_bars w_names w_lesser w_greater)) h0 hP hD hS 0 rfl (Nat.le_of_ble_eq_true rfl) rfl dX0_takeFrom_5 (fun H locs hP hD hS => ?_)
  refine lv_aload_n hx hb dX0_takeFrom_8 rfl (lv_at hl 0 rfl) ?_
  refine lv_aload_n hx hb dX0_takeFrom_9 rfl (lv_at hl 1 rfl) ?_
  refine gf_X0_15 h0 hP 4 rfl rfl dX0_takeFrom_10 ?_
  refine pf_X0_15 (wo := (wX0 cI a0 a1 a2 a3 w_pins w_bars v_names v_lesser v_greater ++ wX0 cI a4 a5 a6 a7 w_pins w_bars w_names w_lesser w_greater)) h0 hP hD hS 0 rfl (Nat.le_of_ble_eq_true rfl) rfl dX0_takeFrom_13 (fun H locs hP hD hS => ?_)
  refine lv_aload_n hx hb dX0_takeFrom_16 rfl (lv_at hl 1 rfl) ?_
  refine gf_X0_18 h0 hP 4 rfl rfl dX0_takeFrom_17 ?_
  refine lv_iconst (v := 0) hx hb dX0_takeFrom_20 (by decide) ?_
  refine lv_aload_n hx hb dX0_takeFrom_21 rfl (lv_at hl 0 rfl) ?_
  refine gf_X0_18 h0 hP 0 rfl rfl dX0_takeFrom_22 ?_
  refine lv_iconst (v := 0) hx hb dX0_takeFrom_25 (by decide) ?_
  refine lv_bipush (v := 12) hx hb dX0_takeFrom_26 (by decide) ?_
  obtain ⟨g1, E⟩ := gd_e E
  refine va_copyi hx hb (hml.trans hl.1.symm) hown (hts _ wq_568) (hts _ wq_570) (hts _ wq_569) (hts _ wq_11) hK hP hD hS 5 1 0 0 rfl rfl rfl rfl rfl g1.1 g1.2.1 g1.2.2.1 g1.2.2.2.1 g1.2.2.2.2 (fun _ _ => rfl) (Nat.le_of_ble_eq_true rfl) (Nat.le_of_ble_eq_true rfl) dX0_takeFrom_28 (fun H locs hP hD hS => ?_)
  have hP : va_P D vwCl (wX0 cI a0 a1 a2 a3 w_pins w_bars (va_cpy w_names v_names ((0 : Int32).toNatClampNeg) ((0 : Int32).toNatClampNeg) ((12 : Int32).toNatClampNeg)) v_lesser v_greater ++ wX0 cI a4 a5 a6 a7 w_pins w_bars w_names w_lesser w_greater) H := hP
  have hD : va_D A (wX0 cI a0 a1 a2 a3 w_pins w_bars (va_cpy w_names v_names ((0 : Int32).toNatClampNeg) ((0 : Int32).toNatClampNeg) ((12 : Int32).toNatClampNeg)) v_lesser v_greater ++ wX0 cI a4 a5 a6 a7 w_pins w_bars w_names w_lesser w_greater) := hD
  refine lv_aload_n hx hb dX0_takeFrom_31 rfl (lv_at hl 1 rfl) ?_
  refine gf_X0_22 h0 hP 4 rfl rfl dX0_takeFrom_32 ?_
  refine lv_iconst (v := 0) hx hb dX0_takeFrom_35 (by decide) ?_
  refine lv_aload_n hx hb dX0_takeFrom_36 rfl (lv_at hl 0 rfl) ?_
  refine gf_X0_22 h0 hP 0 rfl rfl dX0_takeFrom_37 ?_
  refine lv_iconst (v := 0) hx hb dX0_takeFrom_40 (by decide) ?_
  refine lv_bipush (v := 24) hx hb dX0_takeFrom_41 (by decide) ?_
  obtain ⟨g2, E⟩ := gd_e E
  refine va_copyi hx hb (hml.trans hl.1.symm) hown (hts _ wq_568) (hts _ wq_570) (hts _ wq_569) (hts _ wq_11) hK hP hD hS 6 2 0 0 rfl rfl rfl rfl rfl g2.1 g2.2.1 g2.2.2.1 g2.2.2.2.1 g2.2.2.2.2 (fun _ _ => rfl) (Nat.le_of_ble_eq_true rfl) (Nat.le_of_ble_eq_true rfl) dX0_takeFrom_43 (fun H locs hP hD hS => ?_)
  have hP : va_P D vwCl (wX0 cI a0 a1 a2 a3 w_pins w_bars (va_cpy w_names v_names ((0 : Int32).toNatClampNeg) ((0 : Int32).toNatClampNeg) ((12 : Int32).toNatClampNeg)) (va_cpy w_lesser v_lesser ((0 : Int32).toNatClampNeg) ((0 : Int32).toNatClampNeg) ((24 : Int32).toNatClampNeg)) v_greater ++ wX0 cI a4 a5 a6 a7 w_pins w_bars w_names w_lesser w_greater) H := hP
  have hD : va_D A (wX0 cI a0 a1 a2 a3 w_pins w_bars (va_cpy w_names v_names ((0 : Int32).toNatClampNeg) ((0 : Int32).toNatClampNeg) ((12 : Int32).toNatClampNeg)) (va_cpy w_lesser v_lesser ((0 : Int32).toNatClampNeg) ((0 : Int32).toNatClampNeg) ((24 : Int32).toNatClampNeg)) v_greater ++ wX0 cI a4 a5 a6 a7 w_pins w_bars w_names w_lesser w_greater) := hD
  refine lv_aload_n hx hb dX0_takeFrom_46 rfl (lv_at hl 1 rfl) ?_
  refine gf_X0_25 h0 hP 4 rfl rfl dX0_takeFrom_47 ?_
  refine lv_iconst (v := 0) hx hb dX0_takeFrom_50 (by decide) ?_
  refine lv_aload_n hx hb dX0_takeFrom_51 rfl (lv_at hl 0 rfl) ?_
  refine gf_X0_25 h0 hP 0 rfl rfl dX0_takeFrom_52 ?_
  refine lv_iconst (v := 0) hx hb dX0_takeFrom_55 (by decide) ?_
  refine lv_bipush (v := 24) hx hb dX0_takeFrom_56 (by decide) ?_
  obtain ⟨g3, E⟩ := gd_e E
  refine va_copyi hx hb (hml.trans hl.1.symm) hown (hts _ wq_568) (hts _ wq_570) (hts _ wq_569) (hts _ wq_11) hK hP hD hS 7 3 0 0 rfl rfl rfl rfl rfl g3.1 g3.2.1 g3.2.2.1 g3.2.2.2.1 g3.2.2.2.2 (fun _ _ => rfl) (Nat.le_of_ble_eq_true rfl) (Nat.le_of_ble_eq_true rfl) dX0_takeFrom_58 (fun H locs hP hD hS => ?_)
  have hP : va_P D vwCl (wX0 cI a0 a1 a2 a3 w_pins w_bars (va_cpy w_names v_names ((0 : Int32).toNatClampNeg) ((0 : Int32).toNatClampNeg) ((12 : Int32).toNatClampNeg)) (va_cpy w_lesser v_lesser ((0 : Int32).toNatClampNeg) ((0 : Int32).toNatClampNeg) ((24 : Int32).toNatClampNeg)) (va_cpy w_greater v_greater ((0 : Int32).toNatClampNeg) ((0 : Int32).toNatClampNeg) ((24 : Int32).toNatClampNeg)) ++ wX0 cI a4 a5 a6 a7 w_pins w_bars w_names w_lesser w_greater) H := hP
  have hD : va_D A (wX0 cI a0 a1 a2 a3 w_pins w_bars (va_cpy w_names v_names ((0 : Int32).toNatClampNeg) ((0 : Int32).toNatClampNeg) ((12 : Int32).toNatClampNeg)) (va_cpy w_lesser v_lesser ((0 : Int32).toNatClampNeg) ((0 : Int32).toNatClampNeg) ((24 : Int32).toNatClampNeg)) (va_cpy w_greater v_greater ((0 : Int32).toNatClampNeg) ((0 : Int32).toNatClampNeg) ((24 : Int32).toNatClampNeg)) ++ wX0 cI a4 a5 a6 a7 w_pins w_bars w_names w_lesser w_greater) := hD
  exact hfin _ (Option.some.inj E) _ _ _ _ hP hD hS dX0_takeFrom_61
