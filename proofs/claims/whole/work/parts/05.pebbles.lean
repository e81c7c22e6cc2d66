theorem hdX1_freeAll : yX1_freeAll.cls = RX1 ∧ yX1_freeAll.cls ≠ "java/lang/invoke/MethodHandle" ∧ yX1_freeAll.cls ≠ "java/lang/invoke/VarHandle" ∧ (parseMethodDescriptor yX1_freeAll.desc).map (fun d => d.parameters.length) = some 0 := by decide +kernel
noncomputable def FX1_freeAll_b2   (k2 : Int32 → (Nat → Int32) → Option ((Nat → Int32))) (l1 : Int32) (v_farEnd : Nat → Int32) : Option ((Nat → Int32)) := (if 24 ≤ l1 then (some v_farEnd) else (gd (vp_in l1 24) (k2 (l1 + 1) (upd v_farEnd l1.toNatClampNeg (-1)))))
noncomputable def FX1_freeAll_h2   : Nat → Int32 → (Nat → Int32) → Option ((Nat → Int32))
  | 0 => fun _ _ => none
  | n + 1 => fun l1 v_farEnd => FX1_freeAll_b2   (FX1_freeAll_h2   n) l1 v_farEnd
noncomputable def FX1_freeAll (v_farEnd : Nat → Int32) : Option ((Nat → Int32)) := (FX1_freeAll_h2   5000 0 v_farEnd)
set_option maxHeartbeats 4000000 in
set_option maxRecDepth 100000 in
theorem c_X1_freeAll (l : Launch) (D : va_G) (cI cZ cS : ClassId) (a0 a1 a2 a3 : Nat) (v_farEnd v_queue v_cameAlong : Nat → Int32)  (u : (Nat → Int32)) (hF : FX1_freeAll v_farEnd = some u) : MCv l D (tyL cI cZ cS) yX1_freeAll cX1_freeAll 2 none 0 0 [.ref a0] (wX1 cI a0 a1 a2 a3 v_farEnd v_queue v_cameAlong) (wX1 cI a0 a1 a2 a3 u v_queue v_cameAlong) := by
  refine MCv.mk (by decide) (Nat.le_of_ble_eq_true rfl) ?_
  intro p e s m args below meth c A ls Q h0 hP hD hA hS hl hfin0
  have hfin : ∀ (u' : (Nat → Int32)), u' = u → ∀ (H : Heap) (locs : List Loc) (ls : Array Slot) (pc : Nat), va_P D vwCl (wX1 cI a0 a1 a2 a3 u' v_queue v_cameAlong) H → va_D A (wX1 cI a0 a1 a2 a3 u' v_queue v_cameAlong) → va_S A s.heap H locs → decode cX1_freeAll pc = .ok (.return_, 1) → W p l e (uR 0 0) s m args below meth c H locs 0 0 Q (F0 m pc ls []) := by intro u' hu; subst hu; exact hfin0
  clear hfin0
  obtain ⟨hx, hb, hr, hlk, hml, hown, hts, hK⟩ := id h0
  have hl : lv_has ls 2 [(0, .ref a0)] := hl
  have E := hF
  have J2 : ∀ (n2 : Nat) (l1 : Int32) (v_farEnd : Nat → Int32) (H : Heap) (locs : List Loc) (ls : Array Slot), FX1_freeAll_h2   n2 l1 v_farEnd = some u → va_P D vwCl (wX1 cI a0 a1 a2 a3 v_farEnd v_queue v_cameAlong) H → va_D A (wX1 cI a0 a1 a2 a3 v_farEnd v_queue v_cameAlong) → va_S A s.heap H locs → lv_has ls 2 [(0, .ref a0), (1, .int l1)] → W p l e (uR 0 0) s m args below meth c H locs 0 0 Q (F0 m 2 ls []) := by
    intro n2
    induction n2 with
    | zero => intro l1 v_farEnd H locs ls E; exact none_e E
    | succ n2 ih2 =>
      intro l1 v_farEnd H locs ls E hP hD hS hl
      have E : FX1_freeAll_b2   (FX1_freeAll_h2   n2) l1 v_farEnd = some u := E
      refine lv_iload_n hx hb dX1_freeAll_2 rfl (lv_at hl 1 rfl) ?_
      refine lv_aload_n hx hb dX1_freeAll_3 rfl (lv_at hl 0 rfl) ?_
      refine gf_X1_9 h0 hP 0 rfl rfl dX1_freeAll_4 ?_
      refine va_alen (v := 24) hx hb hK hP 1 0 rfl rfl rfl dX1_freeAll_7 ?_
      refine lv_icmp_ge (tgt := 24) hx hb dX1_freeAll_8 (by decide) (fun c1 => ?_) (fun c1 => ?_)
      · have E := br_p E c1
        exact hfin _ (Option.some.inj E) _ _ _ _ hP hD hS dX1_freeAll_24
      · have E := br_n E c1
        refine lv_aload_n hx hb dX1_freeAll_11 rfl (lv_at hl 0 rfl) ?_
        refine gf_X1_9 h0 hP 0 rfl rfl dX1_freeAll_12 ?_
        refine lv_iload_n hx hb dX1_freeAll_15 rfl (lv_at hl 1 rfl) ?_
        refine lv_iconst (v := (-1)) hx hb dX1_freeAll_16 (by decide) ?_
        obtain ⟨g2, E⟩ := gd_e E
        refine asti (wo := (wX1 cI a0 a1 a2 a3 (upd v_farEnd l1.toNatClampNeg (-1)) v_queue v_cameAlong)) hx hb hK hP hD hS 1 rfl rfl g2 rfl dX1_freeAll_17 (fun H locs hP hD hS => ?_)
        refine lv_iinc (v := (l1 + 1)) (lv' := [(1, .int (l1 + 1)), (0, .ref a0)]) hx hb dX1_freeAll_18 hl (k := 1) rfl rfl (by decide) rfl (fun ls hl => ?_)
        refine lv_goto (tgt := 2) hx hb dX1_freeAll_21 (by decide) ?_
        exact ih2 _ _ _ _ _ E hP hD hS (lv_sub hl [1, 0] rfl)
  refine lv_iconst (v := 0) hx hb dX1_freeAll_0 (by decide) ?_
  refine lv_istore_n (lv' := [(1, .int 0), (0, .ref a0)]) hx hb dX1_freeAll_1 rfl hl (by decide) rfl (fun ls hl => ?_)
  exact J2 5000 _ _ _ _ _ E hP hD hS (lv_sub hl [1, 0] rfl)
theorem hdX1_countFree : yX1_countFree.cls = RX1 ∧ yX1_countFree.cls ≠ "java/lang/invoke/MethodHandle" ∧ yX1_countFree.cls ≠ "java/lang/invoke/VarHandle" ∧ (parseMethodDescriptor yX1_countFree.desc).map (fun d => d.parameters.length) = some 1 := by decide +kernel
noncomputable def FX1_countFree_b17 (p1 : Int32) (v_farEnd : Nat → Int32)  (t0 : Int32) : Option (Int32) := (gd (vp_in ((2 * p1) + 1) 24) (if (v_farEnd ((2 * p1) + 1).toNatClampNeg) = (-1) then (some (t0 + 1)) else (some (t0 + 0))))
noncomputable def FX1_countFree (p1 : Int32) (v_farEnd : Nat → Int32) : Option (Int32) := (gd (vp_in (2 * p1) 24) (if (v_farEnd (2 * p1).toNatClampNeg) = (-1) then (FX1_countFree_b17 p1 v_farEnd  1) else (FX1_countFree_b17 p1 v_farEnd  0)))
set_option maxHeartbeats 4000000 in
set_option maxRecDepth 100000 in
theorem c_X1_countFree (l : Launch) (D : va_G) (cI cZ cS : ClassId) (a0 a1 a2 a3 : Nat) (v_farEnd v_queue v_cameAlong : Nat → Int32) (p1 : Int32) (u : Int32) (hF : FX1_countFree p1 v_farEnd = some u) : MCi l D (tyL cI cZ cS) yX1_countFree cX1_countFree 2 (some .int) 0 0 [.ref a0, .int p1] (wX1 cI a0 a1 a2 a3 v_farEnd v_queue v_cameAlong) (wX1 cI a0 a1 a2 a3 v_farEnd v_queue v_cameAlong) u := by
  refine MCi.mk (by decide) (Nat.le_of_ble_eq_true rfl) ?_
  intro p e s m args below meth c A ls Q h0 hP hD hA hS hl hfin0
  have hfin : ∀ (u' : Int32), u' = u → ∀ (H : Heap) (locs : List Loc) (ls : Array Slot) (pc : Nat), va_P D vwCl (wX1 cI a0 a1 a2 a3 v_farEnd v_queue v_cameAlong) H → va_D A (wX1 cI a0 a1 a2 a3 v_farEnd v_queue v_cameAlong) → va_S A s.heap H locs → decode cX1_countFree pc = .ok (.ireturn, 1) → W p l e (uR 0 0) s m args below meth c H locs 0 0 Q (F0 m pc ls [.int u']) := by intro u' hu; subst hu; exact hfin0
  clear hfin0
  obtain ⟨hx, hb, hr, hlk, hml, hown, hts, hK⟩ := id h0
  have hl : lv_has ls 2 [(0, .ref a0), (1, .int p1)] := hl
  have E := hF
  have J17 : ∀ (t0 : Int32) (H : Heap) (locs : List Loc) (ls : Array Slot), FX1_countFree_b17 p1 v_farEnd  t0 = some u → va_P D vwCl (wX1 cI a0 a1 a2 a3 v_farEnd v_queue v_cameAlong) H → va_D A (wX1 cI a0 a1 a2 a3 v_farEnd v_queue v_cameAlong) → va_S A s.heap H locs → lv_has ls 2 [(0, .ref a0), (1, .int p1)] → W p l e (uR 0 0) s m args below meth c H locs 0 0 Q (F0 m 17 ls [.int t0]) := by
    intro t0 H locs ls E hP hD hS hl
    refine lv_aload_n hx hb dX1_countFree_17 rfl (lv_at hl 0 rfl) ?_
    refine gf_X1_9 h0 hP 0 rfl rfl dX1_countFree_18 ?_
    refine lv_iconst (v := 2) hx hb dX1_countFree_21 (by decide) ?_
    refine lv_iload_n hx hb dX1_countFree_22 rfl (lv_at hl 1 rfl) ?_
    refine lv_imul hx hb dX1_countFree_23 ?_
    refine lv_iconst (v := 1) hx hb dX1_countFree_24 (by decide) ?_
    refine lv_iadd hx hb dX1_countFree_25 ?_
    obtain ⟨g1, E⟩ := gd_e E
    refine aldi hx hb hK hP 1 rfl rfl g1 dX1_countFree_26 ?_
    refine lv_iconst (v := (-1)) hx hb dX1_countFree_27 (by decide) ?_
    refine lv_icmp_ne (tgt := 35) hx hb dX1_countFree_28 (by decide) (fun c2 => ?_) (fun c2 => ?_)
    · have E := br_n E c2
      refine lv_iconst (v := 0) hx hb dX1_countFree_35 (by decide) ?_
      refine lv_iadd hx hb dX1_countFree_36 ?_
      exact hfin _ (Option.some.inj E) _ _ _ _ hP hD hS dX1_countFree_37
    · have E := br_p E c2
      refine lv_iconst (v := 1) hx hb dX1_countFree_31 (by decide) ?_
      refine lv_goto (tgt := 36) hx hb dX1_countFree_32 (by decide) ?_
      refine lv_iadd hx hb dX1_countFree_36 ?_
      exact hfin _ (Option.some.inj E) _ _ _ _ hP hD hS dX1_countFree_37
  refine lv_aload_n hx hb dX1_countFree_0 rfl (lv_at hl 0 rfl) ?_
  refine gf_X1_9 h0 hP 0 rfl rfl dX1_countFree_1 ?_
  refine lv_iconst (v := 2) hx hb dX1_countFree_4 (by decide) ?_
  refine lv_iload_n hx hb dX1_countFree_5 rfl (lv_at hl 1 rfl) ?_
  refine lv_imul hx hb dX1_countFree_6 ?_
  obtain ⟨g3, E⟩ := gd_e E
  refine aldi hx hb hK hP 1 rfl rfl g3 dX1_countFree_7 ?_
  refine lv_iconst (v := (-1)) hx hb dX1_countFree_8 (by decide) ?_
  refine lv_icmp_ne (tgt := 16) hx hb dX1_countFree_9 (by decide) (fun c4 => ?_) (fun c4 => ?_)
  · have E := br_n E c4
    refine lv_iconst (v := 0) hx hb dX1_countFree_16 (by decide) ?_
    exact J17 _ _ _ _ E hP hD hS (lv_sub hl [0, 1] rfl)
  · have E := br_p E c4
    refine lv_iconst (v := 1) hx hb dX1_countFree_12 (by decide) ?_
    refine lv_goto (tgt := 17) hx hb dX1_countFree_13 (by decide) ?_
    exact J17 _ _ _ _ E hP hD hS (lv_sub hl [0, 1] rfl)
theorem hdX1_freePebble : yX1_freePebble.cls = RX1 ∧ yX1_freePebble.cls ≠ "java/lang/invoke/MethodHandle" ∧ yX1_freePebble.cls ≠ "java/lang/invoke/VarHandle" ∧ (parseMethodDescriptor yX1_freePebble.desc).map (fun d => d.parameters.length) = some 1 := by decide +kernel
noncomputable def FX1_freePebble (p1 : Int32) (v_farEnd : Nat → Int32) : Option (Int32) := (gd (vp_in (2 * p1) 24) (if (v_farEnd (2 * p1).toNatClampNeg) = (-1) then (some (2 * p1)) else (gd (vp_in ((2 * p1) + 1) 24) (if (v_farEnd ((2 * p1) + 1).toNatClampNeg) = (-1) then (some ((2 * p1) + 1)) else (some (-1))))))
set_option maxHeartbeats 4000000 in
set_option maxRecDepth 100000 in
theorem c_X1_freePebble (l : Launch) (D : va_G) (cI cZ cS : ClassId) (a0 a1 a2 a3 : Nat) (v_farEnd v_queue v_cameAlong : Nat → Int32) (p1 : Int32) (u : Int32) (hF : FX1_freePebble p1 v_farEnd = some u) : MCi l D (tyL cI cZ cS) yX1_freePebble cX1_freePebble 2 (some .int) 0 0 [.ref a0, .int p1] (wX1 cI a0 a1 a2 a3 v_farEnd v_queue v_cameAlong) (wX1 cI a0 a1 a2 a3 v_farEnd v_queue v_cameAlong) u := by
  refine MCi.mk (by decide) (Nat.le_of_ble_eq_true rfl) ?_
  intro p e s m args below meth c A ls Q h0 hP hD hA hS hl hfin0
  have hfin : ∀ (u' : Int32), u' = u → ∀ (H : Heap) (locs : List Loc) (ls : Array Slot) (pc : Nat), va_P D vwCl (wX1 cI a0 a1 a2 a3 v_farEnd v_queue v_cameAlong) H → va_D A (wX1 cI a0 a1 a2 a3 v_farEnd v_queue v_cameAlong) → va_S A s.heap H locs → decode cX1_freePebble pc = .ok (.ireturn, 1) → W p l e (uR 0 0) s m args below meth c H locs 0 0 Q (F0 m pc ls [.int u']) := by intro u' hu; subst hu; exact hfin0
  clear hfin0
  obtain ⟨hx, hb, hr, hlk, hml, hown, hts, hK⟩ := id h0
  have hl : lv_has ls 2 [(0, .ref a0), (1, .int p1)] := hl
  have E := hF
  refine lv_aload_n hx hb dX1_freePebble_0 rfl (lv_at hl 0 rfl) ?_
  refine gf_X1_9 h0 hP 0 rfl rfl dX1_freePebble_1 ?_
  refine lv_iconst (v := 2) hx hb dX1_freePebble_4 (by decide) ?_
  refine lv_iload_n hx hb dX1_freePebble_5 rfl (lv_at hl 1 rfl) ?_
  refine lv_imul hx hb dX1_freePebble_6 ?_
  obtain ⟨g1, E⟩ := gd_e E
  refine aldi hx hb hK hP 1 rfl rfl g1 dX1_freePebble_7 ?_
  refine lv_iconst (v := (-1)) hx hb dX1_freePebble_8 (by decide) ?_
  refine lv_icmp_ne (tgt := 18) hx hb dX1_freePebble_9 (by decide) (fun c2 => ?_) (fun c2 => ?_)
  · have E := br_n E c2
    refine lv_aload_n hx hb dX1_freePebble_18 rfl (lv_at hl 0 rfl) ?_
    refine gf_X1_9 h0 hP 0 rfl rfl dX1_freePebble_19 ?_
    refine lv_iconst (v := 2) hx hb dX1_freePebble_22 (by decide) ?_
    refine lv_iload_n hx hb dX1_freePebble_23 rfl (lv_at hl 1 rfl) ?_
    refine lv_imul hx hb dX1_freePebble_24 ?_
    refine lv_iconst (v := 1) hx hb dX1_freePebble_25 (by decide) ?_
    refine lv_iadd hx hb dX1_freePebble_26 ?_
    obtain ⟨g3, E⟩ := gd_e E
    refine aldi hx hb hK hP 1 rfl rfl g3 dX1_freePebble_27 ?_
    refine lv_iconst (v := (-1)) hx hb dX1_freePebble_28 (by decide) ?_
    refine lv_icmp_ne (tgt := 40) hx hb dX1_freePebble_29 (by decide) (fun c4 => ?_) (fun c4 => ?_)
    · have E := br_n E c4
      refine lv_iconst (v := (-1)) hx hb dX1_freePebble_40 (by decide) ?_
      exact hfin _ (Option.some.inj E) _ _ _ _ hP hD hS dX1_freePebble_41
    · have E := br_p E c4
      refine lv_iconst (v := 2) hx hb dX1_freePebble_32 (by decide) ?_
      refine lv_iload_n hx hb dX1_freePebble_33 rfl (lv_at hl 1 rfl) ?_
      refine lv_imul hx hb dX1_freePebble_34 ?_
      refine lv_iconst (v := 1) hx hb dX1_freePebble_35 (by decide) ?_
      refine lv_iadd hx hb dX1_freePebble_36 ?_
      refine lv_goto (tgt := 41) hx hb dX1_freePebble_37 (by decide) ?_
      exact hfin _ (Option.some.inj E) _ _ _ _ hP hD hS dX1_freePebble_41
  · have E := br_p E c2
    refine lv_iconst (v := 2) hx hb dX1_freePebble_12 (by decide) ?_
    refine lv_iload_n hx hb dX1_freePebble_13 rfl (lv_at hl 1 rfl) ?_
    refine lv_imul hx hb dX1_freePebble_14 ?_
    refine lv_goto (tgt := 41) hx hb dX1_freePebble_15 (by decide) ?_
    exact hfin _ (Option.some.inj E) _ _ _ _ hP hD hS dX1_freePebble_41
theorem hdX1_turnRound : yX1_turnRound.cls = RX1 ∧ yX1_turnRound.cls ≠ "java/lang/invoke/MethodHandle" ∧ yX1_turnRound.cls ≠ "java/lang/invoke/VarHandle" ∧ (parseMethodDescriptor yX1_turnRound.desc).map (fun d => d.parameters.length) = some 3 := by decide +kernel
noncomputable def FX1_turnRound_b9 (p1 p2 p3 : Int32) (v_cameAlong : Nat → Int32)  (k9 : Int32 → Int32 → Int32 → (Nat → Int32) → Option ((Nat → Int32))) (l4 l5 l6 : Int32) (v_farEnd : Nat → Int32) : Option ((Nat → Int32)) := (if 12 ≤ l6 then (some v_farEnd) else (if l4 = p1 then (some v_farEnd) else (gd (vp_in l4 12) (gd (vp_in l5 24) (gd (vp_in (v_cameAlong l4.toNatClampNeg) 24) (k9 ((v_cameAlong l4.toNatClampNeg) / 2) (v_cameAlong l4.toNatClampNeg) (l6 + 1) (upd (upd v_farEnd l5.toNatClampNeg ((v_cameAlong l4.toNatClampNeg) / 2)) (v_cameAlong l4.toNatClampNeg).toNatClampNeg (-1))))))))
noncomputable def FX1_turnRound_h9 (p1 p2 p3 : Int32) (v_cameAlong : Nat → Int32)  : Nat → Int32 → Int32 → Int32 → (Nat → Int32) → Option ((Nat → Int32))
  | 0 => fun _ _ _ _ => none
  | n + 1 => fun l4 l5 l6 v_farEnd => FX1_turnRound_b9 p1 p2 p3 v_cameAlong  (FX1_turnRound_h9 p1 p2 p3 v_cameAlong  n) l4 l5 l6 v_farEnd
noncomputable def FX1_turnRound (p1 p2 p3 : Int32) (v_farEnd v_cameAlong : Nat → Int32) : Option ((Nat → Int32)) := (FX1_turnRound_h9 p1 p2 p3 v_cameAlong  5000 p2 p3 0 v_farEnd)
set_option maxHeartbeats 4000000 in
set_option maxRecDepth 100000 in
theorem c_X1_turnRound (l : Launch) (D : va_G) (cI cZ cS : ClassId) (a0 a1 a2 a3 : Nat) (v_farEnd v_queue v_cameAlong : Nat → Int32) (p1 p2 p3 : Int32) (u : (Nat → Int32)) (hF : FX1_turnRound p1 p2 p3 v_farEnd v_cameAlong = some u) : MCv l D (tyL cI cZ cS) yX1_turnRound cX1_turnRound 8 none 0 0 [.ref a0, .int p1, .int p2, .int p3] (wX1 cI a0 a1 a2 a3 v_farEnd v_queue v_cameAlong) (wX1 cI a0 a1 a2 a3 u v_queue v_cameAlong) := by
  refine MCv.mk (by decide) (Nat.le_of_ble_eq_true rfl) ?_
  intro p e s m args below meth c A ls Q h0 hP hD hA hS hl hfin0
  have hfin : ∀ (u' : (Nat → Int32)), u' = u → ∀ (H : Heap) (locs : List Loc) (ls : Array Slot) (pc : Nat), va_P D vwCl (wX1 cI a0 a1 a2 a3 u' v_queue v_cameAlong) H → va_D A (wX1 cI a0 a1 a2 a3 u' v_queue v_cameAlong) → va_S A s.heap H locs → decode cX1_turnRound pc = .ok (.return_, 1) → W p l e (uR 0 0) s m args below meth c H locs 0 0 Q (F0 m pc ls []) := by intro u' hu; subst hu; exact hfin0
  clear hfin0
  obtain ⟨hx, hb, hr, hlk, hml, hown, hts, hK⟩ := id h0
  have hl : lv_has ls 8 [(0, .ref a0), (1, .int p1), (2, .int p2), (3, .int p3)] := hl
  have E := hF
  have J9 : ∀ (n9 : Nat) (l4 l5 l6 : Int32) (v_farEnd : Nat → Int32) (H : Heap) (locs : List Loc) (ls : Array Slot), FX1_turnRound_h9 p1 p2 p3 v_cameAlong  n9 l4 l5 l6 v_farEnd = some u → va_P D vwCl (wX1 cI a0 a1 a2 a3 v_farEnd v_queue v_cameAlong) H → va_D A (wX1 cI a0 a1 a2 a3 v_farEnd v_queue v_cameAlong) → va_S A s.heap H locs → lv_has ls 8 [(0, .ref a0), (1, .int p1), (4, .int l4), (5, .int l5), (6, .int l6)] → W p l e (uR 0 0) s m args below meth c H locs 0 0 Q (F0 m 9 ls []) := by
    intro n9
    induction n9 with
    | zero => intro l4 l5 l6 v_farEnd H locs ls E; exact none_e E
    | succ n9 ih9 =>
      intro l4 l5 l6 v_farEnd H locs ls E hP hD hS hl
      have E : FX1_turnRound_b9 p1 p2 p3 v_cameAlong  (FX1_turnRound_h9 p1 p2 p3 v_cameAlong  n9) l4 l5 l6 v_farEnd = some u := E
      refine lv_iload hx hb dX1_turnRound_9 (lv_at hl 4 rfl) ?_
      refine lv_bipush (v := 12) hx hb dX1_turnRound_11 (by decide) ?_
      refine lv_icmp_ge (tgt := 64) hx hb dX1_turnRound_13 (by decide) (fun c1 => ?_) (fun c1 => ?_)
      · have E := br_p E c1
        exact hfin _ (Option.some.inj E) _ _ _ _ hP hD hS dX1_turnRound_64
      · have E := br_n E c1
        refine lv_iload hx hb dX1_turnRound_16 (lv_at hl 2 rfl) ?_
        refine lv_iload_n hx hb dX1_turnRound_18 rfl (lv_at hl 1 rfl) ?_
        refine lv_icmp_eq (tgt := 64) hx hb dX1_turnRound_19 (by decide) (fun c2 => ?_) (fun c2 => ?_)
        · have E := br_p E c2
          exact hfin _ (Option.some.inj E) _ _ _ _ hP hD hS dX1_turnRound_64
        · have E := br_n E c2
          refine lv_aload_n hx hb dX1_turnRound_22 rfl (lv_at hl 0 rfl) ?_
          refine gf_X1_18 h0 hP 0 rfl rfl dX1_turnRound_23 ?_
          refine lv_iload hx hb dX1_turnRound_26 (lv_at hl 2 rfl) ?_
          obtain ⟨g3, E⟩ := gd_e E
          refine aldi hx hb hK hP 3 rfl rfl g3 dX1_turnRound_28 ?_
          refine lv_istore (lv' := [(7, .int (v_cameAlong l4.toNatClampNeg)), (0, .ref a0), (1, .int p1), (4, .int l4), (5, .int l5), (6, .int l6)]) hx hb dX1_turnRound_29 hl (by decide) rfl (fun ls hl => ?_)
          refine lv_iload hx hb dX1_turnRound_31 (lv_at hl 0 rfl) ?_
          refine lv_iconst (v := 2) hx hb dX1_turnRound_33 (by decide) ?_
          refine lv_idiv hx hb dX1_turnRound_34 (by decide) ?_
          refine lv_istore (lv' := [(4, .int ((v_cameAlong l4.toNatClampNeg) / 2)), (7, .int (v_cameAlong l4.toNatClampNeg)), (0, .ref a0), (1, .int p1), (5, .int l5), (6, .int l6)]) hx hb dX1_turnRound_35 hl (by decide) rfl (fun ls hl => ?_)
          refine lv_aload_n hx hb dX1_turnRound_37 rfl (lv_at hl 2 rfl) ?_
          refine gf_X1_9 h0 hP 0 rfl rfl dX1_turnRound_38 ?_
          refine lv_iload hx hb dX1_turnRound_41 (lv_at hl 4 rfl) ?_
          refine lv_iload hx hb dX1_turnRound_43 (lv_at hl 0 rfl) ?_
          obtain ⟨g4, E⟩ := gd_e E
          refine asti (wo := (wX1 cI a0 a1 a2 a3 (upd v_farEnd l5.toNatClampNeg ((v_cameAlong l4.toNatClampNeg) / 2)) v_queue v_cameAlong)) hx hb hK hP hD hS 1 rfl rfl g4 rfl dX1_turnRound_45 (fun H locs hP hD hS => ?_)
          refine lv_aload_n hx hb dX1_turnRound_46 rfl (lv_at hl 2 rfl) ?_
          refine gf_X1_9 h0 hP 0 rfl rfl dX1_turnRound_47 ?_
          refine lv_iload hx hb dX1_turnRound_50 (lv_at hl 1 rfl) ?_
          refine lv_iconst (v := (-1)) hx hb dX1_turnRound_52 (by decide) ?_
          obtain ⟨g5, E⟩ := gd_e E
          refine asti (wo := (wX1 cI a0 a1 a2 a3 (upd (upd v_farEnd l5.toNatClampNeg ((v_cameAlong l4.toNatClampNeg) / 2)) (v_cameAlong l4.toNatClampNeg).toNatClampNeg (-1)) v_queue v_cameAlong)) hx hb hK hP hD hS 1 rfl rfl g5 rfl dX1_turnRound_53 (fun H locs hP hD hS => ?_)
          refine lv_iload hx hb dX1_turnRound_54 (lv_at hl 1 rfl) ?_
          refine lv_istore (lv' := [(5, .int (v_cameAlong l4.toNatClampNeg)), (4, .int ((v_cameAlong l4.toNatClampNeg) / 2)), (7, .int (v_cameAlong l4.toNatClampNeg)), (0, .ref a0), (1, .int p1), (6, .int l6)]) hx hb dX1_turnRound_56 hl (by decide) rfl (fun ls hl => ?_)
          refine lv_iinc (v := (l6 + 1)) (lv' := [(6, .int (l6 + 1)), (5, .int (v_cameAlong l4.toNatClampNeg)), (4, .int ((v_cameAlong l4.toNatClampNeg) / 2)), (7, .int (v_cameAlong l4.toNatClampNeg)), (0, .ref a0), (1, .int p1)]) hx hb dX1_turnRound_58 hl (k := 5) rfl rfl (by decide) rfl (fun ls hl => ?_)
          refine lv_goto (tgt := 9) hx hb dX1_turnRound_61 (by decide) ?_
          exact ih9 _ _ _ _ _ _ _ E hP hD hS (lv_sub hl [4, 5, 2, 1, 0] rfl)
  refine lv_iload_n hx hb dX1_turnRound_0 rfl (lv_at hl 2 rfl) ?_
  refine lv_istore (lv' := [(4, .int p2), (0, .ref a0), (1, .int p1), (2, .int p2), (3, .int p3)]) hx hb dX1_turnRound_1 hl (by decide) rfl (fun ls hl => ?_)
  refine lv_iload_n hx hb dX1_turnRound_3 rfl (lv_at hl 4 rfl) ?_
  refine lv_istore (lv' := [(5, .int p3), (4, .int p2), (0, .ref a0), (1, .int p1), (2, .int p2), (3, .int p3)]) hx hb dX1_turnRound_4 hl (by decide) rfl (fun ls hl => ?_)
  refine lv_iconst (v := 0) hx hb dX1_turnRound_6 (by decide) ?_
  refine lv_istore (lv' := [(6, .int 0), (5, .int p3), (4, .int p2), (0, .ref a0), (1, .int p1), (2, .int p2), (3, .int p3)]) hx hb dX1_turnRound_7 hl (by decide) rfl (fun ls hl => ?_)
  exact J9 5000 _ _ _ _ _ _ _ E hP hD hS (lv_sub hl [3, 4, 2, 1, 0] rfl)
theorem hdX1_bring : yX1_bring.cls = RX1 ∧ yX1_bring.cls ≠ "java/lang/invoke/MethodHandle" ∧ yX1_bring.cls ≠ "java/lang/invoke/VarHandle" ∧ (parseMethodDescriptor yX1_bring.desc).map (fun d => d.parameters.length) = some 2 := by decide +kernel
noncomputable def FX1_bring_b150 (p1 p2 : Int32) (k21 : Int32 → Int32 → Int32 → (Nat → Int32) → (Nat → Int32) → (Nat → Int32) → Option (Int32 × (Nat → Int32) × (Nat → Int32) × (Nat → Int32))) (k46 : Int32 → Int32 → Int32 → Int32 → (Nat → Int32) → (Nat → Int32) → (Nat → Int32) → Option (Int32 × (Nat → Int32) × (Nat → Int32) × (Nat → Int32))) (l3 l4 l5 l6 : Int32) (v_farEnd v_queue v_cameAlong : Nat → Int32) : Option (Int32 × (Nat → Int32) × (Nat → Int32) × (Nat → Int32)) := (k46 l3 l4 l5 (l6 + 1) v_farEnd v_queue v_cameAlong)
noncomputable def FX1_bring_b46 (p1 p2 : Int32) (k21 : Int32 → Int32 → Int32 → (Nat → Int32) → (Nat → Int32) → (Nat → Int32) → Option (Int32 × (Nat → Int32) × (Nat → Int32) × (Nat → Int32))) (k46 : Int32 → Int32 → Int32 → Int32 → (Nat → Int32) → (Nat → Int32) → (Nat → Int32) → Option (Int32 × (Nat → Int32) × (Nat → Int32) × (Nat → Int32))) (l3 l4 l5 l6 : Int32) (v_farEnd v_queue v_cameAlong : Nat → Int32) : Option (Int32 × (Nat → Int32) × (Nat → Int32) × (Nat → Int32)) := (gd (vp_in l5 12) (if ((2 * (v_queue l5.toNatClampNeg)) + 1) < l6 then (k21 l3 l4 (l5 + 1) v_farEnd v_queue v_cameAlong) else (gd (vp_in l6 24) (if (v_farEnd l6.toNatClampNeg) = (-1) then (FX1_bring_b150 p1 p2 k21 k46 l3 l4 l5 l6 v_farEnd v_queue v_cameAlong) else (if ((l3 >>> ((v_farEnd l6.toNatClampNeg) &&& 31)) &&& 1) = 1 then (FX1_bring_b150 p1 p2 k21 k46 l3 l4 l5 l6 v_farEnd v_queue v_cameAlong) else (gd (vp_in (v_farEnd l6.toNatClampNeg) 12) ((FX1_freePebble (v_farEnd l6.toNatClampNeg) v_farEnd).bind (fun r7 => (if r7 = (-1) then (if 12 ≤ l4 then (FX1_bring_b150 p1 p2 k21 k46 (l3 ||| ((1 : Int32) <<< ((v_farEnd l6.toNatClampNeg) &&& 31))) l4 l5 l6 v_farEnd v_queue (upd v_cameAlong (v_farEnd l6.toNatClampNeg).toNatClampNeg l6)) else (gd (vp_in l4 12) (FX1_bring_b150 p1 p2 k21 k46 (l3 ||| ((1 : Int32) <<< ((v_farEnd l6.toNatClampNeg) &&& 31))) (l4 + 1) l5 l6 v_farEnd (upd v_queue l4.toNatClampNeg (v_farEnd l6.toNatClampNeg)) (upd v_cameAlong (v_farEnd l6.toNatClampNeg).toNatClampNeg l6)))) else ((FX1_turnRound p1 (v_farEnd l6.toNatClampNeg) r7 v_farEnd (upd v_cameAlong (v_farEnd l6.toNatClampNeg).toNatClampNeg l6)).bind (fun r11 => (some (1, r11, v_queue, (upd v_cameAlong (v_farEnd l6.toNatClampNeg).toNatClampNeg l6))))))))))))))
noncomputable def FX1_bring_h46 (p1 p2 : Int32) (k21 : Int32 → Int32 → Int32 → (Nat → Int32) → (Nat → Int32) → (Nat → Int32) → Option (Int32 × (Nat → Int32) × (Nat → Int32) × (Nat → Int32))) : Nat → Int32 → Int32 → Int32 → Int32 → (Nat → Int32) → (Nat → Int32) → (Nat → Int32) → Option (Int32 × (Nat → Int32) × (Nat → Int32) × (Nat → Int32))
  | 0 => fun _ _ _ _ _ _ _ => none
  | n + 1 => fun l3 l4 l5 l6 v_farEnd v_queue v_cameAlong => FX1_bring_b46 p1 p2 k21 (FX1_bring_h46 p1 p2 k21 n) l3 l4 l5 l6 v_farEnd v_queue v_cameAlong
noncomputable def FX1_bring_b21 (p1 p2 : Int32)  (k21 : Int32 → Int32 → Int32 → (Nat → Int32) → (Nat → Int32) → (Nat → Int32) → Option (Int32 × (Nat → Int32) × (Nat → Int32) × (Nat → Int32))) (l3 l4 l5 : Int32) (v_farEnd v_queue v_cameAlong : Nat → Int32) : Option (Int32 × (Nat → Int32) × (Nat → Int32) × (Nat → Int32)) := (if l4 ≤ l5 then (some (0, v_farEnd, v_queue, v_cameAlong)) else (if 12 ≤ l5 then (some (0, v_farEnd, v_queue, v_cameAlong)) else (gd (vp_in l5 12) (FX1_bring_h46 p1 p2 k21 5000 l3 l4 l5 (2 * (v_queue l5.toNatClampNeg)) v_farEnd v_queue v_cameAlong))))
noncomputable def FX1_bring_h21 (p1 p2 : Int32)  : Nat → Int32 → Int32 → Int32 → (Nat → Int32) → (Nat → Int32) → (Nat → Int32) → Option (Int32 × (Nat → Int32) × (Nat → Int32) × (Nat → Int32))
  | 0 => fun _ _ _ _ _ _ => none
  | n + 1 => fun l3 l4 l5 v_farEnd v_queue v_cameAlong => FX1_bring_b21 p1 p2  (FX1_bring_h21 p1 p2  n) l3 l4 l5 v_farEnd v_queue v_cameAlong
noncomputable def FX1_bring (p1 p2 : Int32) (v_farEnd v_queue v_cameAlong : Nat → Int32) : Option (Int32 × (Nat → Int32) × (Nat → Int32) × (Nat → Int32)) := (gd (vp_in 0 12) (FX1_bring_h21 p1 p2  5000 (((1 : Int32) <<< (p1 &&& 31)) ||| ((1 : Int32) <<< (p2 &&& 31))) 1 0 v_farEnd (upd v_queue ((0 : Int32).toNatClampNeg) p1) v_cameAlong))
set_option maxHeartbeats 4000000 in
set_option maxRecDepth 100000 in
theorem c_X1_bring (l : Launch) (D : va_G) (cI cZ cS : ClassId) (a0 a1 a2 a3 : Nat) (v_farEnd v_queue v_cameAlong : Nat → Int32) (p1 p2 : Int32) (u : Int32 × (Nat → Int32) × (Nat → Int32) × (Nat → Int32)) (hF : FX1_bring p1 p2 v_farEnd v_queue v_cameAlong = some u) : MCi l D (tyL cI cZ cS) yX1_bring cX1_bring 9 (some .boolean) 1 27 [.ref a0, .int p1, .int p2] (wX1 cI a0 a1 a2 a3 v_farEnd v_queue v_cameAlong) (wX1 cI a0 a1 a2 a3 u.2.1 u.2.2.1 u.2.2.2) u.1 := by
  refine MCz.mk (by decide) (Nat.le_of_ble_eq_true rfl) ?_
  intro p e s m args below meth c A ls Q h0 hP hD hA hS hl hfin0
  have hfin : ∀ (u' : Int32 × (Nat → Int32) × (Nat → Int32) × (Nat → Int32)), u' = u → ∀ (H : Heap) (locs : List Loc) (ls : Array Slot) (pc : Nat), (u'.1 = 0 ∨ u'.1 = 1) → va_P D vwCl (wX1 cI a0 a1 a2 a3 u'.2.1 u'.2.2.1 u'.2.2.2) H → va_D A (wX1 cI a0 a1 a2 a3 u'.2.1 u'.2.2.1 u'.2.2.2) → va_S A s.heap H locs → decode cX1_bring pc = .ok (.ireturn, 1) → W p l e (uR 1 27) s m args below meth c H locs 0 0 Q (F0 m pc ls [.int u'.1]) := by intro u' hu; subst hu; exact hfin0
  clear hfin0
  obtain ⟨hx, hb, hr, hlk, hml, hown, hts, hK⟩ := id h0
  have hl : lv_has ls 9 [(0, .ref a0), (1, .int p1), (2, .int p2)] := hl
  have E := hF
  have J21 : ∀ (n21 : Nat) (l3 l4 l5 : Int32) (v_farEnd v_queue v_cameAlong : Nat → Int32) (H : Heap) (locs : List Loc) (ls : Array Slot), FX1_bring_h21 p1 p2  n21 l3 l4 l5 v_farEnd v_queue v_cameAlong = some u → va_P D vwCl (wX1 cI a0 a1 a2 a3 v_farEnd v_queue v_cameAlong) H → va_D A (wX1 cI a0 a1 a2 a3 v_farEnd v_queue v_cameAlong) → va_S A s.heap H locs → lv_has ls 9 [(0, .ref a0), (1, .int p1), (3, .int l3), (4, .int l4), (5, .int l5)] → W p l e (uR 1 27) s m args below meth c H locs 0 0 Q (F0 m 21 ls []) := by
    intro n21
    induction n21 with
    | zero => intro l3 l4 l5 v_farEnd v_queue v_cameAlong H locs ls E; exact none_e E
    | succ n21 ih21 =>
      intro l3 l4 l5 v_farEnd v_queue v_cameAlong H locs ls E hP hD hS hl
      have E : FX1_bring_b21 p1 p2  (FX1_bring_h21 p1 p2  n21) l3 l4 l5 v_farEnd v_queue v_cameAlong = some u := E
      have J46 : ∀ (n46 : Nat) (l3 l4 l5 l6 : Int32) (v_farEnd v_queue v_cameAlong : Nat → Int32) (H : Heap) (locs : List Loc) (ls : Array Slot), FX1_bring_h46 p1 p2 (FX1_bring_h21 p1 p2  n21) n46 l3 l4 l5 l6 v_farEnd v_queue v_cameAlong = some u → va_P D vwCl (wX1 cI a0 a1 a2 a3 v_farEnd v_queue v_cameAlong) H → va_D A (wX1 cI a0 a1 a2 a3 v_farEnd v_queue v_cameAlong) → va_S A s.heap H locs → lv_has ls 9 [(0, .ref a0), (1, .int p1), (3, .int l3), (4, .int l4), (5, .int l5), (6, .int l6)] → W p l e (uR 1 27) s m args below meth c H locs 0 0 Q (F0 m 46 ls []) := by
        intro n46
        induction n46 with
        | zero => intro l3 l4 l5 l6 v_farEnd v_queue v_cameAlong H locs ls E; exact none_e E
        | succ n46 ih46 =>
          intro l3 l4 l5 l6 v_farEnd v_queue v_cameAlong H locs ls E hP hD hS hl
          have E : FX1_bring_b46 p1 p2 (FX1_bring_h21 p1 p2  n21) (FX1_bring_h46 p1 p2 (FX1_bring_h21 p1 p2  n21) n46) l3 l4 l5 l6 v_farEnd v_queue v_cameAlong = some u := E
          have J150 : ∀ (l3 l4 l5 l6 : Int32) (v_farEnd v_queue v_cameAlong : Nat → Int32) (H : Heap) (locs : List Loc) (ls : Array Slot), FX1_bring_b150 p1 p2 (FX1_bring_h21 p1 p2  n21) (FX1_bring_h46 p1 p2 (FX1_bring_h21 p1 p2  n21) n46) l3 l4 l5 l6 v_farEnd v_queue v_cameAlong = some u → va_P D vwCl (wX1 cI a0 a1 a2 a3 v_farEnd v_queue v_cameAlong) H → va_D A (wX1 cI a0 a1 a2 a3 v_farEnd v_queue v_cameAlong) → va_S A s.heap H locs → lv_has ls 9 [(0, .ref a0), (1, .int p1), (3, .int l3), (4, .int l4), (5, .int l5), (6, .int l6)] → W p l e (uR 1 27) s m args below meth c H locs 0 0 Q (F0 m 150 ls []) := by
            intro l3 l4 l5 l6 v_farEnd v_queue v_cameAlong H locs ls E hP hD hS hl
            refine lv_iinc (v := (l6 + 1)) (lv' := [(6, .int (l6 + 1)), (0, .ref a0), (1, .int p1), (3, .int l3), (4, .int l4), (5, .int l5)]) hx hb dX1_bring_150 hl (k := 5) rfl rfl (by decide) rfl (fun ls hl => ?_)
            refine lv_goto (tgt := 46) hx hb dX1_bring_153 (by decide) ?_
            exact ih46 _ _ _ _ _ _ _ _ _ _ E hP hD hS (lv_sub hl [1, 2, 3, 4, 5, 0] rfl)
          refine lv_iload hx hb dX1_bring_46 (lv_at hl 5 rfl) ?_
          refine lv_iconst (v := 2) hx hb dX1_bring_48 (by decide) ?_
          refine lv_aload_n hx hb dX1_bring_49 rfl (lv_at hl 0 rfl) ?_
          refine gf_X1_15 h0 hP 0 rfl rfl dX1_bring_50 ?_
          refine lv_iload hx hb dX1_bring_53 (lv_at hl 4 rfl) ?_
          obtain ⟨g1, E⟩ := gd_e E
          refine aldi hx hb hK hP 2 rfl rfl g1 dX1_bring_55 ?_
          refine lv_imul hx hb dX1_bring_56 ?_
          refine lv_iconst (v := 1) hx hb dX1_bring_57 (by decide) ?_
          refine lv_iadd hx hb dX1_bring_58 ?_
          refine lv_icmp_gt (tgt := 156) hx hb dX1_bring_59 (by decide) (fun c2 => ?_) (fun c2 => ?_)
          · have E := br_p E c2
            refine lv_iinc (v := (l5 + 1)) (lv' := [(5, .int (l5 + 1)), (0, .ref a0), (1, .int p1), (3, .int l3), (4, .int l4), (6, .int l6)]) hx hb dX1_bring_156 hl (k := 4) rfl rfl (by decide) rfl (fun ls hl => ?_)
            refine lv_goto (tgt := 21) hx hb dX1_bring_159 (by decide) ?_
            exact ih21 _ _ _ _ _ _ _ _ _ E hP hD hS (lv_sub hl [1, 2, 3, 4, 0] rfl)
          · have E := br_n E c2
            refine lv_aload_n hx hb dX1_bring_62 rfl (lv_at hl 0 rfl) ?_
            refine gf_X1_9 h0 hP 0 rfl rfl dX1_bring_63 ?_
            refine lv_iload hx hb dX1_bring_66 (lv_at hl 5 rfl) ?_
            obtain ⟨g3, E⟩ := gd_e E
            refine aldi hx hb hK hP 1 rfl rfl g3 dX1_bring_68 ?_
            refine lv_istore (lv' := [(7, .int (v_farEnd l6.toNatClampNeg)), (0, .ref a0), (1, .int p1), (3, .int l3), (4, .int l4), (5, .int l5), (6, .int l6)]) hx hb dX1_bring_69 hl (by decide) rfl (fun ls hl => ?_)
            refine lv_iload hx hb dX1_bring_71 (lv_at hl 0 rfl) ?_
            refine lv_iconst (v := (-1)) hx hb dX1_bring_73 (by decide) ?_
            refine lv_icmp_eq (tgt := 150) hx hb dX1_bring_74 (by decide) (fun c4 => ?_) (fun c4 => ?_)
            · have E := br_p E c4
              exact J150 _ _ _ _ _ _ _ _ _ _ E hP hD hS (lv_sub hl [1, 2, 3, 4, 5, 6] rfl)
            · have E := br_n E c4
              refine lv_iload_n hx hb dX1_bring_77 rfl (lv_at hl 3 rfl) ?_
              refine lv_iload hx hb dX1_bring_78 (lv_at hl 0 rfl) ?_
              refine lv_ishr hx hb dX1_bring_80 ?_
              refine lv_iconst (v := 1) hx hb dX1_bring_81 (by decide) ?_
              refine lv_iand hx hb dX1_bring_82 ?_
              refine lv_iconst (v := 1) hx hb dX1_bring_83 (by decide) ?_
              refine lv_icmp_ne (tgt := 90) hx hb dX1_bring_84 (by decide) (fun c5 => ?_) (fun c5 => ?_)
              · have E := br_n E c5
                refine lv_aload_n hx hb dX1_bring_90 rfl (lv_at hl 1 rfl) ?_
                refine gf_X1_18 h0 hP 0 rfl rfl dX1_bring_91 ?_
                refine lv_iload hx hb dX1_bring_94 (lv_at hl 0 rfl) ?_
                refine lv_iload hx hb dX1_bring_96 (lv_at hl 6 rfl) ?_
                obtain ⟨g6, E⟩ := gd_e E
                refine asti (wo := (wX1 cI a0 a1 a2 a3 v_farEnd v_queue (upd v_cameAlong (v_farEnd l6.toNatClampNeg).toNatClampNeg l6))) hx hb hK hP hD hS 3 rfl rfl g6 rfl dX1_bring_98 (fun H locs hP hD hS => ?_)
                refine lv_aload_n hx hb dX1_bring_99 rfl (lv_at hl 1 rfl) ?_
                refine lv_iload hx hb dX1_bring_100 (lv_at hl 0 rfl) ?_
                obtain ⟨r7, hF, E⟩ := bn_e E
                refine callVfi (wo := (wX1 cI a0 a1 a2 a3 v_farEnd v_queue (upd v_cameAlong (v_farEnd l6.toNatClampNeg).toNatClampNeg l6))) h0 (c_X1_freePebble l D cI cZ cS a0 a1 a2 a3 v_farEnd v_queue (upd v_cameAlong (v_farEnd l6.toNatClampNeg).toNatClampNeg l6) (v_farEnd l6.toNatClampNeg) r7 hF) (gV wq_345 wq_347 wp_8 wq_5 wq_348) hdX1_freePebble ⟨Nat.le_of_ble_eq_true rfl, Nat.le_of_ble_eq_true rfl⟩ ⟨Nat.le_refl _, Nat.le_refl _⟩ hP hD hS hA 0 1 rfl rfl rfl hl.1 rfl (Nat.le_of_ble_eq_true rfl) dX1_bring_102 (fun H locs hP hD hS => ?_)
                refine lv_istore (lv' := [(8, .int r7), (7, .int (v_farEnd l6.toNatClampNeg)), (0, .ref a0), (1, .int p1), (3, .int l3), (4, .int l4), (5, .int l5), (6, .int l6)]) hx hb dX1_bring_105 hl (by decide) rfl (fun ls hl => ?_)
                refine lv_iload hx hb dX1_bring_107 (lv_at hl 0 rfl) ?_
                refine lv_iconst (v := (-1)) hx hb dX1_bring_109 (by decide) ?_
                refine lv_icmp_eq (tgt := 124) hx hb dX1_bring_110 (by decide) (fun c8 => ?_) (fun c8 => ?_)
                · have E := br_p E c8
                  refine lv_iload_n hx hb dX1_bring_124 rfl (lv_at hl 4 rfl) ?_
                  refine lv_iconst (v := 1) hx hb dX1_bring_125 (by decide) ?_
                  refine lv_iload hx hb dX1_bring_126 (lv_at hl 1 rfl) ?_
                  refine lv_ishl hx hb dX1_bring_128 ?_
                  refine lv_ior hx hb dX1_bring_129 ?_
                  refine lv_istore_n (lv' := [(3, .int (l3 ||| ((1 : Int32) <<< ((v_farEnd l6.toNatClampNeg) &&& 31)))), (8, .int r7), (7, .int (v_farEnd l6.toNatClampNeg)), (0, .ref a0), (1, .int p1), (4, .int l4), (5, .int l5), (6, .int l6)]) hx hb dX1_bring_130 rfl hl (by decide) rfl (fun ls hl => ?_)
                  refine lv_iload hx hb dX1_bring_131 (lv_at hl 5 rfl) ?_
                  refine lv_bipush (v := 12) hx hb dX1_bring_133 (by decide) ?_
                  refine lv_icmp_ge (tgt := 150) hx hb dX1_bring_135 (by decide) (fun c9 => ?_) (fun c9 => ?_)
                  · have E := br_p E c9
                    exact J150 _ _ _ _ _ _ _ _ _ _ E hP hD hS (lv_sub hl [3, 4, 0, 5, 6, 7] rfl)
                  · have E := br_n E c9
                    refine lv_aload_n hx hb dX1_bring_138 rfl (lv_at hl 3 rfl) ?_
                    refine gf_X1_15 h0 hP 0 rfl rfl dX1_bring_139 ?_
                    refine lv_iload hx hb dX1_bring_142 (lv_at hl 5 rfl) ?_
                    refine lv_iload hx hb dX1_bring_144 (lv_at hl 2 rfl) ?_
                    obtain ⟨g10, E⟩ := gd_e E
                    refine asti (wo := (wX1 cI a0 a1 a2 a3 v_farEnd (upd v_queue l4.toNatClampNeg (v_farEnd l6.toNatClampNeg)) (upd v_cameAlong (v_farEnd l6.toNatClampNeg).toNatClampNeg l6))) hx hb hK hP hD hS 2 rfl rfl g10 rfl dX1_bring_146 (fun H locs hP hD hS => ?_)
                    refine lv_iinc (v := (l4 + 1)) (lv' := [(4, .int (l4 + 1)), (3, .int (l3 ||| ((1 : Int32) <<< ((v_farEnd l6.toNatClampNeg) &&& 31)))), (8, .int r7), (7, .int (v_farEnd l6.toNatClampNeg)), (0, .ref a0), (1, .int p1), (5, .int l5), (6, .int l6)]) hx hb dX1_bring_147 hl (k := 5) rfl rfl (by decide) rfl (fun ls hl => ?_)
                    exact J150 _ _ _ _ _ _ _ _ _ _ E hP hD hS (lv_sub hl [4, 5, 1, 0, 6, 7] rfl)
                · have E := br_n E c8
                  refine lv_aload_n hx hb dX1_bring_113 rfl (lv_at hl 2 rfl) ?_
                  refine lv_iload_n hx hb dX1_bring_114 rfl (lv_at hl 3 rfl) ?_
                  refine lv_iload hx hb dX1_bring_115 (lv_at hl 1 rfl) ?_
                  refine lv_iload hx hb dX1_bring_117 (lv_at hl 0 rfl) ?_
                  obtain ⟨r11, hF, E⟩ := bn_e E
                  refine callVfv (wo := (wX1 cI a0 a1 a2 a3 r11 v_queue (upd v_cameAlong (v_farEnd l6.toNatClampNeg).toNatClampNeg l6))) h0 (c_X1_turnRound l D cI cZ cS a0 a1 a2 a3 v_farEnd v_queue (upd v_cameAlong (v_farEnd l6.toNatClampNeg).toNatClampNeg l6) p1 (v_farEnd l6.toNatClampNeg) r7 r11 hF) (gV wq_349 wq_351 wp_9 wq_5 wq_352) hdX1_turnRound ⟨Nat.le_of_ble_eq_true rfl, Nat.le_of_ble_eq_true rfl⟩ ⟨Nat.le_refl _, Nat.le_refl _⟩ hP hD hS hA 0 1 rfl rfl rfl hl.1 rfl (Nat.le_of_ble_eq_true rfl) dX1_bring_119 (fun H locs hP hD hS => ?_)
                  refine lv_iconst (v := 1) hx hb dX1_bring_122 (by decide) ?_
                  exact hfin _ (Option.some.inj E) _ _ _ _ (Or.inr rfl) hP hD hS dX1_bring_123
              · have E := br_p E c5
                refine lv_goto (tgt := 150) hx hb dX1_bring_87 (by decide) ?_
                exact J150 _ _ _ _ _ _ _ _ _ _ E hP hD hS (lv_sub hl [1, 2, 3, 4, 5, 6] rfl)
      refine lv_iload hx hb dX1_bring_21 (lv_at hl 4 rfl) ?_
      refine lv_iload hx hb dX1_bring_23 (lv_at hl 3 rfl) ?_
      refine lv_icmp_ge (tgt := 162) hx hb dX1_bring_25 (by decide) (fun c12 => ?_) (fun c12 => ?_)
      · have E := br_p E c12
        refine lv_iconst (v := 0) hx hb dX1_bring_162 (by decide) ?_
        exact hfin _ (Option.some.inj E) _ _ _ _ (Or.inl rfl) hP hD hS dX1_bring_163
      · have E := br_n E c12
        refine lv_iload hx hb dX1_bring_28 (lv_at hl 4 rfl) ?_
        refine lv_bipush (v := 12) hx hb dX1_bring_30 (by decide) ?_
        refine lv_icmp_ge (tgt := 162) hx hb dX1_bring_32 (by decide) (fun c13 => ?_) (fun c13 => ?_)
        · have E := br_p E c13
          refine lv_iconst (v := 0) hx hb dX1_bring_162 (by decide) ?_
          exact hfin _ (Option.some.inj E) _ _ _ _ (Or.inl rfl) hP hD hS dX1_bring_163
        · have E := br_n E c13
          refine lv_iconst (v := 2) hx hb dX1_bring_35 (by decide) ?_
          refine lv_aload_n hx hb dX1_bring_36 rfl (lv_at hl 0 rfl) ?_
          refine gf_X1_15 h0 hP 0 rfl rfl dX1_bring_37 ?_
          refine lv_iload hx hb dX1_bring_40 (lv_at hl 4 rfl) ?_
          obtain ⟨g14, E⟩ := gd_e E
          refine aldi hx hb hK hP 2 rfl rfl g14 dX1_bring_42 ?_
          refine lv_imul hx hb dX1_bring_43 ?_
          refine lv_istore (lv' := [(6, .int (2 * (v_queue l5.toNatClampNeg))), (0, .ref a0), (1, .int p1), (3, .int l3), (4, .int l4), (5, .int l5)]) hx hb dX1_bring_44 hl (by decide) rfl (fun ls hl => ?_)
          exact J46 5000 _ _ _ _ _ _ _ _ _ _ E hP hD hS (lv_sub hl [1, 2, 3, 4, 5, 0] rfl)
  refine lv_iconst (v := 1) hx hb dX1_bring_0 (by decide) ?_
  refine lv_iload_n hx hb dX1_bring_1 rfl (lv_at hl 1 rfl) ?_
  refine lv_ishl hx hb dX1_bring_2 ?_
  refine lv_iconst (v := 1) hx hb dX1_bring_3 (by decide) ?_
  refine lv_iload_n hx hb dX1_bring_4 rfl (lv_at hl 2 rfl) ?_
  refine lv_ishl hx hb dX1_bring_5 ?_
  refine lv_ior hx hb dX1_bring_6 ?_
  refine lv_istore_n (lv' := [(3, .int (((1 : Int32) <<< (p1 &&& 31)) ||| ((1 : Int32) <<< (p2 &&& 31)))), (0, .ref a0), (1, .int p1), (2, .int p2)]) hx hb dX1_bring_7 rfl hl (by decide) rfl (fun ls hl => ?_)
  refine lv_iconst (v := 1) hx hb dX1_bring_8 (by decide) ?_
  refine lv_istore (lv' := [(4, .int 1), (3, .int (((1 : Int32) <<< (p1 &&& 31)) ||| ((1 : Int32) <<< (p2 &&& 31)))), (0, .ref a0), (1, .int p1), (2, .int p2)]) hx hb dX1_bring_9 hl (by decide) rfl (fun ls hl => ?_)
  refine lv_aload_n hx hb dX1_bring_11 rfl (lv_at hl 2 rfl) ?_
  refine gf_X1_15 h0 hP 0 rfl rfl dX1_bring_12 ?_
  refine lv_iconst (v := 0) hx hb dX1_bring_15 (by decide) ?_
  refine lv_iload_n hx hb dX1_bring_16 rfl (lv_at hl 3 rfl) ?_
  obtain ⟨g15, E⟩ := gd_e E
  refine asti (wo := (wX1 cI a0 a1 a2 a3 v_farEnd (upd v_queue ((0 : Int32).toNatClampNeg) p1) v_cameAlong)) hx hb hK hP hD hS 2 rfl rfl g15 rfl dX1_bring_17 (fun H locs hP hD hS => ?_)
  refine lv_iconst (v := 0) hx hb dX1_bring_18 (by decide) ?_
  refine lv_istore (lv' := [(5, .int 0), (4, .int 1), (3, .int (((1 : Int32) <<< (p1 &&& 31)) ||| ((1 : Int32) <<< (p2 &&& 31)))), (0, .ref a0), (1, .int p1), (2, .int p2)]) hx hb dX1_bring_19 hl (by decide) rfl (fun ls hl => ?_)
  exact J21 5000 _ _ _ _ _ _ _ _ _ E hP hD hS (lv_sub hl [3, 4, 2, 1, 0] rfl)
theorem hdX1_wouldCarry : yX1_wouldCarry.cls = RX1 ∧ yX1_wouldCarry.cls ≠ "java/lang/invoke/MethodHandle" ∧ yX1_wouldCarry.cls ≠ "java/lang/invoke/VarHandle" ∧ (parseMethodDescriptor yX1_wouldCarry.desc).map (fun d => d.parameters.length) = some 2 := by decide +kernel
noncomputable def FX1_wouldCarry_b48 (p1 p2 : Int32)  (v_farEnd v_queue v_cameAlong : Nat → Int32) : Option (Int32 × (Nat → Int32) × (Nat → Int32) × (Nat → Int32)) := ((FX1_countFree p1 v_farEnd).bind (fun r1 => ((FX1_countFree p2 v_farEnd).bind (fun r2 => (if (r1 + r2) = 4 then (some (1, v_farEnd, v_queue, v_cameAlong)) else (some (0, v_farEnd, v_queue, v_cameAlong)))))))
noncomputable def FX1_wouldCarry_b42 (p1 p2 : Int32) (k2 : Int32 → (Nat → Int32) → (Nat → Int32) → (Nat → Int32) → Option (Int32 × (Nat → Int32) × (Nat → Int32) × (Nat → Int32))) (l3 : Int32) (v_farEnd v_queue v_cameAlong : Nat → Int32) : Option (Int32 × (Nat → Int32) × (Nat → Int32) × (Nat → Int32)) := (k2 (l3 + 1) v_farEnd v_queue v_cameAlong)
noncomputable def FX1_wouldCarry_b2 (p1 p2 : Int32)  (k2 : Int32 → (Nat → Int32) → (Nat → Int32) → (Nat → Int32) → Option (Int32 × (Nat → Int32) × (Nat → Int32) × (Nat → Int32))) (l3 : Int32) (v_farEnd v_queue v_cameAlong : Nat → Int32) : Option (Int32 × (Nat → Int32) × (Nat → Int32) × (Nat → Int32)) := (if 4 ≤ l3 then (FX1_wouldCarry_b48 p1 p2  v_farEnd v_queue v_cameAlong) else ((FX1_countFree p1 v_farEnd).bind (fun r5 => ((FX1_countFree p2 v_farEnd).bind (fun r6 => (if 4 ≤ (r5 + r6) then (FX1_wouldCarry_b48 p1 p2  v_farEnd v_queue v_cameAlong) else ((FX1_bring p1 p2 v_farEnd v_queue v_cameAlong).bind (fun r8 => (if r8.1 = 0 then ((FX1_bring p2 p1 r8.2.1 r8.2.2.1 r8.2.2.2).bind (fun r10 => (if r10.1 = 0 then (some (0, r10.2.1, r10.2.2.1, r10.2.2.2)) else (FX1_wouldCarry_b42 p1 p2 k2 l3 r10.2.1 r10.2.2.1 r10.2.2.2)))) else (FX1_wouldCarry_b42 p1 p2 k2 l3 r8.2.1 r8.2.2.1 r8.2.2.2))))))))))
noncomputable def FX1_wouldCarry_h2 (p1 p2 : Int32)  : Nat → Int32 → (Nat → Int32) → (Nat → Int32) → (Nat → Int32) → Option (Int32 × (Nat → Int32) × (Nat → Int32) × (Nat → Int32))
  | 0 => fun _ _ _ _ => none
  | n + 1 => fun l3 v_farEnd v_queue v_cameAlong => FX1_wouldCarry_b2 p1 p2  (FX1_wouldCarry_h2 p1 p2  n) l3 v_farEnd v_queue v_cameAlong
noncomputable def FX1_wouldCarry (p1 p2 : Int32) (v_farEnd v_queue v_cameAlong : Nat → Int32) : Option (Int32 × (Nat → Int32) × (Nat → Int32) × (Nat → Int32)) := (FX1_wouldCarry_h2 p1 p2  5000 0 v_farEnd v_queue v_cameAlong)
set_option maxHeartbeats 4000000 in
set_option maxRecDepth 100000 in
theorem c_X1_wouldCarry (l : Launch) (D : va_G) (cI cZ cS : ClassId) (a0 a1 a2 a3 : Nat) (v_farEnd v_queue v_cameAlong : Nat → Int32) (p1 p2 : Int32) (u : Int32 × (Nat → Int32) × (Nat → Int32) × (Nat → Int32)) (hF : FX1_wouldCarry p1 p2 v_farEnd v_queue v_cameAlong = some u) : MCi l D (tyL cI cZ cS) yX1_wouldCarry cX1_wouldCarry 4 (some .boolean) 2 55 [.ref a0, .int p1, .int p2] (wX1 cI a0 a1 a2 a3 v_farEnd v_queue v_cameAlong) (wX1 cI a0 a1 a2 a3 u.2.1 u.2.2.1 u.2.2.2) u.1 := by
  refine MCz.mk (by decide) (Nat.le_of_ble_eq_true rfl) ?_
  intro p e s m args below meth c A ls Q h0 hP hD hA hS hl hfin0
  have hfin : ∀ (u' : Int32 × (Nat → Int32) × (Nat → Int32) × (Nat → Int32)), u' = u → ∀ (H : Heap) (locs : List Loc) (ls : Array Slot) (pc : Nat), (u'.1 = 0 ∨ u'.1 = 1) → va_P D vwCl (wX1 cI a0 a1 a2 a3 u'.2.1 u'.2.2.1 u'.2.2.2) H → va_D A (wX1 cI a0 a1 a2 a3 u'.2.1 u'.2.2.1 u'.2.2.2) → va_S A s.heap H locs → decode cX1_wouldCarry pc = .ok (.ireturn, 1) → W p l e (uR 2 55) s m args below meth c H locs 0 0 Q (F0 m pc ls [.int u'.1]) := by intro u' hu; subst hu; exact hfin0
  clear hfin0
  obtain ⟨hx, hb, hr, hlk, hml, hown, hts, hK⟩ := id h0
  have hl : lv_has ls 4 [(0, .ref a0), (1, .int p1), (2, .int p2)] := hl
  have E := hF
  have J48 : ∀ (v_farEnd v_queue v_cameAlong : Nat → Int32) (H : Heap) (locs : List Loc) (ls : Array Slot), FX1_wouldCarry_b48 p1 p2  v_farEnd v_queue v_cameAlong = some u → va_P D vwCl (wX1 cI a0 a1 a2 a3 v_farEnd v_queue v_cameAlong) H → va_D A (wX1 cI a0 a1 a2 a3 v_farEnd v_queue v_cameAlong) → va_S A s.heap H locs → lv_has ls 4 [(0, .ref a0), (1, .int p1), (2, .int p2)] → W p l e (uR 2 55) s m args below meth c H locs 0 0 Q (F0 m 48 ls []) := by
    intro v_farEnd v_queue v_cameAlong H locs ls E hP hD hS hl
    refine lv_aload_n hx hb dX1_wouldCarry_48 rfl (lv_at hl 0 rfl) ?_
    refine lv_iload_n hx hb dX1_wouldCarry_49 rfl (lv_at hl 1 rfl) ?_
    obtain ⟨r1, hF, E⟩ := bn_e E
    refine callVfi (wo := (wX1 cI a0 a1 a2 a3 v_farEnd v_queue v_cameAlong)) h0 (c_X1_countFree l D cI cZ cS a0 a1 a2 a3 v_farEnd v_queue v_cameAlong p1 r1 hF) (gV wq_337 wq_339 wp_6 wq_5 wq_340) hdX1_countFree ⟨Nat.le_of_ble_eq_true rfl, Nat.le_of_ble_eq_true rfl⟩ ⟨Nat.le_refl _, Nat.le_refl _⟩ hP hD hS hA 0 1 rfl rfl rfl hl.1 rfl (Nat.le_of_ble_eq_true rfl) dX1_wouldCarry_50 (fun H locs hP hD hS => ?_)
    refine lv_aload_n hx hb dX1_wouldCarry_53 rfl (lv_at hl 0 rfl) ?_
    refine lv_iload_n hx hb dX1_wouldCarry_54 rfl (lv_at hl 2 rfl) ?_
    obtain ⟨r2, hF, E⟩ := bn_e E
    refine callVfi (wo := (wX1 cI a0 a1 a2 a3 v_farEnd v_queue v_cameAlong)) h0 (c_X1_countFree l D cI cZ cS a0 a1 a2 a3 v_farEnd v_queue v_cameAlong p2 r2 hF) (gV wq_337 wq_339 wp_6 wq_5 wq_340) hdX1_countFree ⟨Nat.le_of_ble_eq_true rfl, Nat.le_of_ble_eq_true rfl⟩ ⟨Nat.le_refl _, Nat.le_refl _⟩ hP hD hS hA 0 1 rfl rfl rfl hl.1 rfl (Nat.le_of_ble_eq_true rfl) dX1_wouldCarry_55 (fun H locs hP hD hS => ?_)
    refine lv_iadd hx hb dX1_wouldCarry_58 ?_
    refine lv_iconst (v := 4) hx hb dX1_wouldCarry_59 (by decide) ?_
    refine lv_icmp_ne (tgt := 67) hx hb dX1_wouldCarry_60 (by decide) (fun c3 => ?_) (fun c3 => ?_)
    · have E := br_n E c3
      refine lv_iconst (v := 0) hx hb dX1_wouldCarry_67 (by decide) ?_
      exact hfin _ (Option.some.inj E) _ _ _ _ (Or.inl rfl) hP hD hS dX1_wouldCarry_68
    · have E := br_p E c3
      refine lv_iconst (v := 1) hx hb dX1_wouldCarry_63 (by decide) ?_
      refine lv_goto (tgt := 68) hx hb dX1_wouldCarry_64 (by decide) ?_
      exact hfin _ (Option.some.inj E) _ _ _ _ (Or.inr rfl) hP hD hS dX1_wouldCarry_68
  have J2 : ∀ (n2 : Nat) (l3 : Int32) (v_farEnd v_queue v_cameAlong : Nat → Int32) (H : Heap) (locs : List Loc) (ls : Array Slot), FX1_wouldCarry_h2 p1 p2  n2 l3 v_farEnd v_queue v_cameAlong = some u → va_P D vwCl (wX1 cI a0 a1 a2 a3 v_farEnd v_queue v_cameAlong) H → va_D A (wX1 cI a0 a1 a2 a3 v_farEnd v_queue v_cameAlong) → va_S A s.heap H locs → lv_has ls 4 [(0, .ref a0), (1, .int p1), (2, .int p2), (3, .int l3)] → W p l e (uR 2 55) s m args below meth c H locs 0 0 Q (F0 m 2 ls []) := by
    intro n2
    induction n2 with
    | zero => intro l3 v_farEnd v_queue v_cameAlong H locs ls E; exact none_e E
    | succ n2 ih2 =>
      intro l3 v_farEnd v_queue v_cameAlong H locs ls E hP hD hS hl
      have E : FX1_wouldCarry_b2 p1 p2  (FX1_wouldCarry_h2 p1 p2  n2) l3 v_farEnd v_queue v_cameAlong = some u := E
      have J42 : ∀ (l3 : Int32) (v_farEnd v_queue v_cameAlong : Nat → Int32) (H : Heap) (locs : List Loc) (ls : Array Slot), FX1_wouldCarry_b42 p1 p2 (FX1_wouldCarry_h2 p1 p2  n2) l3 v_farEnd v_queue v_cameAlong = some u → va_P D vwCl (wX1 cI a0 a1 a2 a3 v_farEnd v_queue v_cameAlong) H → va_D A (wX1 cI a0 a1 a2 a3 v_farEnd v_queue v_cameAlong) → va_S A s.heap H locs → lv_has ls 4 [(0, .ref a0), (1, .int p1), (2, .int p2), (3, .int l3)] → W p l e (uR 2 55) s m args below meth c H locs 0 0 Q (F0 m 42 ls []) := by
        intro l3 v_farEnd v_queue v_cameAlong H locs ls E hP hD hS hl
        refine lv_iinc (v := (l3 + 1)) (lv' := [(3, .int (l3 + 1)), (0, .ref a0), (1, .int p1), (2, .int p2)]) hx hb dX1_wouldCarry_42 hl (k := 3) rfl rfl (by decide) rfl (fun ls hl => ?_)
        refine lv_goto (tgt := 2) hx hb dX1_wouldCarry_45 (by decide) ?_
        exact ih2 _ _ _ _ _ _ _ E hP hD hS (lv_sub hl [1, 2, 3, 0] rfl)
      refine lv_iload_n hx hb dX1_wouldCarry_2 rfl (lv_at hl 3 rfl) ?_
      refine lv_iconst (v := 4) hx hb dX1_wouldCarry_3 (by decide) ?_
      refine lv_icmp_ge (tgt := 48) hx hb dX1_wouldCarry_4 (by decide) (fun c4 => ?_) (fun c4 => ?_)
      · have E := br_p E c4
        exact J48 _ _ _ _ _ _ E hP hD hS (lv_sub hl [0, 1, 2] rfl)
      · have E := br_n E c4
        refine lv_aload_n hx hb dX1_wouldCarry_7 rfl (lv_at hl 0 rfl) ?_
        refine lv_iload_n hx hb dX1_wouldCarry_8 rfl (lv_at hl 1 rfl) ?_
        obtain ⟨r5, hF, E⟩ := bn_e E
        refine callVfi (wo := (wX1 cI a0 a1 a2 a3 v_farEnd v_queue v_cameAlong)) h0 (c_X1_countFree l D cI cZ cS a0 a1 a2 a3 v_farEnd v_queue v_cameAlong p1 r5 hF) (gV wq_337 wq_339 wp_6 wq_5 wq_340) hdX1_countFree ⟨Nat.le_of_ble_eq_true rfl, Nat.le_of_ble_eq_true rfl⟩ ⟨Nat.le_refl _, Nat.le_refl _⟩ hP hD hS hA 0 1 rfl rfl rfl hl.1 rfl (Nat.le_of_ble_eq_true rfl) dX1_wouldCarry_9 (fun H locs hP hD hS => ?_)
        refine lv_aload_n hx hb dX1_wouldCarry_12 rfl (lv_at hl 0 rfl) ?_
        refine lv_iload_n hx hb dX1_wouldCarry_13 rfl (lv_at hl 2 rfl) ?_
        obtain ⟨r6, hF, E⟩ := bn_e E
        refine callVfi (wo := (wX1 cI a0 a1 a2 a3 v_farEnd v_queue v_cameAlong)) h0 (c_X1_countFree l D cI cZ cS a0 a1 a2 a3 v_farEnd v_queue v_cameAlong p2 r6 hF) (gV wq_337 wq_339 wp_6 wq_5 wq_340) hdX1_countFree ⟨Nat.le_of_ble_eq_true rfl, Nat.le_of_ble_eq_true rfl⟩ ⟨Nat.le_refl _, Nat.le_refl _⟩ hP hD hS hA 0 1 rfl rfl rfl hl.1 rfl (Nat.le_of_ble_eq_true rfl) dX1_wouldCarry_14 (fun H locs hP hD hS => ?_)
        refine lv_iadd hx hb dX1_wouldCarry_17 ?_
        refine lv_iconst (v := 4) hx hb dX1_wouldCarry_18 (by decide) ?_
        refine lv_icmp_ge (tgt := 48) hx hb dX1_wouldCarry_19 (by decide) (fun c7 => ?_) (fun c7 => ?_)
        · have E := br_p E c7
          exact J48 _ _ _ _ _ _ E hP hD hS (lv_sub hl [0, 1, 2] rfl)
        · have E := br_n E c7
          refine lv_aload_n hx hb dX1_wouldCarry_22 rfl (lv_at hl 0 rfl) ?_
          refine lv_iload_n hx hb dX1_wouldCarry_23 rfl (lv_at hl 1 rfl) ?_
          refine lv_iload_n hx hb dX1_wouldCarry_24 rfl (lv_at hl 2 rfl) ?_
          obtain ⟨r8, hF, E⟩ := bn_e E
          refine callVfi (wo := (wX1 cI a0 a1 a2 a3 r8.2.1 r8.2.2.1 r8.2.2.2)) h0 (c_X1_bring l D cI cZ cS a0 a1 a2 a3 v_farEnd v_queue v_cameAlong p1 p2 r8 hF) (gV wq_341 wq_343 wp_7 wq_5 wq_344) hdX1_bring ⟨Nat.le_of_ble_eq_true rfl, Nat.le_of_ble_eq_true rfl⟩ ⟨Nat.le_refl _, Nat.le_refl _⟩ hP hD hS hA 0 1 rfl rfl rfl hl.1 rfl (Nat.le_of_ble_eq_true rfl) dX1_wouldCarry_25 (fun H locs hP hD hS => ?_)
          refine lv_if_ne (tgt := 42) hx hb dX1_wouldCarry_28 (by decide) (fun c9 => ?_) (fun c9 => ?_)
          · have E := br_n E c9
            exact J42 _ _ _ _ _ _ _ E hP hD hS (lv_sub hl [0, 1, 2, 3] rfl)
          · have E := br_p E c9
            refine lv_aload_n hx hb dX1_wouldCarry_31 rfl (lv_at hl 0 rfl) ?_
            refine lv_iload_n hx hb dX1_wouldCarry_32 rfl (lv_at hl 2 rfl) ?_
            refine lv_iload_n hx hb dX1_wouldCarry_33 rfl (lv_at hl 1 rfl) ?_
            obtain ⟨r10, hF, E⟩ := bn_e E
            refine callVfi (wo := (wX1 cI a0 a1 a2 a3 r10.2.1 r10.2.2.1 r10.2.2.2)) h0 (c_X1_bring l D cI cZ cS a0 a1 a2 a3 r8.2.1 r8.2.2.1 r8.2.2.2 p2 p1 r10 hF) (gV wq_341 wq_343 wp_7 wq_5 wq_344) hdX1_bring ⟨Nat.le_of_ble_eq_true rfl, Nat.le_of_ble_eq_true rfl⟩ ⟨Nat.le_refl _, Nat.le_refl _⟩ hP hD hS hA 0 1 rfl rfl rfl hl.1 rfl (Nat.le_of_ble_eq_true rfl) dX1_wouldCarry_34 (fun H locs hP hD hS => ?_)
            refine lv_if_ne (tgt := 42) hx hb dX1_wouldCarry_37 (by decide) (fun c11 => ?_) (fun c11 => ?_)
            · have E := br_n E c11
              exact J42 _ _ _ _ _ _ _ E hP hD hS (lv_sub hl [0, 1, 2, 3] rfl)
            · have E := br_p E c11
              refine lv_iconst (v := 0) hx hb dX1_wouldCarry_40 (by decide) ?_
              exact hfin _ (Option.some.inj E) _ _ _ _ (Or.inl rfl) hP hD hS dX1_wouldCarry_41
  refine lv_iconst (v := 0) hx hb dX1_wouldCarry_0 (by decide) ?_
  refine lv_istore_n (lv' := [(3, .int 0), (0, .ref a0), (1, .int p1), (2, .int p2)]) hx hb dX1_wouldCarry_1 rfl hl (by decide) rfl (fun ls hl => ?_)
  exact J2 5000 _ _ _ _ _ _ _ E hP hD hS (lv_sub hl [1, 2, 3, 0] rfl)
theorem hdX1_lay : yX1_lay.cls = RX1 ∧ yX1_lay.cls ≠ "java/lang/invoke/MethodHandle" ∧ yX1_lay.cls ≠ "java/lang/invoke/VarHandle" ∧ (parseMethodDescriptor yX1_lay.desc).map (fun d => d.parameters.length) = some 2 := by decide +kernel
noncomputable def FX1_lay (p1 p2 : Int32) (v_farEnd : Nat → Int32) : Option ((Nat → Int32)) := (gd (vp_in (2 * p1) 24) (some (upd v_farEnd (2 * p1).toNatClampNeg p2)))
set_option maxHeartbeats 4000000 in
set_option maxRecDepth 100000 in
theorem c_X1_lay (l : Launch) (D : va_G) (cI cZ cS : ClassId) (a0 a1 a2 a3 : Nat) (v_farEnd v_queue v_cameAlong : Nat → Int32) (p1 p2 : Int32) (u : (Nat → Int32)) (hF : FX1_lay p1 p2 v_farEnd = some u) : MCv l D (tyL cI cZ cS) yX1_lay cX1_lay 3 none 0 0 [.ref a0, .int p1, .int p2] (wX1 cI a0 a1 a2 a3 v_farEnd v_queue v_cameAlong) (wX1 cI a0 a1 a2 a3 u v_queue v_cameAlong) := by
  refine MCv.mk (by decide) (Nat.le_of_ble_eq_true rfl) ?_
  intro p e s m args below meth c A ls Q h0 hP hD hA hS hl hfin0
  have hfin : ∀ (u' : (Nat → Int32)), u' = u → ∀ (H : Heap) (locs : List Loc) (ls : Array Slot) (pc : Nat), va_P D vwCl (wX1 cI a0 a1 a2 a3 u' v_queue v_cameAlong) H → va_D A (wX1 cI a0 a1 a2 a3 u' v_queue v_cameAlong) → va_S A s.heap H locs → decode cX1_lay pc = .ok (.return_, 1) → W p l e (uR 0 0) s m args below meth c H locs 0 0 Q (F0 m pc ls []) := by intro u' hu; subst hu; exact hfin0
  clear hfin0
  obtain ⟨hx, hb, hr, hlk, hml, hown, hts, hK⟩ := id h0
  have hl : lv_has ls 3 [(0, .ref a0), (1, .int p1), (2, .int p2)] := hl
  have E := hF
  refine lv_aload_n hx hb dX1_lay_0 rfl (lv_at hl 0 rfl) ?_
  refine gf_X1_9 h0 hP 0 rfl rfl dX1_lay_1 ?_
  refine lv_iconst (v := 2) hx hb dX1_lay_4 (by decide) ?_
  refine lv_iload_n hx hb dX1_lay_5 rfl (lv_at hl 1 rfl) ?_
  refine lv_imul hx hb dX1_lay_6 ?_
  refine lv_iload_n hx hb dX1_lay_7 rfl (lv_at hl 2 rfl) ?_
  obtain ⟨g1, E⟩ := gd_e E
  refine asti (wo := (wX1 cI a0 a1 a2 a3 (upd v_farEnd (2 * p1).toNatClampNeg p2) v_queue v_cameAlong)) hx hb hK hP hD hS 1 rfl rfl g1 rfl dX1_lay_8 (fun H locs hP hD hS => ?_)
  exact hfin _ (Option.some.inj E) _ _ _ _ hP hD hS dX1_lay_9
