theorem hdX4_firstOf : yX4_firstOf.cls = RX4 ∧ yX4_firstOf.cls ≠ "java/lang/invoke/MethodHandle" ∧ yX4_firstOf.cls ≠ "java/lang/invoke/VarHandle" ∧ (parseMethodDescriptor yX4_firstOf.desc).map (fun d => d.parameters.length) = some 1 := by decide +kernel
noncomputable def FX4_firstOf_b2 (p1 : Int32) (v_near : Nat → Int32)  (k2 : Int32 → Option (Int32)) (l2 : Int32) : Option (Int32) := (if 12 ≤ l2 then (some (-1)) else (gd (vp_in l2 12) ((FJ6_bitCount (v_near l2.toNatClampNeg)).bind (fun r3 => (if r3 = p1 then (some l2) else (k2 (l2 + 1)))))))
noncomputable def FX4_firstOf_h2 (p1 : Int32) (v_near : Nat → Int32)  : Nat → Int32 → Option (Int32)
  | 0 => fun _ => none
  | n + 1 => fun l2 => FX4_firstOf_b2 p1 v_near  (FX4_firstOf_h2 p1 v_near  n) l2
noncomputable def FX4_firstOf (p1 : Int32) (v_near : Nat → Int32) : Option (Int32) := (FX4_firstOf_h2 p1 v_near  5000 0)
set_option maxHeartbeats 4000000 in
set_option maxRecDepth 100000 in
theorem c_X4_firstOf (l : Launch) (D : va_G) (cI cZ cS : ClassId) (a0 a1 a2 a3 a4 a5 a6 a7 a8 : Nat) (v_near : Nat → Int32) (v_steps : Int32) (v_gone v_had v_came v_farEnd v_queue v_cameAlong : Nat → Int32) (p1 : Int32) (u : Int32) (hF : FX4_firstOf p1 v_near = some u) : MCi l D (tyL cI cZ cS) yX4_firstOf cX4_firstOf 3 (some .int) 1 20 [.ref a0, .int p1] (wX4 cI a0 a1 a2 a3 a4 a5 a6 a7 a8 v_near v_steps v_gone v_had v_came v_farEnd v_queue v_cameAlong) (wX4 cI a0 a1 a2 a3 a4 a5 a6 a7 a8 v_near v_steps v_gone v_had v_came v_farEnd v_queue v_cameAlong) u := by
  refine MCi.mk (by decide) (Nat.le_of_ble_eq_true rfl) ?_
  intro p e s m args below meth c A ls Q h0 hP hD hA hS hl hfin0
  have hfin : ∀ (u' : Int32), u' = u → ∀ (H : Heap) (locs : List Loc) (ls : Array Slot) (pc : Nat), va_P D vwCl (wX4 cI a0 a1 a2 a3 a4 a5 a6 a7 a8 v_near v_steps v_gone v_had v_came v_farEnd v_queue v_cameAlong) H → va_D A (wX4 cI a0 a1 a2 a3 a4 a5 a6 a7 a8 v_near v_steps v_gone v_had v_came v_farEnd v_queue v_cameAlong) → va_S A s.heap H locs → decode cX4_firstOf pc = .ok (.ireturn, 1) → W p l e (uR 1 20) s m args below meth c H locs 0 0 Q (F0 m pc ls [.int u']) := by intro u' hu; subst hu; exact hfin0
  clear hfin0
  obtain ⟨hx, hb, hr, hlk, hml, hown, hts, hK⟩ := id h0
  have hl : lv_has ls 3 [(0, .ref a0), (1, .int p1)] := hl
  have E := hF
  have J2 : ∀ (n2 : Nat) (l2 : Int32) (H : Heap) (locs : List Loc) (ls : Array Slot), FX4_firstOf_h2 p1 v_near  n2 l2 = some u → va_P D vwCl (wX4 cI a0 a1 a2 a3 a4 a5 a6 a7 a8 v_near v_steps v_gone v_had v_came v_farEnd v_queue v_cameAlong) H → va_D A (wX4 cI a0 a1 a2 a3 a4 a5 a6 a7 a8 v_near v_steps v_gone v_had v_came v_farEnd v_queue v_cameAlong) → va_S A s.heap H locs → lv_has ls 3 [(0, .ref a0), (1, .int p1), (2, .int l2)] → W p l e (uR 1 20) s m args below meth c H locs 0 0 Q (F0 m 2 ls []) := by
    intro n2
    induction n2 with
    | zero => intro l2 H locs ls E; exact none_e E
    | succ n2 ih2 =>
      intro l2 H locs ls E hP hD hS hl
      have E : FX4_firstOf_b2 p1 v_near  (FX4_firstOf_h2 p1 v_near  n2) l2 = some u := E
      refine lv_iload_n hx hb dX4_firstOf_2 rfl (lv_at hl 2 rfl) ?_
      refine lv_bipush (v := 12) hx hb dX4_firstOf_3 (by decide) ?_
      refine lv_icmp_ge (tgt := 29) hx hb dX4_firstOf_5 (by decide) (fun c1 => ?_) (fun c1 => ?_)
      · have E := br_p E c1
        refine lv_iconst (v := (-1)) hx hb dX4_firstOf_29 (by decide) ?_
        exact hfin _ (Option.some.inj E) _ _ _ _ hP hD hS dX4_firstOf_30
      · have E := br_n E c1
        refine lv_aload_n hx hb dX4_firstOf_8 rfl (lv_at hl 0 rfl) ?_
        refine gf_X4_18 h0 hP 0 rfl rfl dX4_firstOf_9 ?_
        refine lv_iload_n hx hb dX4_firstOf_12 rfl (lv_at hl 2 rfl) ?_
        obtain ⟨g2, E⟩ := gd_e E
        refine aldi hx hb hK hP 1 rfl rfl g2 dX4_firstOf_13 ?_
        obtain ⟨r3, hF, E⟩ := bn_e E
        refine callSi (wo := (wX4 cI a0 a1 a2 a3 a4 a5 a6 a7 a8 v_near v_steps v_gone v_had v_came v_farEnd v_queue v_cameAlong)) h0 (c_J6_bitCount l D cI cZ cS (v_near l2.toNatClampNeg) r3 hF) (gS wq_491 wq_358 wq_10 wq_359) hdJ6_bitCount ⟨Nat.le_of_ble_eq_true rfl, Nat.le_of_ble_eq_true rfl⟩ ⟨Nat.le_refl _, Nat.le_refl _⟩ hP hD hS hA [] rfl rfl rfl rfl hl.1 rfl (Nat.le_of_ble_eq_true rfl) dX4_firstOf_14 (fun H locs hP hD hS => ?_)
        refine lv_iload_n hx hb dX4_firstOf_17 rfl (lv_at hl 1 rfl) ?_
        refine lv_icmp_ne (tgt := 23) hx hb dX4_firstOf_18 (by decide) (fun c4 => ?_) (fun c4 => ?_)
        · have E := br_n E c4
          refine lv_iinc (v := (l2 + 1)) (lv' := [(2, .int (l2 + 1)), (0, .ref a0), (1, .int p1)]) hx hb dX4_firstOf_23 hl (k := 2) rfl rfl (by decide) rfl (fun ls hl => ?_)
          refine lv_goto (tgt := 2) hx hb dX4_firstOf_26 (by decide) ?_
          exact ih2 _ _ _ _ E hP hD hS (lv_sub hl [1, 2, 0] rfl)
        · have E := br_p E c4
          refine lv_iload_n hx hb dX4_firstOf_21 rfl (lv_at hl 2 rfl) ?_
          exact hfin _ (Option.some.inj E) _ _ _ _ hP hD hS dX4_firstOf_22
  refine lv_iconst (v := 0) hx hb dX4_firstOf_0 (by decide) ?_
  refine lv_istore_n (lv' := [(2, .int 0), (0, .ref a0), (1, .int p1)]) hx hb dX4_firstOf_1 rfl hl (by decide) rfl (fun ls hl => ?_)
  exact J2 5000 _ _ _ _ E hP hD hS (lv_sub hl [1, 2, 0] rfl)
theorem hdX4_takeAway : yX4_takeAway.cls = RX4 ∧ yX4_takeAway.cls ≠ "java/lang/invoke/MethodHandle" ∧ yX4_takeAway.cls ≠ "java/lang/invoke/VarHandle" ∧ (parseMethodDescriptor yX4_takeAway.desc).map (fun d => d.parameters.length) = some 1 := by decide +kernel
noncomputable def FX4_takeAway_b9 (p1 : Int32)  (k9 : Int32 → (Nat → Int32) → Option ((Nat → Int32))) (l2 : Int32) (v_near : Nat → Int32) : Option ((Nat → Int32)) := (if 12 ≤ l2 then (some v_near) else (gd (vp_in l2 12) (gd (vp_in l2 12) (k9 (l2 + 1) (upd v_near l2.toNatClampNeg ((v_near l2.toNatClampNeg) &&& (((1 : Int32) <<< (p1 &&& 31)) ^^^ (-1))))))))
noncomputable def FX4_takeAway_h9 (p1 : Int32)  : Nat → Int32 → (Nat → Int32) → Option ((Nat → Int32))
  | 0 => fun _ _ => none
  | n + 1 => fun l2 v_near => FX4_takeAway_b9 p1  (FX4_takeAway_h9 p1  n) l2 v_near
noncomputable def FX4_takeAway (p1 : Int32) (v_near : Nat → Int32) : Option ((Nat → Int32)) := (gd (vp_in p1 12) (FX4_takeAway_h9 p1  5000 0 (upd v_near p1.toNatClampNeg 0)))
set_option maxHeartbeats 4000000 in
set_option maxRecDepth 100000 in
theorem c_X4_takeAway (l : Launch) (D : va_G) (cI cZ cS : ClassId) (a0 a1 a2 a3 a4 a5 a6 a7 a8 : Nat) (v_near : Nat → Int32) (v_steps : Int32) (v_gone v_had v_came v_farEnd v_queue v_cameAlong : Nat → Int32) (p1 : Int32) (u : (Nat → Int32)) (hF : FX4_takeAway p1 v_near = some u) : MCv l D (tyL cI cZ cS) yX4_takeAway cX4_takeAway 3 none 0 0 [.ref a0, .int p1] (wX4 cI a0 a1 a2 a3 a4 a5 a6 a7 a8 v_near v_steps v_gone v_had v_came v_farEnd v_queue v_cameAlong) (wX4 cI a0 a1 a2 a3 a4 a5 a6 a7 a8 u v_steps v_gone v_had v_came v_farEnd v_queue v_cameAlong) := by
  refine MCv.mk (by decide) (Nat.le_of_ble_eq_true rfl) ?_
  intro p e s m args below meth c A ls Q h0 hP hD hA hS hl hfin0
  have hfin : ∀ (u' : (Nat → Int32)), u' = u → ∀ (H : Heap) (locs : List Loc) (ls : Array Slot) (pc : Nat), va_P D vwCl (wX4 cI a0 a1 a2 a3 a4 a5 a6 a7 a8 u' v_steps v_gone v_had v_came v_farEnd v_queue v_cameAlong) H → va_D A (wX4 cI a0 a1 a2 a3 a4 a5 a6 a7 a8 u' v_steps v_gone v_had v_came v_farEnd v_queue v_cameAlong) → va_S A s.heap H locs → decode cX4_takeAway pc = .ok (.return_, 1) → W p l e (uR 0 0) s m args below meth c H locs 0 0 Q (F0 m pc ls []) := by intro u' hu; subst hu; exact hfin0
  clear hfin0
  obtain ⟨hx, hb, hr, hlk, hml, hown, hts, hK⟩ := id h0
  have hl : lv_has ls 3 [(0, .ref a0), (1, .int p1)] := hl
  have E := hF
  have J9 : ∀ (n9 : Nat) (l2 : Int32) (v_near : Nat → Int32) (H : Heap) (locs : List Loc) (ls : Array Slot), FX4_takeAway_h9 p1  n9 l2 v_near = some u → va_P D vwCl (wX4 cI a0 a1 a2 a3 a4 a5 a6 a7 a8 v_near v_steps v_gone v_had v_came v_farEnd v_queue v_cameAlong) H → va_D A (wX4 cI a0 a1 a2 a3 a4 a5 a6 a7 a8 v_near v_steps v_gone v_had v_came v_farEnd v_queue v_cameAlong) → va_S A s.heap H locs → lv_has ls 3 [(0, .ref a0), (1, .int p1), (2, .int l2)] → W p l e (uR 0 0) s m args below meth c H locs 0 0 Q (F0 m 9 ls []) := by
    intro n9
    induction n9 with
    | zero => intro l2 v_near H locs ls E; exact none_e E
    | succ n9 ih9 =>
      intro l2 v_near H locs ls E hP hD hS hl
      have E : FX4_takeAway_b9 p1  (FX4_takeAway_h9 p1  n9) l2 v_near = some u := E
      refine lv_iload_n hx hb dX4_takeAway_9 rfl (lv_at hl 2 rfl) ?_
      refine lv_bipush (v := 12) hx hb dX4_takeAway_10 (by decide) ?_
      refine lv_icmp_ge (tgt := 35) hx hb dX4_takeAway_12 (by decide) (fun c1 => ?_) (fun c1 => ?_)
      · have E := br_p E c1
        exact hfin _ (Option.some.inj E) _ _ _ _ hP hD hS dX4_takeAway_35
      · have E := br_n E c1
        refine lv_aload_n hx hb dX4_takeAway_15 rfl (lv_at hl 0 rfl) ?_
        refine gf_X4_18 h0 hP 0 rfl rfl dX4_takeAway_16 ?_
        refine lv_iload_n hx hb dX4_takeAway_19 rfl (lv_at hl 2 rfl) ?_
        refine lv_dup2_11 hx hb dX4_takeAway_20 rfl rfl ?_
        obtain ⟨g2, E⟩ := gd_e E
        refine aldi hx hb hK hP 1 rfl rfl g2 dX4_takeAway_21 ?_
        refine lv_iconst (v := 1) hx hb dX4_takeAway_22 (by decide) ?_
        refine lv_iload_n hx hb dX4_takeAway_23 rfl (lv_at hl 1 rfl) ?_
        refine lv_ishl hx hb dX4_takeAway_24 ?_
        refine lv_iconst (v := (-1)) hx hb dX4_takeAway_25 (by decide) ?_
        refine lv_ixor hx hb dX4_takeAway_26 ?_
        refine lv_iand hx hb dX4_takeAway_27 ?_
        obtain ⟨g3, E⟩ := gd_e E
        refine asti (wo := (wX4 cI a0 a1 a2 a3 a4 a5 a6 a7 a8 (upd v_near l2.toNatClampNeg ((v_near l2.toNatClampNeg) &&& (((1 : Int32) <<< (p1 &&& 31)) ^^^ (-1)))) v_steps v_gone v_had v_came v_farEnd v_queue v_cameAlong)) hx hb hK hP hD hS 1 rfl rfl g3 rfl dX4_takeAway_28 (fun H locs hP hD hS => ?_)
        refine lv_iinc (v := (l2 + 1)) (lv' := [(2, .int (l2 + 1)), (0, .ref a0), (1, .int p1)]) hx hb dX4_takeAway_29 hl (k := 2) rfl rfl (by decide) rfl (fun ls hl => ?_)
        refine lv_goto (tgt := 9) hx hb dX4_takeAway_32 (by decide) ?_
        exact ih9 _ _ _ _ _ E hP hD hS (lv_sub hl [1, 2, 0] rfl)
  refine lv_aload_n hx hb dX4_takeAway_0 rfl (lv_at hl 0 rfl) ?_
  refine gf_X4_18 h0 hP 0 rfl rfl dX4_takeAway_1 ?_
  refine lv_iload_n hx hb dX4_takeAway_4 rfl (lv_at hl 1 rfl) ?_
  refine lv_iconst (v := 0) hx hb dX4_takeAway_5 (by decide) ?_
  obtain ⟨g4, E⟩ := gd_e E
  refine asti (wo := (wX4 cI a0 a1 a2 a3 a4 a5 a6 a7 a8 (upd v_near p1.toNatClampNeg 0) v_steps v_gone v_had v_came v_farEnd v_queue v_cameAlong)) hx hb hK hP hD hS 1 rfl rfl g4 rfl dX4_takeAway_6 (fun H locs hP hD hS => ?_)
  refine lv_iconst (v := 0) hx hb dX4_takeAway_7 (by decide) ?_
  refine lv_istore_n (lv' := [(2, .int 0), (0, .ref a0), (1, .int p1)]) hx hb dX4_takeAway_8 rfl hl (by decide) rfl (fun ls hl => ?_)
  exact J9 5000 _ _ _ _ _ E hP hD hS (lv_sub hl [1, 2, 0] rfl)
theorem hdX4_layAll : yX4_layAll.cls = RX4 ∧ yX4_layAll.cls ≠ "java/lang/invoke/MethodHandle" ∧ yX4_layAll.cls ≠ "java/lang/invoke/VarHandle" ∧ (parseMethodDescriptor yX4_layAll.desc).map (fun d => d.parameters.length) = some 0 := by decide +kernel
noncomputable def FX4_layAll_b60 (v_near : Nat → Int32) (k9 : Int32 → (Nat → Int32) → (Nat → Int32) → (Nat → Int32) → Option ((Nat → Int32) × (Nat → Int32) × (Nat → Int32))) (k19 : Int32 → Int32 → (Nat → Int32) → (Nat → Int32) → (Nat → Int32) → Option ((Nat → Int32) × (Nat → Int32) × (Nat → Int32))) (l1 l2 : Int32) (v_farEnd v_queue v_cameAlong : Nat → Int32) : Option ((Nat → Int32) × (Nat → Int32) × (Nat → Int32)) := (k19 l1 (l2 + 1) v_farEnd v_queue v_cameAlong)
noncomputable def FX4_layAll_b19 (v_near : Nat → Int32) (k9 : Int32 → (Nat → Int32) → (Nat → Int32) → (Nat → Int32) → Option ((Nat → Int32) × (Nat → Int32) × (Nat → Int32))) (k19 : Int32 → Int32 → (Nat → Int32) → (Nat → Int32) → (Nat → Int32) → Option ((Nat → Int32) × (Nat → Int32) × (Nat → Int32))) (l1 l2 : Int32) (v_farEnd v_queue v_cameAlong : Nat → Int32) : Option ((Nat → Int32) × (Nat → Int32) × (Nat → Int32)) := (if 12 ≤ l2 then (k9 (l1 + 1) v_farEnd v_queue v_cameAlong) else (gd (vp_in l1 12) (if (((v_near l1.toNatClampNeg) >>> (l2 &&& 31)) &&& 1) = 1 then ((FX1_wouldCarry l1 l2 v_farEnd v_queue v_cameAlong).bind (fun r4 => (if r4.1 = 0 then (FX4_layAll_b60 v_near k9 k19 l1 l2 r4.2.1 r4.2.2.1 r4.2.2.2) else ((FX1_lay l1 l2 r4.2.1).bind (fun r6 => (FX4_layAll_b60 v_near k9 k19 l1 l2 r6 r4.2.2.1 r4.2.2.2)))))) else (FX4_layAll_b60 v_near k9 k19 l1 l2 v_farEnd v_queue v_cameAlong))))
noncomputable def FX4_layAll_h19 (v_near : Nat → Int32) (k9 : Int32 → (Nat → Int32) → (Nat → Int32) → (Nat → Int32) → Option ((Nat → Int32) × (Nat → Int32) × (Nat → Int32))) : Nat → Int32 → Int32 → (Nat → Int32) → (Nat → Int32) → (Nat → Int32) → Option ((Nat → Int32) × (Nat → Int32) × (Nat → Int32))
  | 0 => fun _ _ _ _ _ => none
  | n + 1 => fun l1 l2 v_farEnd v_queue v_cameAlong => FX4_layAll_b19 v_near k9 (FX4_layAll_h19 v_near k9 n) l1 l2 v_farEnd v_queue v_cameAlong
noncomputable def FX4_layAll_b9 (v_near : Nat → Int32)  (k9 : Int32 → (Nat → Int32) → (Nat → Int32) → (Nat → Int32) → Option ((Nat → Int32) × (Nat → Int32) × (Nat → Int32))) (l1 : Int32) (v_farEnd v_queue v_cameAlong : Nat → Int32) : Option ((Nat → Int32) × (Nat → Int32) × (Nat → Int32)) := (if 12 ≤ l1 then (some (v_farEnd, v_queue, v_cameAlong)) else (FX4_layAll_h19 v_near k9 5000 l1 (l1 + 1) v_farEnd v_queue v_cameAlong))
noncomputable def FX4_layAll_h9 (v_near : Nat → Int32)  : Nat → Int32 → (Nat → Int32) → (Nat → Int32) → (Nat → Int32) → Option ((Nat → Int32) × (Nat → Int32) × (Nat → Int32))
  | 0 => fun _ _ _ _ => none
  | n + 1 => fun l1 v_farEnd v_queue v_cameAlong => FX4_layAll_b9 v_near  (FX4_layAll_h9 v_near  n) l1 v_farEnd v_queue v_cameAlong
noncomputable def FX4_layAll (v_near v_farEnd v_queue v_cameAlong : Nat → Int32) : Option ((Nat → Int32) × (Nat → Int32) × (Nat → Int32)) := ((FX1_freeAll v_farEnd).bind (fun r8 => (FX4_layAll_h9 v_near  5000 0 r8 v_queue v_cameAlong)))
set_option maxHeartbeats 4000000 in
set_option maxRecDepth 100000 in
theorem c_X4_layAll (l : Launch) (D : va_G) (cI cZ cS : ClassId) (a0 a1 a2 a3 a4 a5 a6 a7 a8 : Nat) (v_near : Nat → Int32) (v_steps : Int32) (v_gone v_had v_came v_farEnd v_queue v_cameAlong : Nat → Int32)  (u : (Nat → Int32) × (Nat → Int32) × (Nat → Int32)) (hF : FX4_layAll v_near v_farEnd v_queue v_cameAlong = some u) : MCv l D (tyL cI cZ cS) yX4_layAll cX4_layAll 3 none 3 78 [.ref a0] (wX4 cI a0 a1 a2 a3 a4 a5 a6 a7 a8 v_near v_steps v_gone v_had v_came v_farEnd v_queue v_cameAlong) (wX4 cI a0 a1 a2 a3 a4 a5 a6 a7 a8 v_near v_steps v_gone v_had v_came u.1 u.2.1 u.2.2) := by
  refine MCv.mk (by decide) (Nat.le_of_ble_eq_true rfl) ?_
  intro p e s m args below meth c A ls Q h0 hP hD hA hS hl hfin0
  have hfin : ∀ (u' : (Nat → Int32) × (Nat → Int32) × (Nat → Int32)), u' = u → ∀ (H : Heap) (locs : List Loc) (ls : Array Slot) (pc : Nat), va_P D vwCl (wX4 cI a0 a1 a2 a3 a4 a5 a6 a7 a8 v_near v_steps v_gone v_had v_came u'.1 u'.2.1 u'.2.2) H → va_D A (wX4 cI a0 a1 a2 a3 a4 a5 a6 a7 a8 v_near v_steps v_gone v_had v_came u'.1 u'.2.1 u'.2.2) → va_S A s.heap H locs → decode cX4_layAll pc = .ok (.return_, 1) → W p l e (uR 3 78) s m args below meth c H locs 0 0 Q (F0 m pc ls []) := by intro u' hu; subst hu; exact hfin0
  clear hfin0
  obtain ⟨hx, hb, hr, hlk, hml, hown, hts, hK⟩ := id h0
  have hl : lv_has ls 3 [(0, .ref a0)] := hl
  have E := hF
  have J9 : ∀ (n9 : Nat) (l1 : Int32) (v_farEnd v_queue v_cameAlong : Nat → Int32) (H : Heap) (locs : List Loc) (ls : Array Slot), FX4_layAll_h9 v_near  n9 l1 v_farEnd v_queue v_cameAlong = some u → va_P D vwCl (wX4 cI a0 a1 a2 a3 a4 a5 a6 a7 a8 v_near v_steps v_gone v_had v_came v_farEnd v_queue v_cameAlong) H → va_D A (wX4 cI a0 a1 a2 a3 a4 a5 a6 a7 a8 v_near v_steps v_gone v_had v_came v_farEnd v_queue v_cameAlong) → va_S A s.heap H locs → lv_has ls 3 [(0, .ref a0), (1, .int l1)] → W p l e (uR 3 78) s m args below meth c H locs 0 0 Q (F0 m 9 ls []) := by
    intro n9
    induction n9 with
    | zero => intro l1 v_farEnd v_queue v_cameAlong H locs ls E; exact none_e E
    | succ n9 ih9 =>
      intro l1 v_farEnd v_queue v_cameAlong H locs ls E hP hD hS hl
      have E : FX4_layAll_b9 v_near  (FX4_layAll_h9 v_near  n9) l1 v_farEnd v_queue v_cameAlong = some u := E
      have J19 : ∀ (n19 : Nat) (l1 l2 : Int32) (v_farEnd v_queue v_cameAlong : Nat → Int32) (H : Heap) (locs : List Loc) (ls : Array Slot), FX4_layAll_h19 v_near (FX4_layAll_h9 v_near  n9) n19 l1 l2 v_farEnd v_queue v_cameAlong = some u → va_P D vwCl (wX4 cI a0 a1 a2 a3 a4 a5 a6 a7 a8 v_near v_steps v_gone v_had v_came v_farEnd v_queue v_cameAlong) H → va_D A (wX4 cI a0 a1 a2 a3 a4 a5 a6 a7 a8 v_near v_steps v_gone v_had v_came v_farEnd v_queue v_cameAlong) → va_S A s.heap H locs → lv_has ls 3 [(0, .ref a0), (1, .int l1), (2, .int l2)] → W p l e (uR 3 78) s m args below meth c H locs 0 0 Q (F0 m 19 ls []) := by
        intro n19
        induction n19 with
        | zero => intro l1 l2 v_farEnd v_queue v_cameAlong H locs ls E; exact none_e E
        | succ n19 ih19 =>
          intro l1 l2 v_farEnd v_queue v_cameAlong H locs ls E hP hD hS hl
          have E : FX4_layAll_b19 v_near (FX4_layAll_h9 v_near  n9) (FX4_layAll_h19 v_near (FX4_layAll_h9 v_near  n9) n19) l1 l2 v_farEnd v_queue v_cameAlong = some u := E
          have J60 : ∀ (l1 l2 : Int32) (v_farEnd v_queue v_cameAlong : Nat → Int32) (H : Heap) (locs : List Loc) (ls : Array Slot), FX4_layAll_b60 v_near (FX4_layAll_h9 v_near  n9) (FX4_layAll_h19 v_near (FX4_layAll_h9 v_near  n9) n19) l1 l2 v_farEnd v_queue v_cameAlong = some u → va_P D vwCl (wX4 cI a0 a1 a2 a3 a4 a5 a6 a7 a8 v_near v_steps v_gone v_had v_came v_farEnd v_queue v_cameAlong) H → va_D A (wX4 cI a0 a1 a2 a3 a4 a5 a6 a7 a8 v_near v_steps v_gone v_had v_came v_farEnd v_queue v_cameAlong) → va_S A s.heap H locs → lv_has ls 3 [(0, .ref a0), (1, .int l1), (2, .int l2)] → W p l e (uR 3 78) s m args below meth c H locs 0 0 Q (F0 m 60 ls []) := by
            intro l1 l2 v_farEnd v_queue v_cameAlong H locs ls E hP hD hS hl
            refine lv_iinc (v := (l2 + 1)) (lv' := [(2, .int (l2 + 1)), (0, .ref a0), (1, .int l1)]) hx hb dX4_layAll_60 hl (k := 2) rfl rfl (by decide) rfl (fun ls hl => ?_)
            refine lv_goto (tgt := 19) hx hb dX4_layAll_63 (by decide) ?_
            exact ih19 _ _ _ _ _ _ _ _ E hP hD hS (lv_sub hl [1, 2, 0] rfl)
          refine lv_iload_n hx hb dX4_layAll_19 rfl (lv_at hl 2 rfl) ?_
          refine lv_bipush (v := 12) hx hb dX4_layAll_20 (by decide) ?_
          refine lv_icmp_ge (tgt := 66) hx hb dX4_layAll_22 (by decide) (fun c1 => ?_) (fun c1 => ?_)
          · have E := br_p E c1
            refine lv_iinc (v := (l1 + 1)) (lv' := [(1, .int (l1 + 1)), (0, .ref a0), (2, .int l2)]) hx hb dX4_layAll_66 hl (k := 1) rfl rfl (by decide) rfl (fun ls hl => ?_)
            refine lv_goto (tgt := 9) hx hb dX4_layAll_69 (by decide) ?_
            exact ih9 _ _ _ _ _ _ _ E hP hD hS (lv_sub hl [1, 0] rfl)
          · have E := br_n E c1
            refine lv_aload_n hx hb dX4_layAll_25 rfl (lv_at hl 0 rfl) ?_
            refine gf_X4_18 h0 hP 0 rfl rfl dX4_layAll_26 ?_
            refine lv_iload_n hx hb dX4_layAll_29 rfl (lv_at hl 1 rfl) ?_
            obtain ⟨g2, E⟩ := gd_e E
            refine aldi hx hb hK hP 1 rfl rfl g2 dX4_layAll_30 ?_
            refine lv_iload_n hx hb dX4_layAll_31 rfl (lv_at hl 2 rfl) ?_
            refine lv_ishr hx hb dX4_layAll_32 ?_
            refine lv_iconst (v := 1) hx hb dX4_layAll_33 (by decide) ?_
            refine lv_iand hx hb dX4_layAll_34 ?_
            refine lv_iconst (v := 1) hx hb dX4_layAll_35 (by decide) ?_
            refine lv_icmp_ne (tgt := 60) hx hb dX4_layAll_36 (by decide) (fun c3 => ?_) (fun c3 => ?_)
            · have E := br_n E c3
              exact J60 _ _ _ _ _ _ _ _ E hP hD hS (lv_sub hl [0, 1, 2] rfl)
            · have E := br_p E c3
              refine lv_aload_n hx hb dX4_layAll_39 rfl (lv_at hl 0 rfl) ?_
              refine gf_X4_12 h0 hP 0 rfl rfl dX4_layAll_40 ?_
              refine lv_iload_n hx hb dX4_layAll_43 rfl (lv_at hl 1 rfl) ?_
              refine lv_iload_n hx hb dX4_layAll_44 rfl (lv_at hl 2 rfl) ?_
              obtain ⟨r4, hF, E⟩ := bn_e E
              refine callVi (wo := (wX4 cI a0 a1 a2 a3 a4 a5 a6 a7 a8 v_near v_steps v_gone v_had v_came r4.2.1 r4.2.2.1 r4.2.2.2)) h0 (c_X1_wouldCarry l D cI cZ cS a5 a6 a7 a8 v_farEnd v_queue v_cameAlong l1 l2 r4 hF) (gV wq_501 wq_334 wq_335 wq_5 wq_336) hdX1_wouldCarry ⟨Nat.le_of_ble_eq_true rfl, Nat.le_of_ble_eq_true rfl⟩ ⟨Nat.le_refl _, Nat.le_refl _⟩ hP hD hS hA 0 1 rfl rfl rfl [5, 6, 7, 8] rfl rfl rfl rfl hl.1 rfl (Nat.le_of_ble_eq_true rfl) dX4_layAll_45 (fun H locs hP hD hS => ?_)
              refine lv_if_eq (tgt := 60) hx hb dX4_layAll_48 (by decide) (fun c5 => ?_) (fun c5 => ?_)
              · have E := br_p E c5
                exact J60 _ _ _ _ _ _ _ _ E hP hD hS (lv_sub hl [0, 1, 2] rfl)
              · have E := br_n E c5
                refine lv_aload_n hx hb dX4_layAll_51 rfl (lv_at hl 0 rfl) ?_
                refine gf_X4_12 h0 hP 0 rfl rfl dX4_layAll_52 ?_
                refine lv_iload_n hx hb dX4_layAll_55 rfl (lv_at hl 1 rfl) ?_
                refine lv_iload_n hx hb dX4_layAll_56 rfl (lv_at hl 2 rfl) ?_
                obtain ⟨r6, hF, E⟩ := bn_e E
                refine callVv (wo := (wX4 cI a0 a1 a2 a3 a4 a5 a6 a7 a8 v_near v_steps v_gone v_had v_came r6 r4.2.2.1 r4.2.2.2)) h0 (c_X1_lay l D cI cZ cS a5 a6 a7 a8 r4.2.1 r4.2.2.1 r4.2.2.2 l1 l2 r6 hF) (gV wq_502 wq_354 wq_355 wq_5 wq_356) hdX1_lay ⟨Nat.le_of_ble_eq_true rfl, Nat.le_of_ble_eq_true rfl⟩ ⟨Nat.le_refl _, Nat.le_refl _⟩ hP hD hS hA 0 1 rfl rfl rfl [5, 6, 7, 8] rfl rfl rfl rfl hl.1 rfl (Nat.le_of_ble_eq_true rfl) dX4_layAll_57 (fun H locs hP hD hS => ?_)
                exact J60 _ _ _ _ _ _ _ _ E hP hD hS (lv_sub hl [0, 1, 2] rfl)
      refine lv_iload_n hx hb dX4_layAll_9 rfl (lv_at hl 1 rfl) ?_
      refine lv_bipush (v := 12) hx hb dX4_layAll_10 (by decide) ?_
      refine lv_icmp_ge (tgt := 72) hx hb dX4_layAll_12 (by decide) (fun c7 => ?_) (fun c7 => ?_)
      · have E := br_p E c7
        exact hfin _ (Option.some.inj E) _ _ _ _ hP hD hS dX4_layAll_72
      · have E := br_n E c7
        refine lv_iload_n hx hb dX4_layAll_15 rfl (lv_at hl 1 rfl) ?_
        refine lv_iconst (v := 1) hx hb dX4_layAll_16 (by decide) ?_
        refine lv_iadd hx hb dX4_layAll_17 ?_
        refine lv_istore_n (lv' := [(2, .int (l1 + 1)), (0, .ref a0), (1, .int l1)]) hx hb dX4_layAll_18 rfl hl (by decide) rfl (fun ls hl => ?_)
        exact J19 5000 _ _ _ _ _ _ _ _ E hP hD hS (lv_sub hl [1, 2, 0] rfl)
  refine lv_aload_n hx hb dX4_layAll_0 rfl (lv_at hl 0 rfl) ?_
  refine gf_X4_12 h0 hP 0 rfl rfl dX4_layAll_1 ?_
  obtain ⟨r8, hF, E⟩ := bn_e E
  refine callVv (wo := (wX4 cI a0 a1 a2 a3 a4 a5 a6 a7 a8 v_near v_steps v_gone v_had v_came r8 v_queue v_cameAlong)) h0 (c_X1_freeAll l D cI cZ cS a5 a6 a7 a8 v_farEnd v_queue v_cameAlong r8 hF) (gV wq_500 wq_330 wq_331 wq_5 wq_332) hdX1_freeAll ⟨Nat.le_of_ble_eq_true rfl, Nat.le_of_ble_eq_true rfl⟩ ⟨Nat.le_refl _, Nat.le_refl _⟩ hP hD hS hA 0 1 rfl rfl rfl [5, 6, 7, 8] rfl rfl rfl rfl hl.1 rfl (Nat.le_of_ble_eq_true rfl) dX4_layAll_4 (fun H locs hP hD hS => ?_)
  refine lv_iconst (v := 0) hx hb dX4_layAll_7 (by decide) ?_
  refine lv_istore_n (lv' := [(1, .int 0), (0, .ref a0)]) hx hb dX4_layAll_8 rfl hl (by decide) rfl (fun ls hl => ?_)
  exact J9 5000 _ _ _ _ _ _ _ E hP hD hS (lv_sub hl [1, 0] rfl)
theorem hdX4_joinFirstOf : yX4_joinFirstOf.cls = RX4 ∧ yX4_joinFirstOf.cls ≠ "java/lang/invoke/MethodHandle" ∧ yX4_joinFirstOf.cls ≠ "java/lang/invoke/VarHandle" ∧ (parseMethodDescriptor yX4_joinFirstOf.desc).map (fun d => d.parameters.length) = some 1 := by decide +kernel
noncomputable def FX4_joinFirstOf_b104 (p1 : Int32) (k2 : Int32 → (Nat → Int32) → (Nat → Int32) → (Nat → Int32) → (Nat → Int32) → Option (Int32 × (Nat → Int32) × (Nat → Int32) × (Nat → Int32) × (Nat → Int32))) (k12 : Int32 → Int32 → (Nat → Int32) → (Nat → Int32) → (Nat → Int32) → (Nat → Int32) → Option (Int32 × (Nat → Int32) × (Nat → Int32) × (Nat → Int32) × (Nat → Int32))) (l2 l3 : Int32) (v_near v_farEnd v_queue v_cameAlong : Nat → Int32) : Option (Int32 × (Nat → Int32) × (Nat → Int32) × (Nat → Int32) × (Nat → Int32)) := (k12 l2 (l3 + 1) v_near v_farEnd v_queue v_cameAlong)
noncomputable def FX4_joinFirstOf_b41 (p1 : Int32) (k2 : Int32 → (Nat → Int32) → (Nat → Int32) → (Nat → Int32) → (Nat → Int32) → Option (Int32 × (Nat → Int32) × (Nat → Int32) × (Nat → Int32) × (Nat → Int32))) (k12 : Int32 → Int32 → (Nat → Int32) → (Nat → Int32) → (Nat → Int32) → (Nat → Int32) → Option (Int32 × (Nat → Int32) × (Nat → Int32) × (Nat → Int32) × (Nat → Int32))) (l2 l3 t0 : Int32) (v_near v_farEnd v_queue v_cameAlong : Nat → Int32) : Option (Int32 × (Nat → Int32) × (Nat → Int32) × (Nat → Int32) × (Nat → Int32)) := (if t0 = 0 then (FX4_joinFirstOf_b104 p1 k2 k12 l2 l3 v_near v_farEnd v_queue v_cameAlong) else (gd (vp_in l2 12) (if (((v_near l2.toNatClampNeg) >>> (l3 &&& 31)) &&& 1) = 0 then ((FX1_wouldCarry l2 l3 v_farEnd v_queue v_cameAlong).bind (fun r4 => (if r4.1 = 0 then (FX4_joinFirstOf_b104 p1 k2 k12 l2 l3 v_near r4.2.1 r4.2.2.1 r4.2.2.2) else (gd (vp_in l2 12) (gd (vp_in l2 12) (gd (vp_in l3 12) (gd (vp_in l3 12) (some (((100 * l2) + l3), (upd (upd v_near l2.toNatClampNeg ((v_near l2.toNatClampNeg) ||| ((1 : Int32) <<< (l3 &&& 31)))) l3.toNatClampNeg (((upd v_near l2.toNatClampNeg ((v_near l2.toNatClampNeg) ||| ((1 : Int32) <<< (l3 &&& 31)))) l3.toNatClampNeg) ||| ((1 : Int32) <<< (l2 &&& 31)))), r4.2.1, r4.2.2.1, r4.2.2.2))))))))) else (FX4_joinFirstOf_b104 p1 k2 k12 l2 l3 v_near v_farEnd v_queue v_cameAlong))))
noncomputable def FX4_joinFirstOf_b40 (p1 : Int32) (k2 : Int32 → (Nat → Int32) → (Nat → Int32) → (Nat → Int32) → (Nat → Int32) → Option (Int32 × (Nat → Int32) × (Nat → Int32) × (Nat → Int32) × (Nat → Int32))) (k12 : Int32 → Int32 → (Nat → Int32) → (Nat → Int32) → (Nat → Int32) → (Nat → Int32) → Option (Int32 × (Nat → Int32) × (Nat → Int32) × (Nat → Int32) × (Nat → Int32))) (l2 l3 : Int32) (v_near v_farEnd v_queue v_cameAlong : Nat → Int32) : Option (Int32 × (Nat → Int32) × (Nat → Int32) × (Nat → Int32) × (Nat → Int32)) := (FX4_joinFirstOf_b41 p1 k2 k12 l2 l3 0 v_near v_farEnd v_queue v_cameAlong)
noncomputable def FX4_joinFirstOf_b12 (p1 : Int32) (k2 : Int32 → (Nat → Int32) → (Nat → Int32) → (Nat → Int32) → (Nat → Int32) → Option (Int32 × (Nat → Int32) × (Nat → Int32) × (Nat → Int32) × (Nat → Int32))) (k12 : Int32 → Int32 → (Nat → Int32) → (Nat → Int32) → (Nat → Int32) → (Nat → Int32) → Option (Int32 × (Nat → Int32) × (Nat → Int32) × (Nat → Int32) × (Nat → Int32))) (l2 l3 : Int32) (v_near v_farEnd v_queue v_cameAlong : Nat → Int32) : Option (Int32 × (Nat → Int32) × (Nat → Int32) × (Nat → Int32) × (Nat → Int32)) := (if 12 ≤ l3 then (k2 (l2 + 1) v_near v_farEnd v_queue v_cameAlong) else (if ((p1 >>> (l2 &&& 31)) &&& 1) = 1 then (if ((p1 >>> (l3 &&& 31)) &&& 1) = 1 then (FX4_joinFirstOf_b41 p1 k2 k12 l2 l3 1 v_near v_farEnd v_queue v_cameAlong) else (FX4_joinFirstOf_b40 p1 k2 k12 l2 l3 v_near v_farEnd v_queue v_cameAlong)) else (FX4_joinFirstOf_b40 p1 k2 k12 l2 l3 v_near v_farEnd v_queue v_cameAlong)))
noncomputable def FX4_joinFirstOf_h12 (p1 : Int32) (k2 : Int32 → (Nat → Int32) → (Nat → Int32) → (Nat → Int32) → (Nat → Int32) → Option (Int32 × (Nat → Int32) × (Nat → Int32) × (Nat → Int32) × (Nat → Int32))) : Nat → Int32 → Int32 → (Nat → Int32) → (Nat → Int32) → (Nat → Int32) → (Nat → Int32) → Option (Int32 × (Nat → Int32) × (Nat → Int32) × (Nat → Int32) × (Nat → Int32))
  | 0 => fun _ _ _ _ _ _ => none
  | n + 1 => fun l2 l3 v_near v_farEnd v_queue v_cameAlong => FX4_joinFirstOf_b12 p1 k2 (FX4_joinFirstOf_h12 p1 k2 n) l2 l3 v_near v_farEnd v_queue v_cameAlong
noncomputable def FX4_joinFirstOf_b2 (p1 : Int32)  (k2 : Int32 → (Nat → Int32) → (Nat → Int32) → (Nat → Int32) → (Nat → Int32) → Option (Int32 × (Nat → Int32) × (Nat → Int32) × (Nat → Int32) × (Nat → Int32))) (l2 : Int32) (v_near v_farEnd v_queue v_cameAlong : Nat → Int32) : Option (Int32 × (Nat → Int32) × (Nat → Int32) × (Nat → Int32) × (Nat → Int32)) := (if 12 ≤ l2 then (some ((-1), v_near, v_farEnd, v_queue, v_cameAlong)) else (FX4_joinFirstOf_h12 p1 k2 5000 l2 (l2 + 1) v_near v_farEnd v_queue v_cameAlong))
noncomputable def FX4_joinFirstOf_h2 (p1 : Int32)  : Nat → Int32 → (Nat → Int32) → (Nat → Int32) → (Nat → Int32) → (Nat → Int32) → Option (Int32 × (Nat → Int32) × (Nat → Int32) × (Nat → Int32) × (Nat → Int32))
  | 0 => fun _ _ _ _ _ => none
  | n + 1 => fun l2 v_near v_farEnd v_queue v_cameAlong => FX4_joinFirstOf_b2 p1  (FX4_joinFirstOf_h2 p1  n) l2 v_near v_farEnd v_queue v_cameAlong
noncomputable def FX4_joinFirstOf (p1 : Int32) (v_near v_farEnd v_queue v_cameAlong : Nat → Int32) : Option (Int32 × (Nat → Int32) × (Nat → Int32) × (Nat → Int32) × (Nat → Int32)) := (FX4_joinFirstOf_h2 p1  5000 0 v_near v_farEnd v_queue v_cameAlong)
set_option maxHeartbeats 4000000 in
set_option maxRecDepth 100000 in
theorem c_X4_joinFirstOf (l : Launch) (D : va_G) (cI cZ cS : ClassId) (a0 a1 a2 a3 a4 a5 a6 a7 a8 : Nat) (v_near : Nat → Int32) (v_steps : Int32) (v_gone v_had v_came v_farEnd v_queue v_cameAlong : Nat → Int32) (p1 : Int32) (u : Int32 × (Nat → Int32) × (Nat → Int32) × (Nat → Int32) × (Nat → Int32)) (hF : FX4_joinFirstOf p1 v_near v_farEnd v_queue v_cameAlong = some u) : MCi l D (tyL cI cZ cS) yX4_joinFirstOf cX4_joinFirstOf 5 (some .int) 3 78 [.ref a0, .int p1] (wX4 cI a0 a1 a2 a3 a4 a5 a6 a7 a8 v_near v_steps v_gone v_had v_came v_farEnd v_queue v_cameAlong) (wX4 cI a0 a1 a2 a3 a4 a5 a6 a7 a8 u.2.1 v_steps v_gone v_had v_came u.2.2.1 u.2.2.2.1 u.2.2.2.2) u.1 := by
  refine MCi.mk (by decide) (Nat.le_of_ble_eq_true rfl) ?_
  intro p e s m args below meth c A ls Q h0 hP hD hA hS hl hfin0
  have hfin : ∀ (u' : Int32 × (Nat → Int32) × (Nat → Int32) × (Nat → Int32) × (Nat → Int32)), u' = u → ∀ (H : Heap) (locs : List Loc) (ls : Array Slot) (pc : Nat), va_P D vwCl (wX4 cI a0 a1 a2 a3 a4 a5 a6 a7 a8 u'.2.1 v_steps v_gone v_had v_came u'.2.2.1 u'.2.2.2.1 u'.2.2.2.2) H → va_D A (wX4 cI a0 a1 a2 a3 a4 a5 a6 a7 a8 u'.2.1 v_steps v_gone v_had v_came u'.2.2.1 u'.2.2.2.1 u'.2.2.2.2) → va_S A s.heap H locs → decode cX4_joinFirstOf pc = .ok (.ireturn, 1) → W p l e (uR 3 78) s m args below meth c H locs 0 0 Q (F0 m pc ls [.int u'.1]) := by intro u' hu; subst hu; exact hfin0
  clear hfin0
  obtain ⟨hx, hb, hr, hlk, hml, hown, hts, hK⟩ := id h0
  have hl : lv_has ls 5 [(0, .ref a0), (1, .int p1)] := hl
  have E := hF
  have J2 : ∀ (n2 : Nat) (l2 : Int32) (v_near v_farEnd v_queue v_cameAlong : Nat → Int32) (H : Heap) (locs : List Loc) (ls : Array Slot), FX4_joinFirstOf_h2 p1  n2 l2 v_near v_farEnd v_queue v_cameAlong = some u → va_P D vwCl (wX4 cI a0 a1 a2 a3 a4 a5 a6 a7 a8 v_near v_steps v_gone v_had v_came v_farEnd v_queue v_cameAlong) H → va_D A (wX4 cI a0 a1 a2 a3 a4 a5 a6 a7 a8 v_near v_steps v_gone v_had v_came v_farEnd v_queue v_cameAlong) → va_S A s.heap H locs → lv_has ls 5 [(0, .ref a0), (1, .int p1), (2, .int l2)] → W p l e (uR 3 78) s m args below meth c H locs 0 0 Q (F0 m 2 ls []) := by
    intro n2
    induction n2 with
    | zero => intro l2 v_near v_farEnd v_queue v_cameAlong H locs ls E; exact none_e E
    | succ n2 ih2 =>
      intro l2 v_near v_farEnd v_queue v_cameAlong H locs ls E hP hD hS hl
      have E : FX4_joinFirstOf_b2 p1  (FX4_joinFirstOf_h2 p1  n2) l2 v_near v_farEnd v_queue v_cameAlong = some u := E
      have J12 : ∀ (n12 : Nat) (l2 l3 : Int32) (v_near v_farEnd v_queue v_cameAlong : Nat → Int32) (H : Heap) (locs : List Loc) (ls : Array Slot), FX4_joinFirstOf_h12 p1 (FX4_joinFirstOf_h2 p1  n2) n12 l2 l3 v_near v_farEnd v_queue v_cameAlong = some u → va_P D vwCl (wX4 cI a0 a1 a2 a3 a4 a5 a6 a7 a8 v_near v_steps v_gone v_had v_came v_farEnd v_queue v_cameAlong) H → va_D A (wX4 cI a0 a1 a2 a3 a4 a5 a6 a7 a8 v_near v_steps v_gone v_had v_came v_farEnd v_queue v_cameAlong) → va_S A s.heap H locs → lv_has ls 5 [(0, .ref a0), (1, .int p1), (2, .int l2), (3, .int l3)] → W p l e (uR 3 78) s m args below meth c H locs 0 0 Q (F0 m 12 ls []) := by
        intro n12
        induction n12 with
        | zero => intro l2 l3 v_near v_farEnd v_queue v_cameAlong H locs ls E; exact none_e E
        | succ n12 ih12 =>
          intro l2 l3 v_near v_farEnd v_queue v_cameAlong H locs ls E hP hD hS hl
          have E : FX4_joinFirstOf_b12 p1 (FX4_joinFirstOf_h2 p1  n2) (FX4_joinFirstOf_h12 p1 (FX4_joinFirstOf_h2 p1  n2) n12) l2 l3 v_near v_farEnd v_queue v_cameAlong = some u := E
          have J104 : ∀ (l2 l3 : Int32) (v_near v_farEnd v_queue v_cameAlong : Nat → Int32) (H : Heap) (locs : List Loc) (ls : Array Slot), FX4_joinFirstOf_b104 p1 (FX4_joinFirstOf_h2 p1  n2) (FX4_joinFirstOf_h12 p1 (FX4_joinFirstOf_h2 p1  n2) n12) l2 l3 v_near v_farEnd v_queue v_cameAlong = some u → va_P D vwCl (wX4 cI a0 a1 a2 a3 a4 a5 a6 a7 a8 v_near v_steps v_gone v_had v_came v_farEnd v_queue v_cameAlong) H → va_D A (wX4 cI a0 a1 a2 a3 a4 a5 a6 a7 a8 v_near v_steps v_gone v_had v_came v_farEnd v_queue v_cameAlong) → va_S A s.heap H locs → lv_has ls 5 [(0, .ref a0), (1, .int p1), (2, .int l2), (3, .int l3)] → W p l e (uR 3 78) s m args below meth c H locs 0 0 Q (F0 m 104 ls []) := by
            intro l2 l3 v_near v_farEnd v_queue v_cameAlong H locs ls E hP hD hS hl
            refine lv_iinc (v := (l3 + 1)) (lv' := [(3, .int (l3 + 1)), (0, .ref a0), (1, .int p1), (2, .int l2)]) hx hb dX4_joinFirstOf_104 hl (k := 3) rfl rfl (by decide) rfl (fun ls hl => ?_)
            refine lv_goto (tgt := 12) hx hb dX4_joinFirstOf_107 (by decide) ?_
            exact ih12 _ _ _ _ _ _ _ _ _ E hP hD hS (lv_sub hl [1, 2, 3, 0] rfl)
          have J41 : ∀ (l2 l3 t0 : Int32) (v_near v_farEnd v_queue v_cameAlong : Nat → Int32) (H : Heap) (locs : List Loc) (ls : Array Slot), FX4_joinFirstOf_b41 p1 (FX4_joinFirstOf_h2 p1  n2) (FX4_joinFirstOf_h12 p1 (FX4_joinFirstOf_h2 p1  n2) n12) l2 l3 t0 v_near v_farEnd v_queue v_cameAlong = some u → va_P D vwCl (wX4 cI a0 a1 a2 a3 a4 a5 a6 a7 a8 v_near v_steps v_gone v_had v_came v_farEnd v_queue v_cameAlong) H → va_D A (wX4 cI a0 a1 a2 a3 a4 a5 a6 a7 a8 v_near v_steps v_gone v_had v_came v_farEnd v_queue v_cameAlong) → va_S A s.heap H locs → lv_has ls 5 [(0, .ref a0), (1, .int p1), (2, .int l2), (3, .int l3)] → W p l e (uR 3 78) s m args below meth c H locs 0 0 Q (F0 m 41 ls [.int t0]) := by
            intro l2 l3 t0 v_near v_farEnd v_queue v_cameAlong H locs ls E hP hD hS hl
            refine lv_istore (lv' := [(4, .int t0), (0, .ref a0), (1, .int p1), (2, .int l2), (3, .int l3)]) hx hb dX4_joinFirstOf_41 hl (by decide) rfl (fun ls hl => ?_)
            refine lv_iload hx hb dX4_joinFirstOf_43 (lv_at hl 0 rfl) ?_
            refine lv_if_eq (tgt := 104) hx hb dX4_joinFirstOf_45 (by decide) (fun c1 => ?_) (fun c1 => ?_)
            · have E := br_p E c1
              exact J104 _ _ _ _ _ _ _ _ _ E hP hD hS (lv_sub hl [1, 2, 3, 4] rfl)
            · have E := br_n E c1
              refine lv_aload_n hx hb dX4_joinFirstOf_48 rfl (lv_at hl 1 rfl) ?_
              refine gf_X4_18 h0 hP 0 rfl rfl dX4_joinFirstOf_49 ?_
              refine lv_iload_n hx hb dX4_joinFirstOf_52 rfl (lv_at hl 3 rfl) ?_
              obtain ⟨g2, E⟩ := gd_e E
              refine aldi hx hb hK hP 1 rfl rfl g2 dX4_joinFirstOf_53 ?_
              refine lv_iload_n hx hb dX4_joinFirstOf_54 rfl (lv_at hl 4 rfl) ?_
              refine lv_ishr hx hb dX4_joinFirstOf_55 ?_
              refine lv_iconst (v := 1) hx hb dX4_joinFirstOf_56 (by decide) ?_
              refine lv_iand hx hb dX4_joinFirstOf_57 ?_
              refine lv_if_ne (tgt := 104) hx hb dX4_joinFirstOf_58 (by decide) (fun c3 => ?_) (fun c3 => ?_)
              · have E := br_n E c3
                exact J104 _ _ _ _ _ _ _ _ _ E hP hD hS (lv_sub hl [1, 2, 3, 4] rfl)
              · have E := br_p E c3
                refine lv_aload_n hx hb dX4_joinFirstOf_61 rfl (lv_at hl 1 rfl) ?_
                refine gf_X4_12 h0 hP 0 rfl rfl dX4_joinFirstOf_62 ?_
                refine lv_iload_n hx hb dX4_joinFirstOf_65 rfl (lv_at hl 3 rfl) ?_
                refine lv_iload_n hx hb dX4_joinFirstOf_66 rfl (lv_at hl 4 rfl) ?_
                obtain ⟨r4, hF, E⟩ := bn_e E
                refine callVi (wo := (wX4 cI a0 a1 a2 a3 a4 a5 a6 a7 a8 v_near v_steps v_gone v_had v_came r4.2.1 r4.2.2.1 r4.2.2.2)) h0 (c_X1_wouldCarry l D cI cZ cS a5 a6 a7 a8 v_farEnd v_queue v_cameAlong l2 l3 r4 hF) (gV wq_501 wq_334 wq_335 wq_5 wq_336) hdX1_wouldCarry ⟨Nat.le_of_ble_eq_true rfl, Nat.le_of_ble_eq_true rfl⟩ ⟨Nat.le_refl _, Nat.le_refl _⟩ hP hD hS hA 0 1 rfl rfl rfl [5, 6, 7, 8] rfl rfl rfl rfl hl.1 rfl (Nat.le_of_ble_eq_true rfl) dX4_joinFirstOf_67 (fun H locs hP hD hS => ?_)
                refine lv_if_eq (tgt := 104) hx hb dX4_joinFirstOf_70 (by decide) (fun c5 => ?_) (fun c5 => ?_)
                · have E := br_p E c5
                  exact J104 _ _ _ _ _ _ _ _ _ E hP hD hS (lv_sub hl [1, 2, 3, 4] rfl)
                · have E := br_n E c5
                  refine lv_aload_n hx hb dX4_joinFirstOf_73 rfl (lv_at hl 1 rfl) ?_
                  refine gf_X4_18 h0 hP 0 rfl rfl dX4_joinFirstOf_74 ?_
                  refine lv_iload_n hx hb dX4_joinFirstOf_77 rfl (lv_at hl 3 rfl) ?_
                  refine lv_dup2_11 hx hb dX4_joinFirstOf_78 rfl rfl ?_
                  obtain ⟨g6, E⟩ := gd_e E
                  refine aldi hx hb hK hP 1 rfl rfl g6 dX4_joinFirstOf_79 ?_
                  refine lv_iconst (v := 1) hx hb dX4_joinFirstOf_80 (by decide) ?_
                  refine lv_iload_n hx hb dX4_joinFirstOf_81 rfl (lv_at hl 4 rfl) ?_
                  refine lv_ishl hx hb dX4_joinFirstOf_82 ?_
                  refine lv_ior hx hb dX4_joinFirstOf_83 ?_
                  obtain ⟨g7, E⟩ := gd_e E
                  refine asti (wo := (wX4 cI a0 a1 a2 a3 a4 a5 a6 a7 a8 (upd v_near l2.toNatClampNeg ((v_near l2.toNatClampNeg) ||| ((1 : Int32) <<< (l3 &&& 31)))) v_steps v_gone v_had v_came r4.2.1 r4.2.2.1 r4.2.2.2)) hx hb hK hP hD hS 1 rfl rfl g7 rfl dX4_joinFirstOf_84 (fun H locs hP hD hS => ?_)
                  refine lv_aload_n hx hb dX4_joinFirstOf_85 rfl (lv_at hl 1 rfl) ?_
                  refine gf_X4_18 h0 hP 0 rfl rfl dX4_joinFirstOf_86 ?_
                  refine lv_iload_n hx hb dX4_joinFirstOf_89 rfl (lv_at hl 4 rfl) ?_
                  refine lv_dup2_11 hx hb dX4_joinFirstOf_90 rfl rfl ?_
                  obtain ⟨g8, E⟩ := gd_e E
                  refine aldi hx hb hK hP 1 rfl rfl g8 dX4_joinFirstOf_91 ?_
                  refine lv_iconst (v := 1) hx hb dX4_joinFirstOf_92 (by decide) ?_
                  refine lv_iload_n hx hb dX4_joinFirstOf_93 rfl (lv_at hl 3 rfl) ?_
                  refine lv_ishl hx hb dX4_joinFirstOf_94 ?_
                  refine lv_ior hx hb dX4_joinFirstOf_95 ?_
                  obtain ⟨g9, E⟩ := gd_e E
                  refine asti (wo := (wX4 cI a0 a1 a2 a3 a4 a5 a6 a7 a8 (upd (upd v_near l2.toNatClampNeg ((v_near l2.toNatClampNeg) ||| ((1 : Int32) <<< (l3 &&& 31)))) l3.toNatClampNeg (((upd v_near l2.toNatClampNeg ((v_near l2.toNatClampNeg) ||| ((1 : Int32) <<< (l3 &&& 31)))) l3.toNatClampNeg) ||| ((1 : Int32) <<< (l2 &&& 31)))) v_steps v_gone v_had v_came r4.2.1 r4.2.2.1 r4.2.2.2)) hx hb hK hP hD hS 1 rfl rfl g9 rfl dX4_joinFirstOf_96 (fun H locs hP hD hS => ?_)
                  refine lv_bipush (v := 100) hx hb dX4_joinFirstOf_97 (by decide) ?_
                  refine lv_iload_n hx hb dX4_joinFirstOf_99 rfl (lv_at hl 3 rfl) ?_
                  refine lv_imul hx hb dX4_joinFirstOf_100 ?_
                  refine lv_iload_n hx hb dX4_joinFirstOf_101 rfl (lv_at hl 4 rfl) ?_
                  refine lv_iadd hx hb dX4_joinFirstOf_102 ?_
                  exact hfin _ (Option.some.inj E) _ _ _ _ hP hD hS dX4_joinFirstOf_103
          have J40 : ∀ (l2 l3 : Int32) (v_near v_farEnd v_queue v_cameAlong : Nat → Int32) (H : Heap) (locs : List Loc) (ls : Array Slot), FX4_joinFirstOf_b40 p1 (FX4_joinFirstOf_h2 p1  n2) (FX4_joinFirstOf_h12 p1 (FX4_joinFirstOf_h2 p1  n2) n12) l2 l3 v_near v_farEnd v_queue v_cameAlong = some u → va_P D vwCl (wX4 cI a0 a1 a2 a3 a4 a5 a6 a7 a8 v_near v_steps v_gone v_had v_came v_farEnd v_queue v_cameAlong) H → va_D A (wX4 cI a0 a1 a2 a3 a4 a5 a6 a7 a8 v_near v_steps v_gone v_had v_came v_farEnd v_queue v_cameAlong) → va_S A s.heap H locs → lv_has ls 5 [(0, .ref a0), (1, .int p1), (2, .int l2), (3, .int l3)] → W p l e (uR 3 78) s m args below meth c H locs 0 0 Q (F0 m 40 ls []) := by
            intro l2 l3 v_near v_farEnd v_queue v_cameAlong H locs ls E hP hD hS hl
            refine lv_iconst (v := 0) hx hb dX4_joinFirstOf_40 (by decide) ?_
            exact J41 _ _ _ _ _ _ _ _ _ _ E hP hD hS (lv_sub hl [0, 1, 2, 3] rfl)
          refine lv_iload_n hx hb dX4_joinFirstOf_12 rfl (lv_at hl 3 rfl) ?_
          refine lv_bipush (v := 12) hx hb dX4_joinFirstOf_13 (by decide) ?_
          refine lv_icmp_ge (tgt := 110) hx hb dX4_joinFirstOf_15 (by decide) (fun c10 => ?_) (fun c10 => ?_)
          · have E := br_p E c10
            refine lv_iinc (v := (l2 + 1)) (lv' := [(2, .int (l2 + 1)), (0, .ref a0), (1, .int p1), (3, .int l3)]) hx hb dX4_joinFirstOf_110 hl (k := 2) rfl rfl (by decide) rfl (fun ls hl => ?_)
            refine lv_goto (tgt := 2) hx hb dX4_joinFirstOf_113 (by decide) ?_
            exact ih2 _ _ _ _ _ _ _ _ E hP hD hS (lv_sub hl [1, 2, 0] rfl)
          · have E := br_n E c10
            refine lv_iload_n hx hb dX4_joinFirstOf_18 rfl (lv_at hl 1 rfl) ?_
            refine lv_iload_n hx hb dX4_joinFirstOf_19 rfl (lv_at hl 2 rfl) ?_
            refine lv_ishr hx hb dX4_joinFirstOf_20 ?_
            refine lv_iconst (v := 1) hx hb dX4_joinFirstOf_21 (by decide) ?_
            refine lv_iand hx hb dX4_joinFirstOf_22 ?_
            refine lv_iconst (v := 1) hx hb dX4_joinFirstOf_23 (by decide) ?_
            refine lv_icmp_ne (tgt := 40) hx hb dX4_joinFirstOf_24 (by decide) (fun c11 => ?_) (fun c11 => ?_)
            · have E := br_n E c11
              exact J40 _ _ _ _ _ _ _ _ _ E hP hD hS (lv_sub hl [0, 1, 2, 3] rfl)
            · have E := br_p E c11
              refine lv_iload_n hx hb dX4_joinFirstOf_27 rfl (lv_at hl 1 rfl) ?_
              refine lv_iload_n hx hb dX4_joinFirstOf_28 rfl (lv_at hl 3 rfl) ?_
              refine lv_ishr hx hb dX4_joinFirstOf_29 ?_
              refine lv_iconst (v := 1) hx hb dX4_joinFirstOf_30 (by decide) ?_
              refine lv_iand hx hb dX4_joinFirstOf_31 ?_
              refine lv_iconst (v := 1) hx hb dX4_joinFirstOf_32 (by decide) ?_
              refine lv_icmp_ne (tgt := 40) hx hb dX4_joinFirstOf_33 (by decide) (fun c12 => ?_) (fun c12 => ?_)
              · have E := br_n E c12
                exact J40 _ _ _ _ _ _ _ _ _ E hP hD hS (lv_sub hl [0, 1, 2, 3] rfl)
              · have E := br_p E c12
                refine lv_iconst (v := 1) hx hb dX4_joinFirstOf_36 (by decide) ?_
                refine lv_goto (tgt := 41) hx hb dX4_joinFirstOf_37 (by decide) ?_
                exact J41 _ _ _ _ _ _ _ _ _ _ E hP hD hS (lv_sub hl [0, 1, 2, 3] rfl)
      refine lv_iload_n hx hb dX4_joinFirstOf_2 rfl (lv_at hl 2 rfl) ?_
      refine lv_bipush (v := 12) hx hb dX4_joinFirstOf_3 (by decide) ?_
      refine lv_icmp_ge (tgt := 116) hx hb dX4_joinFirstOf_5 (by decide) (fun c13 => ?_) (fun c13 => ?_)
      · have E := br_p E c13
        refine lv_iconst (v := (-1)) hx hb dX4_joinFirstOf_116 (by decide) ?_
        exact hfin _ (Option.some.inj E) _ _ _ _ hP hD hS dX4_joinFirstOf_117
      · have E := br_n E c13
        refine lv_iload_n hx hb dX4_joinFirstOf_8 rfl (lv_at hl 2 rfl) ?_
        refine lv_iconst (v := 1) hx hb dX4_joinFirstOf_9 (by decide) ?_
        refine lv_iadd hx hb dX4_joinFirstOf_10 ?_
        refine lv_istore_n (lv' := [(3, .int (l2 + 1)), (0, .ref a0), (1, .int p1), (2, .int l2)]) hx hb dX4_joinFirstOf_11 rfl hl (by decide) rfl (fun ls hl => ?_)
        exact J12 5000 _ _ _ _ _ _ _ _ _ E hP hD hS (lv_sub hl [1, 2, 3, 0] rfl)
  refine lv_iconst (v := 0) hx hb dX4_joinFirstOf_0 (by decide) ?_
  refine lv_istore_n (lv' := [(2, .int 0), (0, .ref a0), (1, .int p1)]) hx hb dX4_joinFirstOf_1 rfl hl (by decide) rfl (fun ls hl => ?_)
  exact J2 5000 _ _ _ _ _ _ _ _ E hP hD hS (lv_sub hl [1, 2, 0] rfl)
theorem hdX4_takeOne : yX4_takeOne.cls = RX4 ∧ yX4_takeOne.cls ≠ "java/lang/invoke/MethodHandle" ∧ yX4_takeOne.cls ≠ "java/lang/invoke/VarHandle" ∧ (parseMethodDescriptor yX4_takeOne.desc).map (fun d => d.parameters.length) = some 0 := by decide +kernel
noncomputable def FX4_takeOne_b17   (l1 : Int32) (v_near : Nat → Int32) (v_steps : Int32) (v_gone v_had v_came v_farEnd v_queue v_cameAlong : Nat → Int32) : Option ((Nat → Int32) × Int32 × (Nat → Int32) × (Nat → Int32) × (Nat → Int32) × (Nat → Int32) × (Nat → Int32) × (Nat → Int32)) := (if l1 = (-1) then (some (v_near, v_steps, v_gone, v_had, v_came, v_farEnd, v_queue, v_cameAlong)) else (if v_steps < 12 then (gd (vp_in l1 12) (gd (vp_in v_steps 12) ((FJ6_bitCount (v_near l1.toNatClampNeg)).bind (fun r5 => (gd (vp_in v_steps 12) ((FX4_takeAway l1 v_near).bind (fun r7 => (gd (vp_in v_steps 12) (gd (vp_in v_steps 12) (if ((upd v_had v_steps.toNatClampNeg r5) v_steps.toNatClampNeg) = 3 then ((FX4_layAll r7 v_farEnd v_queue v_cameAlong).bind (fun r11 => ((FX4_joinFirstOf (v_near l1.toNatClampNeg) r7 r11.1 r11.2.1 r11.2.2).bind (fun r12 => (gd (vp_in v_steps 12) (some (r12.2.1, (v_steps + 1), (upd v_gone v_steps.toNatClampNeg l1), (upd v_had v_steps.toNatClampNeg r5), (upd (upd v_came v_steps.toNatClampNeg (-1)) v_steps.toNatClampNeg r12.1), r12.2.2.1, r12.2.2.2.1, r12.2.2.2.2))))))) else (some (r7, (v_steps + 1), (upd v_gone v_steps.toNatClampNeg l1), (upd v_had v_steps.toNatClampNeg r5), (upd v_came v_steps.toNatClampNeg (-1)), v_farEnd, v_queue, v_cameAlong)))))))))))) else (some (v_near, v_steps, v_gone, v_had, v_came, v_farEnd, v_queue, v_cameAlong))))
noncomputable def FX4_takeOne (v_near : Nat → Int32) (v_steps : Int32) (v_gone v_had v_came v_farEnd v_queue v_cameAlong : Nat → Int32) : Option ((Nat → Int32) × Int32 × (Nat → Int32) × (Nat → Int32) × (Nat → Int32) × (Nat → Int32) × (Nat → Int32) × (Nat → Int32)) := ((FX4_firstOf 2 v_near).bind (fun r14 => (if r14 = (-1) then ((FX4_firstOf 3 v_near).bind (fun r16 => (FX4_takeOne_b17   r16 v_near v_steps v_gone v_had v_came v_farEnd v_queue v_cameAlong))) else (FX4_takeOne_b17   r14 v_near v_steps v_gone v_had v_came v_farEnd v_queue v_cameAlong))))
set_option maxHeartbeats 4000000 in
set_option maxRecDepth 100000 in
theorem c_X4_takeOne (l : Launch) (D : va_G) (cI cZ cS : ClassId) (a0 a1 a2 a3 a4 a5 a6 a7 a8 : Nat) (v_near : Nat → Int32) (v_steps : Int32) (v_gone v_had v_came v_farEnd v_queue v_cameAlong : Nat → Int32)  (u : (Nat → Int32) × Int32 × (Nat → Int32) × (Nat → Int32) × (Nat → Int32) × (Nat → Int32) × (Nat → Int32) × (Nat → Int32)) (hF : FX4_takeOne v_near v_steps v_gone v_had v_came v_farEnd v_queue v_cameAlong = some u) : MCv l D (tyL cI cZ cS) yX4_takeOne cX4_takeOne 3 none 4 102 [.ref a0] (wX4 cI a0 a1 a2 a3 a4 a5 a6 a7 a8 v_near v_steps v_gone v_had v_came v_farEnd v_queue v_cameAlong) (wX4 cI a0 a1 a2 a3 a4 a5 a6 a7 a8 u.1 u.2.1 u.2.2.1 u.2.2.2.1 u.2.2.2.2.1 u.2.2.2.2.2.1 u.2.2.2.2.2.2.1 u.2.2.2.2.2.2.2) := by
  refine MCv.mk (by decide) (Nat.le_of_ble_eq_true rfl) ?_
  intro p e s m args below meth c A ls Q h0 hP hD hA hS hl hfin0
  have hfin : ∀ (u' : (Nat → Int32) × Int32 × (Nat → Int32) × (Nat → Int32) × (Nat → Int32) × (Nat → Int32) × (Nat → Int32) × (Nat → Int32)), u' = u → ∀ (H : Heap) (locs : List Loc) (ls : Array Slot) (pc : Nat), va_P D vwCl (wX4 cI a0 a1 a2 a3 a4 a5 a6 a7 a8 u'.1 u'.2.1 u'.2.2.1 u'.2.2.2.1 u'.2.2.2.2.1 u'.2.2.2.2.2.1 u'.2.2.2.2.2.2.1 u'.2.2.2.2.2.2.2) H → va_D A (wX4 cI a0 a1 a2 a3 a4 a5 a6 a7 a8 u'.1 u'.2.1 u'.2.2.1 u'.2.2.2.1 u'.2.2.2.2.1 u'.2.2.2.2.2.1 u'.2.2.2.2.2.2.1 u'.2.2.2.2.2.2.2) → va_S A s.heap H locs → decode cX4_takeOne pc = .ok (.return_, 1) → W p l e (uR 4 102) s m args below meth c H locs 0 0 Q (F0 m pc ls []) := by intro u' hu; subst hu; exact hfin0
  clear hfin0
  obtain ⟨hx, hb, hr, hlk, hml, hown, hts, hK⟩ := id h0
  have hl : lv_has ls 3 [(0, .ref a0)] := hl
  have E := hF
  have J17 : ∀ (l1 : Int32) (v_near : Nat → Int32) (v_steps : Int32) (v_gone v_had v_came v_farEnd v_queue v_cameAlong : Nat → Int32) (H : Heap) (locs : List Loc) (ls : Array Slot), FX4_takeOne_b17   l1 v_near v_steps v_gone v_had v_came v_farEnd v_queue v_cameAlong = some u → va_P D vwCl (wX4 cI a0 a1 a2 a3 a4 a5 a6 a7 a8 v_near v_steps v_gone v_had v_came v_farEnd v_queue v_cameAlong) H → va_D A (wX4 cI a0 a1 a2 a3 a4 a5 a6 a7 a8 v_near v_steps v_gone v_had v_came v_farEnd v_queue v_cameAlong) → va_S A s.heap H locs → lv_has ls 3 [(0, .ref a0), (1, .int l1)] → W p l e (uR 4 102) s m args below meth c H locs 0 0 Q (F0 m 17 ls []) := by
    intro l1 v_near v_steps v_gone v_had v_came v_farEnd v_queue v_cameAlong H locs ls E hP hD hS hl
    refine lv_iload_n hx hb dX4_takeOne_17 rfl (lv_at hl 1 rfl) ?_
    refine lv_iconst (v := (-1)) hx hb dX4_takeOne_18 (by decide) ?_
    refine lv_icmp_eq (tgt := 31) hx hb dX4_takeOne_19 (by decide) (fun c1 => ?_) (fun c1 => ?_)
    · have E := br_p E c1
      exact hfin _ (Option.some.inj E) _ _ _ _ hP hD hS dX4_takeOne_31
    · have E := br_n E c1
      refine lv_aload_n hx hb dX4_takeOne_22 rfl (lv_at hl 0 rfl) ?_
      refine gf_X4_22 h0 hP 0 rfl rfl dX4_takeOne_23 ?_
      refine lv_bipush (v := 12) hx hb dX4_takeOne_26 (by decide) ?_
      refine lv_icmp_lt (tgt := 32) hx hb dX4_takeOne_28 (by decide) (fun c2 => ?_) (fun c2 => ?_)
      · have E := br_p E c2
        refine lv_aload_n hx hb dX4_takeOne_32 rfl (lv_at hl 0 rfl) ?_
        refine gf_X4_18 h0 hP 0 rfl rfl dX4_takeOne_33 ?_
        refine lv_iload_n hx hb dX4_takeOne_36 rfl (lv_at hl 1 rfl) ?_
        obtain ⟨g3, E⟩ := gd_e E
        refine aldi hx hb hK hP 1 rfl rfl g3 dX4_takeOne_37 ?_
        refine lv_istore_n (lv' := [(2, .int (v_near l1.toNatClampNeg)), (0, .ref a0), (1, .int l1)]) hx hb dX4_takeOne_38 rfl hl (by decide) rfl (fun ls hl => ?_)
        refine lv_aload_n hx hb dX4_takeOne_39 rfl (lv_at hl 1 rfl) ?_
        refine gf_X4_26 h0 hP 0 rfl rfl dX4_takeOne_40 ?_
        refine lv_aload_n hx hb dX4_takeOne_43 rfl (lv_at hl 1 rfl) ?_
        refine gf_X4_22 h0 hP 0 rfl rfl dX4_takeOne_44 ?_
        refine lv_iload_n hx hb dX4_takeOne_47 rfl (lv_at hl 2 rfl) ?_
        obtain ⟨g4, E⟩ := gd_e E
        refine asti (wo := (wX4 cI a0 a1 a2 a3 a4 a5 a6 a7 a8 v_near v_steps (upd v_gone v_steps.toNatClampNeg l1) v_had v_came v_farEnd v_queue v_cameAlong)) hx hb hK hP hD hS 2 rfl rfl g4 rfl dX4_takeOne_48 (fun H locs hP hD hS => ?_)
        refine lv_aload_n hx hb dX4_takeOne_49 rfl (lv_at hl 1 rfl) ?_
        refine gf_X4_29 h0 hP 0 rfl rfl dX4_takeOne_50 ?_
        refine lv_aload_n hx hb dX4_takeOne_53 rfl (lv_at hl 1 rfl) ?_
        refine gf_X4_22 h0 hP 0 rfl rfl dX4_takeOne_54 ?_
        refine lv_iload_n hx hb dX4_takeOne_57 rfl (lv_at hl 0 rfl) ?_
        obtain ⟨r5, hF, E⟩ := bn_e E
        refine callSi (wo := (wX4 cI a0 a1 a2 a3 a4 a5 a6 a7 a8 v_near v_steps (upd v_gone v_steps.toNatClampNeg l1) v_had v_came v_farEnd v_queue v_cameAlong)) h0 (c_J6_bitCount l D cI cZ cS (v_near l1.toNatClampNeg) r5 hF) (gS wq_491 wq_358 wq_10 wq_359) hdJ6_bitCount ⟨Nat.le_of_ble_eq_true rfl, Nat.le_of_ble_eq_true rfl⟩ ⟨Nat.le_refl _, Nat.le_refl _⟩ hP hD hS hA [] rfl rfl rfl rfl hl.1 rfl (Nat.le_of_ble_eq_true rfl) dX4_takeOne_58 (fun H locs hP hD hS => ?_)
        obtain ⟨g6, E⟩ := gd_e E
        refine asti (wo := (wX4 cI a0 a1 a2 a3 a4 a5 a6 a7 a8 v_near v_steps (upd v_gone v_steps.toNatClampNeg l1) (upd v_had v_steps.toNatClampNeg r5) v_came v_farEnd v_queue v_cameAlong)) hx hb hK hP hD hS 3 rfl rfl g6 rfl dX4_takeOne_61 (fun H locs hP hD hS => ?_)
        refine lv_aload_n hx hb dX4_takeOne_62 rfl (lv_at hl 1 rfl) ?_
        refine lv_iload_n hx hb dX4_takeOne_63 rfl (lv_at hl 2 rfl) ?_
        obtain ⟨r7, hF, E⟩ := bn_e E
        refine callVfv (wo := (wX4 cI a0 a1 a2 a3 a4 a5 a6 a7 a8 r7 v_steps (upd v_gone v_steps.toNatClampNeg l1) (upd v_had v_steps.toNatClampNeg r5) v_came v_farEnd v_queue v_cameAlong)) h0 (c_X4_takeAway l D cI cZ cS a0 a1 a2 a3 a4 a5 a6 a7 a8 v_near v_steps (upd v_gone v_steps.toNatClampNeg l1) (upd v_had v_steps.toNatClampNeg r5) v_came v_farEnd v_queue v_cameAlong l1 r7 hF) (gV wq_492 wq_494 wp_16 wq_6 wq_495) hdX4_takeAway ⟨Nat.le_of_ble_eq_true rfl, Nat.le_of_ble_eq_true rfl⟩ ⟨Nat.le_refl _, Nat.le_refl _⟩ hP hD hS hA 0 4 rfl rfl rfl hl.1 rfl (Nat.le_of_ble_eq_true rfl) dX4_takeOne_64 (fun H locs hP hD hS => ?_)
        refine lv_aload_n hx hb dX4_takeOne_67 rfl (lv_at hl 1 rfl) ?_
        refine gf_X4_32 h0 hP 0 rfl rfl dX4_takeOne_68 ?_
        refine lv_aload_n hx hb dX4_takeOne_71 rfl (lv_at hl 1 rfl) ?_
        refine gf_X4_22 h0 hP 0 rfl rfl dX4_takeOne_72 ?_
        refine lv_iconst (v := (-1)) hx hb dX4_takeOne_75 (by decide) ?_
        obtain ⟨g8, E⟩ := gd_e E
        refine asti (wo := (wX4 cI a0 a1 a2 a3 a4 a5 a6 a7 a8 r7 v_steps (upd v_gone v_steps.toNatClampNeg l1) (upd v_had v_steps.toNatClampNeg r5) (upd v_came v_steps.toNatClampNeg (-1)) v_farEnd v_queue v_cameAlong)) hx hb hK hP hD hS 4 rfl rfl g8 rfl dX4_takeOne_76 (fun H locs hP hD hS => ?_)
        refine lv_aload_n hx hb dX4_takeOne_77 rfl (lv_at hl 1 rfl) ?_
        refine gf_X4_29 h0 hP 0 rfl rfl dX4_takeOne_78 ?_
        refine lv_aload_n hx hb dX4_takeOne_81 rfl (lv_at hl 1 rfl) ?_
        refine gf_X4_22 h0 hP 0 rfl rfl dX4_takeOne_82 ?_
        obtain ⟨g9, E⟩ := gd_e E
        refine aldi hx hb hK hP 3 rfl rfl g9 dX4_takeOne_85 ?_
        refine lv_iconst (v := 3) hx hb dX4_takeOne_86 (by decide) ?_
        refine lv_icmp_ne (tgt := 108) hx hb dX4_takeOne_87 (by decide) (fun c10 => ?_) (fun c10 => ?_)
        · have E := br_n E c10
          refine lv_aload_n hx hb dX4_takeOne_108 rfl (lv_at hl 1 rfl) ?_
          refine lv_dup hx hb dX4_takeOne_109 rfl ?_
          refine gf_X4_22 h0 hP 0 rfl rfl dX4_takeOne_110 ?_
          refine lv_iconst (v := 1) hx hb dX4_takeOne_113 (by decide) ?_
          refine lv_iadd hx hb dX4_takeOne_114 ?_
          refine pf_X4_22 (wo := (wX4 cI a0 a1 a2 a3 a4 a5 a6 a7 a8 r7 (v_steps + 1) (upd v_gone v_steps.toNatClampNeg l1) (upd v_had v_steps.toNatClampNeg r5) (upd v_came v_steps.toNatClampNeg (-1)) v_farEnd v_queue v_cameAlong)) h0 hP hD hS 0 rfl (Nat.le_of_ble_eq_true rfl) rfl dX4_takeOne_115 (fun H locs hP hD hS => ?_)
          exact hfin _ (Option.some.inj E) _ _ _ _ hP hD hS dX4_takeOne_118
        · have E := br_p E c10
          refine lv_aload_n hx hb dX4_takeOne_90 rfl (lv_at hl 1 rfl) ?_
          obtain ⟨r11, hF, E⟩ := bn_e E
          refine callVfv (wo := (wX4 cI a0 a1 a2 a3 a4 a5 a6 a7 a8 r7 v_steps (upd v_gone v_steps.toNatClampNeg l1) (upd v_had v_steps.toNatClampNeg r5) (upd v_came v_steps.toNatClampNeg (-1)) r11.1 r11.2.1 r11.2.2)) h0 (c_X4_layAll l D cI cZ cS a0 a1 a2 a3 a4 a5 a6 a7 a8 r7 v_steps (upd v_gone v_steps.toNatClampNeg l1) (upd v_had v_steps.toNatClampNeg r5) (upd v_came v_steps.toNatClampNeg (-1)) v_farEnd v_queue v_cameAlong r11 hF) (gV wq_496 wq_498 wp_17 wq_6 wq_499) hdX4_layAll ⟨Nat.le_of_ble_eq_true rfl, Nat.le_of_ble_eq_true rfl⟩ ⟨Nat.le_refl _, Nat.le_refl _⟩ hP hD hS hA 0 4 rfl rfl rfl hl.1 rfl (Nat.le_of_ble_eq_true rfl) dX4_takeOne_91 (fun H locs hP hD hS => ?_)
          refine lv_aload_n hx hb dX4_takeOne_94 rfl (lv_at hl 1 rfl) ?_
          refine gf_X4_32 h0 hP 0 rfl rfl dX4_takeOne_95 ?_
          refine lv_aload_n hx hb dX4_takeOne_98 rfl (lv_at hl 1 rfl) ?_
          refine gf_X4_22 h0 hP 0 rfl rfl dX4_takeOne_99 ?_
          refine lv_aload_n hx hb dX4_takeOne_102 rfl (lv_at hl 1 rfl) ?_
          refine lv_iload_n hx hb dX4_takeOne_103 rfl (lv_at hl 0 rfl) ?_
          obtain ⟨r12, hF, E⟩ := bn_e E
          refine callVfi (wo := (wX4 cI a0 a1 a2 a3 a4 a5 a6 a7 a8 r12.2.1 v_steps (upd v_gone v_steps.toNatClampNeg l1) (upd v_had v_steps.toNatClampNeg r5) (upd v_came v_steps.toNatClampNeg (-1)) r12.2.2.1 r12.2.2.2.1 r12.2.2.2.2)) h0 (c_X4_joinFirstOf l D cI cZ cS a0 a1 a2 a3 a4 a5 a6 a7 a8 r7 v_steps (upd v_gone v_steps.toNatClampNeg l1) (upd v_had v_steps.toNatClampNeg r5) (upd v_came v_steps.toNatClampNeg (-1)) r11.1 r11.2.1 r11.2.2 (v_near l1.toNatClampNeg) r12 hF) (gV wq_503 wq_505 wp_18 wq_6 wq_506) hdX4_joinFirstOf ⟨Nat.le_of_ble_eq_true rfl, Nat.le_of_ble_eq_true rfl⟩ ⟨Nat.le_refl _, Nat.le_refl _⟩ hP hD hS hA 0 4 rfl rfl rfl hl.1 rfl (Nat.le_of_ble_eq_true rfl) dX4_takeOne_104 (fun H locs hP hD hS => ?_)
          obtain ⟨g13, E⟩ := gd_e E
          refine asti (wo := (wX4 cI a0 a1 a2 a3 a4 a5 a6 a7 a8 r12.2.1 v_steps (upd v_gone v_steps.toNatClampNeg l1) (upd v_had v_steps.toNatClampNeg r5) (upd (upd v_came v_steps.toNatClampNeg (-1)) v_steps.toNatClampNeg r12.1) r12.2.2.1 r12.2.2.2.1 r12.2.2.2.2)) hx hb hK hP hD hS 4 rfl rfl g13 rfl dX4_takeOne_107 (fun H locs hP hD hS => ?_)
          refine lv_aload_n hx hb dX4_takeOne_108 rfl (lv_at hl 1 rfl) ?_
          refine lv_dup hx hb dX4_takeOne_109 rfl ?_
          refine gf_X4_22 h0 hP 0 rfl rfl dX4_takeOne_110 ?_
          refine lv_iconst (v := 1) hx hb dX4_takeOne_113 (by decide) ?_
          refine lv_iadd hx hb dX4_takeOne_114 ?_
          refine pf_X4_22 (wo := (wX4 cI a0 a1 a2 a3 a4 a5 a6 a7 a8 r12.2.1 (v_steps + 1) (upd v_gone v_steps.toNatClampNeg l1) (upd v_had v_steps.toNatClampNeg r5) (upd (upd v_came v_steps.toNatClampNeg (-1)) v_steps.toNatClampNeg r12.1) r12.2.2.1 r12.2.2.2.1 r12.2.2.2.2)) h0 hP hD hS 0 rfl (Nat.le_of_ble_eq_true rfl) rfl dX4_takeOne_115 (fun H locs hP hD hS => ?_)
          exact hfin _ (Option.some.inj E) _ _ _ _ hP hD hS dX4_takeOne_118
      · have E := br_n E c2
        exact hfin _ (Option.some.inj E) _ _ _ _ hP hD hS dX4_takeOne_31
  refine lv_aload_n hx hb dX4_takeOne_0 rfl (lv_at hl 0 rfl) ?_
  refine lv_iconst (v := 2) hx hb dX4_takeOne_1 (by decide) ?_
  obtain ⟨r14, hF, E⟩ := bn_e E
  refine callVfi (wo := (wX4 cI a0 a1 a2 a3 a4 a5 a6 a7 a8 v_near v_steps v_gone v_had v_came v_farEnd v_queue v_cameAlong)) h0 (c_X4_firstOf l D cI cZ cS a0 a1 a2 a3 a4 a5 a6 a7 a8 v_near v_steps v_gone v_had v_came v_farEnd v_queue v_cameAlong 2 r14 hF) (gV wq_487 wq_489 wp_15 wq_6 wq_490) hdX4_firstOf ⟨Nat.le_of_ble_eq_true rfl, Nat.le_of_ble_eq_true rfl⟩ ⟨Nat.le_refl _, Nat.le_refl _⟩ hP hD hS hA 0 4 rfl rfl rfl hl.1 rfl (Nat.le_of_ble_eq_true rfl) dX4_takeOne_2 (fun H locs hP hD hS => ?_)
  refine lv_istore_n (lv' := [(1, .int r14), (0, .ref a0)]) hx hb dX4_takeOne_5 rfl hl (by decide) rfl (fun ls hl => ?_)
  refine lv_iload_n hx hb dX4_takeOne_6 rfl (lv_at hl 0 rfl) ?_
  refine lv_iconst (v := (-1)) hx hb dX4_takeOne_7 (by decide) ?_
  refine lv_icmp_ne (tgt := 17) hx hb dX4_takeOne_8 (by decide) (fun c15 => ?_) (fun c15 => ?_)
  · have E := br_n E c15
    exact J17 _ _ _ _ _ _ _ _ _ _ _ _ E hP hD hS (lv_sub hl [1, 0] rfl)
  · have E := br_p E c15
    refine lv_aload_n hx hb dX4_takeOne_11 rfl (lv_at hl 1 rfl) ?_
    refine lv_iconst (v := 3) hx hb dX4_takeOne_12 (by decide) ?_
    obtain ⟨r16, hF, E⟩ := bn_e E
    refine callVfi (wo := (wX4 cI a0 a1 a2 a3 a4 a5 a6 a7 a8 v_near v_steps v_gone v_had v_came v_farEnd v_queue v_cameAlong)) h0 (c_X4_firstOf l D cI cZ cS a0 a1 a2 a3 a4 a5 a6 a7 a8 v_near v_steps v_gone v_had v_came v_farEnd v_queue v_cameAlong 3 r16 hF) (gV wq_487 wq_489 wp_15 wq_6 wq_490) hdX4_firstOf ⟨Nat.le_of_ble_eq_true rfl, Nat.le_of_ble_eq_true rfl⟩ ⟨Nat.le_refl _, Nat.le_refl _⟩ hP hD hS hA 0 4 rfl rfl rfl hl.1 rfl (Nat.le_of_ble_eq_true rfl) dX4_takeOne_13 (fun H locs hP hD hS => ?_)
    refine lv_istore_n (lv' := [(1, .int r16), (0, .ref a0)]) hx hb dX4_takeOne_16 rfl hl (by decide) rfl (fun ls hl => ?_)
    exact J17 _ _ _ _ _ _ _ _ _ _ _ _ E hP hD hS (lv_sub hl [1, 0] rfl)
theorem hdX4_run : yX4_run.cls = RX4 ∧ yX4_run.cls ≠ "java/lang/invoke/MethodHandle" ∧ yX4_run.cls ≠ "java/lang/invoke/VarHandle" ∧ (parseMethodDescriptor yX4_run.desc).map (fun d => d.parameters.length) = some 1 := by decide +kernel
noncomputable def FX4_run_b47 (w_pins w_bars : Int32) (w_lesser w_greater : Nat → Int32)  (k47 : Int32 → (Nat → Int32) → Int32 → (Nat → Int32) → (Nat → Int32) → (Nat → Int32) → (Nat → Int32) → (Nat → Int32) → (Nat → Int32) → Option ((Nat → Int32) × Int32 × (Nat → Int32) × (Nat → Int32) × (Nat → Int32) × (Nat → Int32) × (Nat → Int32) × (Nat → Int32))) (l2 : Int32) (v_near : Nat → Int32) (v_steps : Int32) (v_gone v_had v_came v_farEnd v_queue v_cameAlong : Nat → Int32) : Option ((Nat → Int32) × Int32 × (Nat → Int32) × (Nat → Int32) × (Nat → Int32) × (Nat → Int32) × (Nat → Int32) × (Nat → Int32)) := (if l2 < 3 then (some (v_near, v_steps, v_gone, v_had, v_came, v_farEnd, v_queue, v_cameAlong)) else ((FX4_takeOne v_near v_steps v_gone v_had v_came v_farEnd v_queue v_cameAlong).bind (fun r2 => (k47 (l2 + (-1)) r2.1 r2.2.1 r2.2.2.1 r2.2.2.2.1 r2.2.2.2.2.1 r2.2.2.2.2.2.1 r2.2.2.2.2.2.2.1 r2.2.2.2.2.2.2.2))))
noncomputable def FX4_run_h47 (w_pins w_bars : Int32) (w_lesser w_greater : Nat → Int32)  : Nat → Int32 → (Nat → Int32) → Int32 → (Nat → Int32) → (Nat → Int32) → (Nat → Int32) → (Nat → Int32) → (Nat → Int32) → (Nat → Int32) → Option ((Nat → Int32) × Int32 × (Nat → Int32) × (Nat → Int32) × (Nat → Int32) × (Nat → Int32) × (Nat → Int32) × (Nat → Int32))
  | 0 => fun _ _ _ _ _ _ _ _ _ => none
  | n + 1 => fun l2 v_near v_steps v_gone v_had v_came v_farEnd v_queue v_cameAlong => FX4_run_b47 w_pins w_bars w_lesser w_greater  (FX4_run_h47 w_pins w_bars w_lesser w_greater  n) l2 v_near v_steps v_gone v_had v_came v_farEnd v_queue v_cameAlong
noncomputable def FX4_run_b30 (w_pins w_bars : Int32) (w_lesser w_greater : Nat → Int32) (k2 : Int32 → (Nat → Int32) → Int32 → (Nat → Int32) → (Nat → Int32) → (Nat → Int32) → (Nat → Int32) → (Nat → Int32) → (Nat → Int32) → Option ((Nat → Int32) × Int32 × (Nat → Int32) × (Nat → Int32) × (Nat → Int32) × (Nat → Int32) × (Nat → Int32) × (Nat → Int32))) (l2 t1 t2 : Int32) (v_near : Nat → Int32) (v_steps : Int32) (v_gone v_had v_came v_farEnd v_queue v_cameAlong : Nat → Int32) : Option ((Nat → Int32) × Int32 × (Nat → Int32) × (Nat → Int32) × (Nat → Int32) × (Nat → Int32) × (Nat → Int32) × (Nat → Int32)) := (gd (vp_in t1 12) (k2 (l2 + 1) (upd v_near t1.toNatClampNeg t2) v_steps v_gone v_had v_came v_farEnd v_queue v_cameAlong))
noncomputable def FX4_run_b2 (w_pins w_bars : Int32) (w_lesser w_greater : Nat → Int32)  (k2 : Int32 → (Nat → Int32) → Int32 → (Nat → Int32) → (Nat → Int32) → (Nat → Int32) → (Nat → Int32) → (Nat → Int32) → (Nat → Int32) → Option ((Nat → Int32) × Int32 × (Nat → Int32) × (Nat → Int32) × (Nat → Int32) × (Nat → Int32) × (Nat → Int32) × (Nat → Int32))) (l2 : Int32) (v_near : Nat → Int32) (v_steps : Int32) (v_gone v_had v_came v_farEnd v_queue v_cameAlong : Nat → Int32) : Option ((Nat → Int32) × Int32 × (Nat → Int32) × (Nat → Int32) × (Nat → Int32) × (Nat → Int32) × (Nat → Int32) × (Nat → Int32)) := (if 12 ≤ l2 then (FX4_run_h47 w_pins w_bars w_lesser w_greater  5000 w_pins v_near 0 v_gone v_had v_came v_farEnd v_queue v_cameAlong) else (if w_pins ≤ l2 then (FX4_run_b30 w_pins w_bars w_lesser w_greater k2 l2 l2 0 v_near v_steps v_gone v_had v_came v_farEnd v_queue v_cameAlong) else ((FX0_neighbours l2 w_bars w_lesser w_greater).bind (fun r6 => (FX4_run_b30 w_pins w_bars w_lesser w_greater k2 l2 l2 r6 v_near v_steps v_gone v_had v_came v_farEnd v_queue v_cameAlong)))))
noncomputable def FX4_run_h2 (w_pins w_bars : Int32) (w_lesser w_greater : Nat → Int32)  : Nat → Int32 → (Nat → Int32) → Int32 → (Nat → Int32) → (Nat → Int32) → (Nat → Int32) → (Nat → Int32) → (Nat → Int32) → (Nat → Int32) → Option ((Nat → Int32) × Int32 × (Nat → Int32) × (Nat → Int32) × (Nat → Int32) × (Nat → Int32) × (Nat → Int32) × (Nat → Int32))
  | 0 => fun _ _ _ _ _ _ _ _ _ => none
  | n + 1 => fun l2 v_near v_steps v_gone v_had v_came v_farEnd v_queue v_cameAlong => FX4_run_b2 w_pins w_bars w_lesser w_greater  (FX4_run_h2 w_pins w_bars w_lesser w_greater  n) l2 v_near v_steps v_gone v_had v_came v_farEnd v_queue v_cameAlong
noncomputable def FX4_run (v_near : Nat → Int32) (v_steps : Int32) (v_gone v_had v_came v_farEnd v_queue v_cameAlong : Nat → Int32) (w_pins w_bars : Int32) (w_lesser w_greater : Nat → Int32) : Option ((Nat → Int32) × Int32 × (Nat → Int32) × (Nat → Int32) × (Nat → Int32) × (Nat → Int32) × (Nat → Int32) × (Nat → Int32)) := (FX4_run_h2 w_pins w_bars w_lesser w_greater  5000 0 v_near v_steps v_gone v_had v_came v_farEnd v_queue v_cameAlong)
set_option maxHeartbeats 4000000 in
set_option maxRecDepth 100000 in
theorem c_X4_run (l : Launch) (D : va_G) (cI cZ cS : ClassId) (a0 a1 a2 a3 a4 a5 a6 a7 a8 a9 a10 a11 a12 : Nat) (v_near : Nat → Int32) (v_steps : Int32) (v_gone v_had v_came v_farEnd v_queue v_cameAlong : Nat → Int32) (w_pins w_bars : Int32) (w_names w_lesser w_greater : Nat → Int32)  (u : (Nat → Int32) × Int32 × (Nat → Int32) × (Nat → Int32) × (Nat → Int32) × (Nat → Int32) × (Nat → Int32) × (Nat → Int32)) (hF : FX4_run v_near v_steps v_gone v_had v_came v_farEnd v_queue v_cameAlong w_pins w_bars w_lesser w_greater = some u) : MCv l D (tyL cI cZ cS) yX4_run cX4_run 3 none 5 124 [.ref a0, .ref a9] (wX4 cI a0 a1 a2 a3 a4 a5 a6 a7 a8 v_near v_steps v_gone v_had v_came v_farEnd v_queue v_cameAlong ++ wX0 cI a9 a10 a11 a12 w_pins w_bars w_names w_lesser w_greater) (wX4 cI a0 a1 a2 a3 a4 a5 a6 a7 a8 u.1 u.2.1 u.2.2.1 u.2.2.2.1 u.2.2.2.2.1 u.2.2.2.2.2.1 u.2.2.2.2.2.2.1 u.2.2.2.2.2.2.2 ++ wX0 cI a9 a10 a11 a12 w_pins w_bars w_names w_lesser w_greater) := by
  refine MCv.mk (by decide) (Nat.le_of_ble_eq_true rfl) ?_
  intro p e s m args below meth c A ls Q h0 hP hD hA hS hl hfin0
  have hfin : ∀ (u' : (Nat → Int32) × Int32 × (Nat → Int32) × (Nat → Int32) × (Nat → Int32) × (Nat → Int32) × (Nat → Int32) × (Nat → Int32)), u' = u → ∀ (H : Heap) (locs : List Loc) (ls : Array Slot) (pc : Nat), va_P D vwCl (wX4 cI a0 a1 a2 a3 a4 a5 a6 a7 a8 u'.1 u'.2.1 u'.2.2.1 u'.2.2.2.1 u'.2.2.2.2.1 u'.2.2.2.2.2.1 u'.2.2.2.2.2.2.1 u'.2.2.2.2.2.2.2 ++ wX0 cI a9 a10 a11 a12 w_pins w_bars w_names w_lesser w_greater) H → va_D A (wX4 cI a0 a1 a2 a3 a4 a5 a6 a7 a8 u'.1 u'.2.1 u'.2.2.1 u'.2.2.2.1 u'.2.2.2.2.1 u'.2.2.2.2.2.1 u'.2.2.2.2.2.2.1 u'.2.2.2.2.2.2.2 ++ wX0 cI a9 a10 a11 a12 w_pins w_bars w_names w_lesser w_greater) → va_S A s.heap H locs → decode cX4_run pc = .ok (.return_, 1) → W p l e (uR 5 124) s m args below meth c H locs 0 0 Q (F0 m pc ls []) := by intro u' hu; subst hu; exact hfin0
  clear hfin0
  obtain ⟨hx, hb, hr, hlk, hml, hown, hts, hK⟩ := id h0
  have hl : lv_has ls 3 [(0, .ref a0), (1, .ref a9)] := hl
  have E := hF
  have J47 : ∀ (n47 : Nat) (l2 : Int32) (v_near : Nat → Int32) (v_steps : Int32) (v_gone v_had v_came v_farEnd v_queue v_cameAlong : Nat → Int32) (H : Heap) (locs : List Loc) (ls : Array Slot), FX4_run_h47 w_pins w_bars w_lesser w_greater  n47 l2 v_near v_steps v_gone v_had v_came v_farEnd v_queue v_cameAlong = some u → va_P D vwCl (wX4 cI a0 a1 a2 a3 a4 a5 a6 a7 a8 v_near v_steps v_gone v_had v_came v_farEnd v_queue v_cameAlong ++ wX0 cI a9 a10 a11 a12 w_pins w_bars w_names w_lesser w_greater) H → va_D A (wX4 cI a0 a1 a2 a3 a4 a5 a6 a7 a8 v_near v_steps v_gone v_had v_came v_farEnd v_queue v_cameAlong ++ wX0 cI a9 a10 a11 a12 w_pins w_bars w_names w_lesser w_greater) → va_S A s.heap H locs → lv_has ls 3 [(0, .ref a0), (2, .int l2)] → W p l e (uR 5 124) s m args below meth c H locs 0 0 Q (F0 m 47 ls []) := by
    intro n47
    induction n47 with
    | zero => intro l2 v_near v_steps v_gone v_had v_came v_farEnd v_queue v_cameAlong H locs ls E; exact none_e E
    | succ n47 ih47 =>
      intro l2 v_near v_steps v_gone v_had v_came v_farEnd v_queue v_cameAlong H locs ls E hP hD hS hl
      have E : FX4_run_b47 w_pins w_bars w_lesser w_greater  (FX4_run_h47 w_pins w_bars w_lesser w_greater  n47) l2 v_near v_steps v_gone v_had v_came v_farEnd v_queue v_cameAlong = some u := E
      refine lv_iload_n hx hb dX4_run_47 rfl (lv_at hl 1 rfl) ?_
      refine lv_iconst (v := 3) hx hb dX4_run_48 (by decide) ?_
      refine lv_icmp_lt (tgt := 62) hx hb dX4_run_49 (by decide) (fun c1 => ?_) (fun c1 => ?_)
      · have E := br_p E c1
        exact hfin _ (Option.some.inj E) _ _ _ _ hP hD hS dX4_run_62
      · have E := br_n E c1
        refine lv_aload_n hx hb dX4_run_52 rfl (lv_at hl 0 rfl) ?_
        obtain ⟨r2, hF, E⟩ := bn_e E
        refine callVv (wo := (wX4 cI a0 a1 a2 a3 a4 a5 a6 a7 a8 r2.1 r2.2.1 r2.2.2.1 r2.2.2.2.1 r2.2.2.2.2.1 r2.2.2.2.2.2.1 r2.2.2.2.2.2.2.1 r2.2.2.2.2.2.2.2 ++ wX0 cI a9 a10 a11 a12 w_pins w_bars w_names w_lesser w_greater)) h0 (c_X4_takeOne l D cI cZ cS a0 a1 a2 a3 a4 a5 a6 a7 a8 v_near v_steps v_gone v_had v_came v_farEnd v_queue v_cameAlong r2 hF) (gV wq_483 wq_485 wp_14 wq_6 wq_486) hdX4_takeOne ⟨Nat.le_of_ble_eq_true rfl, Nat.le_of_ble_eq_true rfl⟩ ⟨Nat.le_refl _, Nat.le_refl _⟩ hP hD hS hA 0 4 rfl rfl rfl [0, 1, 2, 3, 4, 5, 6, 7, 8] rfl rfl rfl rfl hl.1 rfl (Nat.le_of_ble_eq_true rfl) dX4_run_53 (fun H locs hP hD hS => ?_)
        refine lv_iinc (v := (l2 + (-1))) (lv' := [(2, .int (l2 + (-1))), (0, .ref a0)]) hx hb dX4_run_56 hl (k := 1) rfl rfl (by decide) rfl (fun ls hl => ?_)
        refine lv_goto (tgt := 47) hx hb dX4_run_59 (by decide) ?_
        exact ih47 _ _ _ _ _ _ _ _ _ _ _ _ E hP hD hS (lv_sub hl [1, 0] rfl)
  have J2 : ∀ (n2 : Nat) (l2 : Int32) (v_near : Nat → Int32) (v_steps : Int32) (v_gone v_had v_came v_farEnd v_queue v_cameAlong : Nat → Int32) (H : Heap) (locs : List Loc) (ls : Array Slot), FX4_run_h2 w_pins w_bars w_lesser w_greater  n2 l2 v_near v_steps v_gone v_had v_came v_farEnd v_queue v_cameAlong = some u → va_P D vwCl (wX4 cI a0 a1 a2 a3 a4 a5 a6 a7 a8 v_near v_steps v_gone v_had v_came v_farEnd v_queue v_cameAlong ++ wX0 cI a9 a10 a11 a12 w_pins w_bars w_names w_lesser w_greater) H → va_D A (wX4 cI a0 a1 a2 a3 a4 a5 a6 a7 a8 v_near v_steps v_gone v_had v_came v_farEnd v_queue v_cameAlong ++ wX0 cI a9 a10 a11 a12 w_pins w_bars w_names w_lesser w_greater) → va_S A s.heap H locs → lv_has ls 3 [(0, .ref a0), (1, .ref a9), (2, .int l2)] → W p l e (uR 5 124) s m args below meth c H locs 0 0 Q (F0 m 2 ls []) := by
    intro n2
    induction n2 with
    | zero => intro l2 v_near v_steps v_gone v_had v_came v_farEnd v_queue v_cameAlong H locs ls E; exact none_e E
    | succ n2 ih2 =>
      intro l2 v_near v_steps v_gone v_had v_came v_farEnd v_queue v_cameAlong H locs ls E hP hD hS hl
      have E : FX4_run_b2 w_pins w_bars w_lesser w_greater  (FX4_run_h2 w_pins w_bars w_lesser w_greater  n2) l2 v_near v_steps v_gone v_had v_came v_farEnd v_queue v_cameAlong = some u := E
      have J30 : ∀ (l2 t1 t2 : Int32) (v_near : Nat → Int32) (v_steps : Int32) (v_gone v_had v_came v_farEnd v_queue v_cameAlong : Nat → Int32) (H : Heap) (locs : List Loc) (ls : Array Slot), FX4_run_b30 w_pins w_bars w_lesser w_greater (FX4_run_h2 w_pins w_bars w_lesser w_greater  n2) l2 t1 t2 v_near v_steps v_gone v_had v_came v_farEnd v_queue v_cameAlong = some u → va_P D vwCl (wX4 cI a0 a1 a2 a3 a4 a5 a6 a7 a8 v_near v_steps v_gone v_had v_came v_farEnd v_queue v_cameAlong ++ wX0 cI a9 a10 a11 a12 w_pins w_bars w_names w_lesser w_greater) H → va_D A (wX4 cI a0 a1 a2 a3 a4 a5 a6 a7 a8 v_near v_steps v_gone v_had v_came v_farEnd v_queue v_cameAlong ++ wX0 cI a9 a10 a11 a12 w_pins w_bars w_names w_lesser w_greater) → va_S A s.heap H locs → lv_has ls 3 [(0, .ref a0), (1, .ref a9), (2, .int l2)] → W p l e (uR 5 124) s m args below meth c H locs 0 0 Q (F0 m 30 ls [.int t2, .int t1, .ref a1]) := by
        intro l2 t1 t2 v_near v_steps v_gone v_had v_came v_farEnd v_queue v_cameAlong H locs ls E hP hD hS hl
        obtain ⟨g3, E⟩ := gd_e E
        refine asti (wo := (wX4 cI a0 a1 a2 a3 a4 a5 a6 a7 a8 (upd v_near t1.toNatClampNeg t2) v_steps v_gone v_had v_came v_farEnd v_queue v_cameAlong ++ wX0 cI a9 a10 a11 a12 w_pins w_bars w_names w_lesser w_greater)) hx hb hK hP hD hS 1 rfl rfl g3 rfl dX4_run_30 (fun H locs hP hD hS => ?_)
        refine lv_iinc (v := (l2 + 1)) (lv' := [(2, .int (l2 + 1)), (0, .ref a0), (1, .ref a9)]) hx hb dX4_run_31 hl (k := 2) rfl rfl (by decide) rfl (fun ls hl => ?_)
        refine lv_goto (tgt := 2) hx hb dX4_run_34 (by decide) ?_
        exact ih2 _ _ _ _ _ _ _ _ _ _ _ _ E hP hD hS (lv_sub hl [1, 2, 0] rfl)
      refine lv_iload_n hx hb dX4_run_2 rfl (lv_at hl 2 rfl) ?_
      refine lv_bipush (v := 12) hx hb dX4_run_3 (by decide) ?_
      refine lv_icmp_ge (tgt := 37) hx hb dX4_run_5 (by decide) (fun c4 => ?_) (fun c4 => ?_)
      · have E := br_p E c4
        refine lv_aload_n hx hb dX4_run_37 rfl (lv_at hl 0 rfl) ?_
        refine lv_iconst (v := 0) hx hb dX4_run_38 (by decide) ?_
        refine pf_X4_22 (wo := (wX4 cI a0 a1 a2 a3 a4 a5 a6 a7 a8 v_near 0 v_gone v_had v_came v_farEnd v_queue v_cameAlong ++ wX0 cI a9 a10 a11 a12 w_pins w_bars w_names w_lesser w_greater)) h0 hP hD hS 0 rfl (Nat.le_of_ble_eq_true rfl) rfl dX4_run_39 (fun H locs hP hD hS => ?_)
        refine lv_aload_n hx hb dX4_run_42 rfl (lv_at hl 1 rfl) ?_
        refine gf_X4_35 h0 hP 9 rfl rfl dX4_run_43 ?_
        refine lv_istore_n (lv' := [(2, .int w_pins), (0, .ref a0), (1, .ref a9)]) hx hb dX4_run_46 rfl hl (by decide) rfl (fun ls hl => ?_)
        exact J47 5000 _ _ _ _ _ _ _ _ _ _ _ _ E hP hD hS (lv_sub hl [1, 0] rfl)
      · have E := br_n E c4
        refine lv_aload_n hx hb dX4_run_8 rfl (lv_at hl 0 rfl) ?_
        refine gf_X4_18 h0 hP 0 rfl rfl dX4_run_9 ?_
        refine lv_iload_n hx hb dX4_run_12 rfl (lv_at hl 2 rfl) ?_
        refine lv_iload_n hx hb dX4_run_13 rfl (lv_at hl 2 rfl) ?_
        refine lv_aload_n hx hb dX4_run_14 rfl (lv_at hl 1 rfl) ?_
        refine gf_X4_35 h0 hP 9 rfl rfl dX4_run_15 ?_
        refine lv_icmp_ge (tgt := 29) hx hb dX4_run_18 (by decide) (fun c5 => ?_) (fun c5 => ?_)
        · have E := br_p E c5
          refine lv_iconst (v := 0) hx hb dX4_run_29 (by decide) ?_
          exact J30 _ _ _ _ _ _ _ _ _ _ _ _ _ _ E hP hD hS (lv_sub hl [0, 1, 2] rfl)
        · have E := br_n E c5
          refine lv_aload_n hx hb dX4_run_21 rfl (lv_at hl 1 rfl) ?_
          refine lv_iload_n hx hb dX4_run_22 rfl (lv_at hl 2 rfl) ?_
          obtain ⟨r6, hF, E⟩ := bn_e E
          refine callVi (wo := (wX4 cI a0 a1 a2 a3 a4 a5 a6 a7 a8 v_near v_steps v_gone v_had v_came v_farEnd v_queue v_cameAlong ++ wX0 cI a9 a10 a11 a12 w_pins w_bars w_names w_lesser w_greater)) h0 (c_X0_neighbours l D cI cZ cS a9 a10 a11 a12 w_pins w_bars w_names w_lesser w_greater l2 r6 hF) (gV wq_482 wq_393 wq_394 wq_2 wq_395) hdX0_neighbours ⟨Nat.le_of_ble_eq_true rfl, Nat.le_of_ble_eq_true rfl⟩ ⟨Nat.le_refl _, Nat.le_refl _⟩ hP hD hS hA 0 0 rfl rfl rfl [9, 10, 11, 12] rfl rfl rfl rfl hl.1 rfl (Nat.le_of_ble_eq_true rfl) dX4_run_23 (fun H locs hP hD hS => ?_)
          refine lv_goto (tgt := 30) hx hb dX4_run_26 (by decide) ?_
          exact J30 _ _ _ _ _ _ _ _ _ _ _ _ _ _ E hP hD hS (lv_sub hl [0, 1, 2] rfl)
  refine lv_iconst (v := 0) hx hb dX4_run_0 (by decide) ?_
  refine lv_istore_n (lv' := [(2, .int 0), (0, .ref a0), (1, .ref a9)]) hx hb dX4_run_1 rfl hl (by decide) rfl (fun ls hl => ?_)
  exact J2 5000 _ _ _ _ _ _ _ _ _ _ _ _ E hP hD hS (lv_sub hl [1, 2, 0] rfl)
