theorem hdX2_isMissing : yX2_isMissing.cls = RX2 ∧ yX2_isMissing.cls ≠ "java/lang/invoke/MethodHandle" ∧ yX2_isMissing.cls ≠ "java/lang/invoke/VarHandle" ∧ (parseMethodDescriptor yX2_isMissing.desc).map (fun d => d.parameters.length) = some 0 := by decide +kernel
noncomputable def FX2_isMissing (v_sort : Int32) : Option (Int32) := (if v_sort = (-1) then (some 1) else (some 0))
set_option maxHeartbeats 4000000 in
set_option maxRecDepth 100000 in
theorem c_X2_isMissing (l : Launch) (D : va_G) (cI cZ cS : ClassId) (a0 a1 : Nat) (v_sort v_size : Int32) (v_items : Nat → Int32)  (u : Int32) (hF : FX2_isMissing v_sort = some u) : MCi l D (tyL cI cZ cS) yX2_isMissing cX2_isMissing 1 (some .boolean) 0 0 [.ref a0] (wX2 cI a0 a1 v_sort v_size v_items) (wX2 cI a0 a1 v_sort v_size v_items) u := by
  refine MCz.mk (by decide) (Nat.le_of_ble_eq_true rfl) ?_
  intro p e s m args below meth c A ls Q h0 hP hD hA hS hl hfin0
  have hfin : ∀ (u' : Int32), u' = u → ∀ (H : Heap) (locs : List Loc) (ls : Array Slot) (pc : Nat), (u' = 0 ∨ u' = 1) → va_P D vwCl (wX2 cI a0 a1 v_sort v_size v_items) H → va_D A (wX2 cI a0 a1 v_sort v_size v_items) → va_S A s.heap H locs → decode cX2_isMissing pc = .ok (.ireturn, 1) → W p l e (uR 0 0) s m args below meth c H locs 0 0 Q (F0 m pc ls [.int u']) := by intro u' hu; subst hu; exact hfin0
  clear hfin0
  obtain ⟨hx, hb, hr, hlk, hml, hown, hts, hK⟩ := id h0
  have hl : lv_has ls 1 [(0, .ref a0)] := hl
  have E := hF
  refine lv_aload_n hx hb dX2_isMissing_0 rfl (lv_at hl 0 rfl) ?_
  refine gf_X2_9 h0 hP 0 rfl rfl dX2_isMissing_1 ?_
  refine lv_iconst (v := (-1)) hx hb dX2_isMissing_4 (by decide) ?_
  refine lv_icmp_ne (tgt := 12) hx hb dX2_isMissing_5 (by decide) (fun c1 => ?_) (fun c1 => ?_)
  · have E := br_n E c1
    refine lv_iconst (v := 0) hx hb dX2_isMissing_12 (by decide) ?_
    exact hfin _ (Option.some.inj E) _ _ _ _ (Or.inl rfl) hP hD hS dX2_isMissing_13
  · have E := br_p E c1
    refine lv_iconst (v := 1) hx hb dX2_isMissing_8 (by decide) ?_
    refine lv_goto (tgt := 13) hx hb dX2_isMissing_9 (by decide) ?_
    exact hfin _ (Option.some.inj E) _ _ _ _ (Or.inr rfl) hP hD hS dX2_isMissing_13
theorem hdX2_has : yX2_has.cls = RX2 ∧ yX2_has.cls ≠ "java/lang/invoke/MethodHandle" ∧ yX2_has.cls ≠ "java/lang/invoke/VarHandle" ∧ (parseMethodDescriptor yX2_has.desc).map (fun d => d.parameters.length) = some 1 := by decide +kernel
noncomputable def FX2_has (p1 : Int32) (v_size : Int32) : Option (Int32) := (if p1 < 0 then (some 0) else (if v_size ≤ p1 then (some 0) else (some 1)))
set_option maxHeartbeats 4000000 in
set_option maxRecDepth 100000 in
theorem c_X2_has (l : Launch) (D : va_G) (cI cZ cS : ClassId) (a0 a1 : Nat) (v_sort v_size : Int32) (v_items : Nat → Int32) (p1 : Int32) (u : Int32) (hF : FX2_has p1 v_size = some u) : MCi l D (tyL cI cZ cS) yX2_has cX2_has 2 (some .boolean) 0 0 [.ref a0, .int p1] (wX2 cI a0 a1 v_sort v_size v_items) (wX2 cI a0 a1 v_sort v_size v_items) u := by
  refine MCz.mk (by decide) (Nat.le_of_ble_eq_true rfl) ?_
  intro p e s m args below meth c A ls Q h0 hP hD hA hS hl hfin0
  have hfin : ∀ (u' : Int32), u' = u → ∀ (H : Heap) (locs : List Loc) (ls : Array Slot) (pc : Nat), (u' = 0 ∨ u' = 1) → va_P D vwCl (wX2 cI a0 a1 v_sort v_size v_items) H → va_D A (wX2 cI a0 a1 v_sort v_size v_items) → va_S A s.heap H locs → decode cX2_has pc = .ok (.ireturn, 1) → W p l e (uR 0 0) s m args below meth c H locs 0 0 Q (F0 m pc ls [.int u']) := by intro u' hu; subst hu; exact hfin0
  clear hfin0
  obtain ⟨hx, hb, hr, hlk, hml, hown, hts, hK⟩ := id h0
  have hl : lv_has ls 2 [(0, .ref a0), (1, .int p1)] := hl
  have E := hF
  refine lv_iload_n hx hb dX2_has_0 rfl (lv_at hl 1 rfl) ?_
  refine lv_if_lt (tgt := 16) hx hb dX2_has_1 (by decide) (fun c1 => ?_) (fun c1 => ?_)
  · have E := br_p E c1
    refine lv_iconst (v := 0) hx hb dX2_has_16 (by decide) ?_
    exact hfin _ (Option.some.inj E) _ _ _ _ (Or.inl rfl) hP hD hS dX2_has_17
  · have E := br_n E c1
    refine lv_iload_n hx hb dX2_has_4 rfl (lv_at hl 1 rfl) ?_
    refine lv_aload_n hx hb dX2_has_5 rfl (lv_at hl 0 rfl) ?_
    refine gf_X2_15 h0 hP 0 rfl rfl dX2_has_6 ?_
    refine lv_icmp_ge (tgt := 16) hx hb dX2_has_9 (by decide) (fun c2 => ?_) (fun c2 => ?_)
    · have E := br_p E c2
      refine lv_iconst (v := 0) hx hb dX2_has_16 (by decide) ?_
      exact hfin _ (Option.some.inj E) _ _ _ _ (Or.inl rfl) hP hD hS dX2_has_17
    · have E := br_n E c2
      refine lv_iconst (v := 1) hx hb dX2_has_12 (by decide) ?_
      refine lv_goto (tgt := 17) hx hb dX2_has_13 (by decide) ?_
      exact hfin _ (Option.some.inj E) _ _ _ _ (Or.inr rfl) hP hD hS dX2_has_17
theorem hdX2_tellsCarrying : yX2_tellsCarrying.cls = RX2 ∧ yX2_tellsCarrying.cls ≠ "java/lang/invoke/MethodHandle" ∧ yX2_tellsCarrying.cls ≠ "java/lang/invoke/VarHandle" ∧ (parseMethodDescriptor yX2_tellsCarrying.desc).map (fun d => d.parameters.length) = some 1 := by decide +kernel
noncomputable def FX2_tellsCarrying (p1 : Int32) (v_size : Int32) (v_items : Nat → Int32) : Option (Int32) := ((FX2_has p1 v_size).bind (fun r1 => (if r1 = 0 then (some 0) else (gd (vp_in p1 40) (if (v_items p1.toNatClampNeg) = 1 then (some 1) else (some 0))))))
set_option maxHeartbeats 4000000 in
set_option maxRecDepth 100000 in
theorem c_X2_tellsCarrying (l : Launch) (D : va_G) (cI cZ cS : ClassId) (a0 a1 : Nat) (v_sort v_size : Int32) (v_items : Nat → Int32) (p1 : Int32) (u : Int32) (hF : FX2_tellsCarrying p1 v_size v_items = some u) : MCi l D (tyL cI cZ cS) yX2_tellsCarrying cX2_tellsCarrying 2 (some .int) 1 21 [.ref a0, .int p1] (wX2 cI a0 a1 v_sort v_size v_items) (wX2 cI a0 a1 v_sort v_size v_items) u := by
  refine MCi.mk (by decide) (Nat.le_of_ble_eq_true rfl) ?_
  intro p e s m args below meth c A ls Q h0 hP hD hA hS hl hfin0
  have hfin : ∀ (u' : Int32), u' = u → ∀ (H : Heap) (locs : List Loc) (ls : Array Slot) (pc : Nat), va_P D vwCl (wX2 cI a0 a1 v_sort v_size v_items) H → va_D A (wX2 cI a0 a1 v_sort v_size v_items) → va_S A s.heap H locs → decode cX2_tellsCarrying pc = .ok (.ireturn, 1) → W p l e (uR 1 21) s m args below meth c H locs 0 0 Q (F0 m pc ls [.int u']) := by intro u' hu; subst hu; exact hfin0
  clear hfin0
  obtain ⟨hx, hb, hr, hlk, hml, hown, hts, hK⟩ := id h0
  have hl : lv_has ls 2 [(0, .ref a0), (1, .int p1)] := hl
  have E := hF
  refine lv_aload_n hx hb dX2_tellsCarrying_0 rfl (lv_at hl 0 rfl) ?_
  refine lv_iload_n hx hb dX2_tellsCarrying_1 rfl (lv_at hl 1 rfl) ?_
  obtain ⟨r1, hF, E⟩ := bn_e E
  refine callVfi (wo := (wX2 cI a0 a1 v_sort v_size v_items)) h0 (c_X2_has l D cI cZ cS a0 a1 v_sort v_size v_items p1 r1 hF) (gV wq_539 wq_540 wq_541 wq_7 wq_542) hdX2_has ⟨Nat.le_of_ble_eq_true rfl, Nat.le_of_ble_eq_true rfl⟩ ⟨Nat.le_refl _, Nat.le_refl _⟩ hP hD hS hA 0 2 rfl rfl rfl hl.1 rfl (Nat.le_of_ble_eq_true rfl) dX2_tellsCarrying_2 (fun H locs hP hD hS => ?_)
  refine lv_if_eq (tgt := 22) hx hb dX2_tellsCarrying_5 (by decide) (fun c2 => ?_) (fun c2 => ?_)
  · have E := br_p E c2
    refine lv_iconst (v := 0) hx hb dX2_tellsCarrying_22 (by decide) ?_
    exact hfin _ (Option.some.inj E) _ _ _ _ hP hD hS dX2_tellsCarrying_23
  · have E := br_n E c2
    refine lv_aload_n hx hb dX2_tellsCarrying_8 rfl (lv_at hl 0 rfl) ?_
    refine gf_X2_18 h0 hP 0 rfl rfl dX2_tellsCarrying_9 ?_
    refine lv_iload_n hx hb dX2_tellsCarrying_12 rfl (lv_at hl 1 rfl) ?_
    obtain ⟨g3, E⟩ := gd_e E
    refine aldi hx hb hK hP 1 rfl rfl g3 dX2_tellsCarrying_13 ?_
    refine lv_iconst (v := 1) hx hb dX2_tellsCarrying_14 (by decide) ?_
    refine lv_icmp_ne (tgt := 22) hx hb dX2_tellsCarrying_15 (by decide) (fun c4 => ?_) (fun c4 => ?_)
    · have E := br_n E c4
      refine lv_iconst (v := 0) hx hb dX2_tellsCarrying_22 (by decide) ?_
      exact hfin _ (Option.some.inj E) _ _ _ _ hP hD hS dX2_tellsCarrying_23
    · have E := br_p E c4
      refine lv_iconst (v := 1) hx hb dX2_tellsCarrying_18 (by decide) ?_
      refine lv_goto (tgt := 23) hx hb dX2_tellsCarrying_19 (by decide) ?_
      exact hfin _ (Option.some.inj E) _ _ _ _ hP hD hS dX2_tellsCarrying_23
theorem hdX2_become : yX2_become.cls = RX2 ∧ yX2_become.cls ≠ "java/lang/invoke/MethodHandle" ∧ yX2_become.cls ≠ "java/lang/invoke/VarHandle" ∧ (parseMethodDescriptor yX2_become.desc).map (fun d => d.parameters.length) = some 2 := by decide +kernel
noncomputable def FX2_become_b12 (p1 p2 : Int32)  (k12 : Int32 → Int32 → Int32 → (Nat → Int32) → Option (Int32 × Int32 × (Nat → Int32))) (l3 v_sort v_size : Int32) (v_items : Nat → Int32) : Option (Int32 × Int32 × (Nat → Int32)) := (if 40 ≤ l3 then (some (v_sort, v_size, v_items)) else (gd (vp_in l3 40) (k12 (l3 + 1) v_sort v_size (upd v_items l3.toNatClampNeg 0))))
noncomputable def FX2_become_h12 (p1 p2 : Int32)  : Nat → Int32 → Int32 → Int32 → (Nat → Int32) → Option (Int32 × Int32 × (Nat → Int32))
  | 0 => fun _ _ _ _ => none
  | n + 1 => fun l3 v_sort v_size v_items => FX2_become_b12 p1 p2  (FX2_become_h12 p1 p2  n) l3 v_sort v_size v_items
noncomputable def FX2_become (p1 p2 : Int32) (v_sort v_size : Int32) (v_items : Nat → Int32) : Option (Int32 × Int32 × (Nat → Int32)) := (FX2_become_h12 p1 p2  5000 0 p1 p2 v_items)
set_option maxHeartbeats 4000000 in
set_option maxRecDepth 100000 in
theorem c_X2_become (l : Launch) (D : va_G) (cI cZ cS : ClassId) (a0 a1 : Nat) (v_sort v_size : Int32) (v_items : Nat → Int32) (p1 p2 : Int32) (u : Int32 × Int32 × (Nat → Int32)) (hF : FX2_become p1 p2 v_sort v_size v_items = some u) : MCv l D (tyL cI cZ cS) yX2_become cX2_become 4 none 0 0 [.ref a0, .int p1, .int p2] (wX2 cI a0 a1 v_sort v_size v_items) (wX2 cI a0 a1 u.1 u.2.1 u.2.2) := by
  refine MCv.mk (by decide) (Nat.le_of_ble_eq_true rfl) ?_
  intro p e s m args below meth c A ls Q h0 hP hD hA hS hl hfin0
  have hfin : ∀ (u' : Int32 × Int32 × (Nat → Int32)), u' = u → ∀ (H : Heap) (locs : List Loc) (ls : Array Slot) (pc : Nat), va_P D vwCl (wX2 cI a0 a1 u'.1 u'.2.1 u'.2.2) H → va_D A (wX2 cI a0 a1 u'.1 u'.2.1 u'.2.2) → va_S A s.heap H locs → decode cX2_become pc = .ok (.return_, 1) → W p l e (uR 0 0) s m args below meth c H locs 0 0 Q (F0 m pc ls []) := by intro u' hu; subst hu; exact hfin0
  clear hfin0
  obtain ⟨hx, hb, hr, hlk, hml, hown, hts, hK⟩ := id h0
  have hl : lv_has ls 4 [(0, .ref a0), (1, .int p1), (2, .int p2)] := hl
  have E := hF
  have J12 : ∀ (n12 : Nat) (l3 v_sort v_size : Int32) (v_items : Nat → Int32) (H : Heap) (locs : List Loc) (ls : Array Slot), FX2_become_h12 p1 p2  n12 l3 v_sort v_size v_items = some u → va_P D vwCl (wX2 cI a0 a1 v_sort v_size v_items) H → va_D A (wX2 cI a0 a1 v_sort v_size v_items) → va_S A s.heap H locs → lv_has ls 4 [(0, .ref a0), (3, .int l3)] → W p l e (uR 0 0) s m args below meth c H locs 0 0 Q (F0 m 12 ls []) := by
    intro n12
    induction n12 with
    | zero => intro l3 v_sort v_size v_items H locs ls E; exact none_e E
    | succ n12 ih12 =>
      intro l3 v_sort v_size v_items H locs ls E hP hD hS hl
      have E : FX2_become_b12 p1 p2  (FX2_become_h12 p1 p2  n12) l3 v_sort v_size v_items = some u := E
      refine lv_iload_n hx hb dX2_become_12 rfl (lv_at hl 1 rfl) ?_
      refine lv_bipush (v := 40) hx hb dX2_become_13 (by decide) ?_
      refine lv_icmp_ge (tgt := 31) hx hb dX2_become_15 (by decide) (fun c1 => ?_) (fun c1 => ?_)
      · have E := br_p E c1
        exact hfin _ (Option.some.inj E) _ _ _ _ hP hD hS dX2_become_31
      · have E := br_n E c1
        refine lv_aload_n hx hb dX2_become_18 rfl (lv_at hl 0 rfl) ?_
        refine gf_X2_18 h0 hP 0 rfl rfl dX2_become_19 ?_
        refine lv_iload_n hx hb dX2_become_22 rfl (lv_at hl 1 rfl) ?_
        refine lv_iconst (v := 0) hx hb dX2_become_23 (by decide) ?_
        obtain ⟨g2, E⟩ := gd_e E
        refine asti (wo := (wX2 cI a0 a1 v_sort v_size (upd v_items l3.toNatClampNeg 0))) hx hb hK hP hD hS 1 rfl rfl g2 rfl dX2_become_24 (fun H locs hP hD hS => ?_)
        refine lv_iinc (v := (l3 + 1)) (lv' := [(3, .int (l3 + 1)), (0, .ref a0)]) hx hb dX2_become_25 hl (k := 1) rfl rfl (by decide) rfl (fun ls hl => ?_)
        refine lv_goto (tgt := 12) hx hb dX2_become_28 (by decide) ?_
        exact ih12 _ _ _ _ _ _ _ E hP hD hS (lv_sub hl [1, 0] rfl)
  refine lv_aload_n hx hb dX2_become_0 rfl (lv_at hl 0 rfl) ?_
  refine lv_iload_n hx hb dX2_become_1 rfl (lv_at hl 1 rfl) ?_
  refine pf_X2_9 (wo := (wX2 cI a0 a1 p1 v_size v_items)) h0 hP hD hS 0 rfl (Nat.le_of_ble_eq_true rfl) rfl dX2_become_2 (fun H locs hP hD hS => ?_)
  refine lv_aload_n hx hb dX2_become_5 rfl (lv_at hl 0 rfl) ?_
  refine lv_iload_n hx hb dX2_become_6 rfl (lv_at hl 2 rfl) ?_
  refine pf_X2_15 (wo := (wX2 cI a0 a1 p1 p2 v_items)) h0 hP hD hS 0 rfl (Nat.le_of_ble_eq_true rfl) rfl dX2_become_7 (fun H locs hP hD hS => ?_)
  refine lv_iconst (v := 0) hx hb dX2_become_10 (by decide) ?_
  refine lv_istore_n (lv' := [(3, .int 0), (0, .ref a0), (1, .int p1), (2, .int p2)]) hx hb dX2_become_11 rfl hl (by decide) rfl (fun ls hl => ?_)
  exact J12 5000 _ _ _ _ _ _ _ E hP hD hS (lv_sub hl [1, 0] rfl)
theorem hdX2_write : yX2_write.cls = RX2 ∧ yX2_write.cls ≠ "java/lang/invoke/MethodHandle" ∧ yX2_write.cls ≠ "java/lang/invoke/VarHandle" ∧ (parseMethodDescriptor yX2_write.desc).map (fun d => d.parameters.length) = some 2 := by decide +kernel
noncomputable def FX2_write_b29 (p1 p2 v_sort v_size : Int32)  (t1 t2 : Int32) (v_items : Nat → Int32) : Option ((Nat → Int32)) := (gd (vp_in t1 40) (some (upd v_items t1.toNatClampNeg t2)))
noncomputable def FX2_write (p1 p2 : Int32) (v_sort v_size : Int32) (v_items : Nat → Int32) : Option ((Nat → Int32)) := ((FX2_has p1 v_size).bind (fun r2 => (if r2 = 0 then (some v_items) else (if v_sort = 0 then (FX2_write_b29 p1 p2 v_sort v_size  p1 (p2 &&& 255) v_items) else (FX2_write_b29 p1 p2 v_sort v_size  p1 p2 v_items)))))
set_option maxHeartbeats 4000000 in
set_option maxRecDepth 100000 in
theorem c_X2_write (l : Launch) (D : va_G) (cI cZ cS : ClassId) (a0 a1 : Nat) (v_sort v_size : Int32) (v_items : Nat → Int32) (p1 p2 : Int32) (u : (Nat → Int32)) (hF : FX2_write p1 p2 v_sort v_size v_items = some u) : MCv l D (tyL cI cZ cS) yX2_write cX2_write 3 none 1 21 [.ref a0, .int p1, .int p2] (wX2 cI a0 a1 v_sort v_size v_items) (wX2 cI a0 a1 v_sort v_size u) := by
  refine MCv.mk (by decide) (Nat.le_of_ble_eq_true rfl) ?_
  intro p e s m args below meth c A ls Q h0 hP hD hA hS hl hfin0
  have hfin : ∀ (u' : (Nat → Int32)), u' = u → ∀ (H : Heap) (locs : List Loc) (ls : Array Slot) (pc : Nat), va_P D vwCl (wX2 cI a0 a1 v_sort v_size u') H → va_D A (wX2 cI a0 a1 v_sort v_size u') → va_S A s.heap H locs → decode cX2_write pc = .ok (.return_, 1) → W p l e (uR 1 21) s m args below meth c H locs 0 0 Q (F0 m pc ls []) := by intro u' hu; subst hu; exact hfin0
  clear hfin0
  obtain ⟨hx, hb, hr, hlk, hml, hown, hts, hK⟩ := id h0
  have hl : lv_has ls 3 [(0, .ref a0), (1, .int p1), (2, .int p2)] := hl
  have E := hF
  have J29 : ∀ (t1 t2 : Int32) (v_items : Nat → Int32) (H : Heap) (locs : List Loc) (ls : Array Slot), FX2_write_b29 p1 p2 v_sort v_size  t1 t2 v_items = some u → va_P D vwCl (wX2 cI a0 a1 v_sort v_size v_items) H → va_D A (wX2 cI a0 a1 v_sort v_size v_items) → va_S A s.heap H locs → lv_has ls 3 [] → W p l e (uR 1 21) s m args below meth c H locs 0 0 Q (F0 m 29 ls [.int t2, .int t1, .ref a1]) := by
    intro t1 t2 v_items H locs ls E hP hD hS hl
    obtain ⟨g1, E⟩ := gd_e E
    refine asti (wo := (wX2 cI a0 a1 v_sort v_size (upd v_items t1.toNatClampNeg t2))) hx hb hK hP hD hS 1 rfl rfl g1 rfl dX2_write_29 (fun H locs hP hD hS => ?_)
    exact hfin _ (Option.some.inj E) _ _ _ _ hP hD hS dX2_write_30
  refine lv_aload_n hx hb dX2_write_0 rfl (lv_at hl 0 rfl) ?_
  refine lv_iload_n hx hb dX2_write_1 rfl (lv_at hl 1 rfl) ?_
  obtain ⟨r2, hF, E⟩ := bn_e E
  refine callVfi (wo := (wX2 cI a0 a1 v_sort v_size v_items)) h0 (c_X2_has l D cI cZ cS a0 a1 v_sort v_size v_items p1 r2 hF) (gV wq_539 wq_540 wq_541 wq_7 wq_542) hdX2_has ⟨Nat.le_of_ble_eq_true rfl, Nat.le_of_ble_eq_true rfl⟩ ⟨Nat.le_refl _, Nat.le_refl _⟩ hP hD hS hA 0 2 rfl rfl rfl hl.1 rfl (Nat.le_of_ble_eq_true rfl) dX2_write_2 (fun H locs hP hD hS => ?_)
  refine lv_if_eq (tgt := 30) hx hb dX2_write_5 (by decide) (fun c3 => ?_) (fun c3 => ?_)
  · have E := br_p E c3
    exact hfin _ (Option.some.inj E) _ _ _ _ hP hD hS dX2_write_30
  · have E := br_n E c3
    refine lv_aload_n hx hb dX2_write_8 rfl (lv_at hl 0 rfl) ?_
    refine gf_X2_18 h0 hP 0 rfl rfl dX2_write_9 ?_
    refine lv_iload_n hx hb dX2_write_12 rfl (lv_at hl 1 rfl) ?_
    refine lv_aload_n hx hb dX2_write_13 rfl (lv_at hl 0 rfl) ?_
    refine gf_X2_9 h0 hP 0 rfl rfl dX2_write_14 ?_
    refine lv_if_ne (tgt := 28) hx hb dX2_write_17 (by decide) (fun c4 => ?_) (fun c4 => ?_)
    · have E := br_n E c4
      refine lv_iload_n hx hb dX2_write_28 rfl (lv_at hl 2 rfl) ?_
      exact J29 _ _ _ _ _ _ E hP hD hS (lv_sub hl [] rfl)
    · have E := br_p E c4
      refine lv_iload_n hx hb dX2_write_20 rfl (lv_at hl 2 rfl) ?_
      refine lv_sipush (v := 255) hx hb dX2_write_21 (by decide) ?_
      refine lv_iand hx hb dX2_write_24 ?_
      refine lv_goto (tgt := 29) hx hb dX2_write_25 (by decide) ?_
      exact J29 _ _ _ _ _ _ E hP hD hS (lv_sub hl [] rfl)
theorem hdX2_hasRun : yX2_hasRun.cls = RX2 ∧ yX2_hasRun.cls ≠ "java/lang/invoke/MethodHandle" ∧ yX2_hasRun.cls ≠ "java/lang/invoke/VarHandle" ∧ (parseMethodDescriptor yX2_hasRun.desc).map (fun d => d.parameters.length) = some 2 := by decide +kernel
noncomputable def FX2_hasRun (p1 p2 : Int32) (v_size : Int32) : Option (Int32) := (if p1 < 0 then (some 0) else (if p2 < 0 then (some 0) else (if v_size < p1 then (some 0) else (if (v_size - p1) < p2 then (some 0) else (some 1)))))
set_option maxHeartbeats 4000000 in
set_option maxRecDepth 100000 in
theorem c_X2_hasRun (l : Launch) (D : va_G) (cI cZ cS : ClassId) (a0 a1 : Nat) (v_sort v_size : Int32) (v_items : Nat → Int32) (p1 p2 : Int32) (u : Int32) (hF : FX2_hasRun p1 p2 v_size = some u) : MCi l D (tyL cI cZ cS) yX2_hasRun cX2_hasRun 3 (some .boolean) 0 0 [.ref a0, .int p1, .int p2] (wX2 cI a0 a1 v_sort v_size v_items) (wX2 cI a0 a1 v_sort v_size v_items) u := by
  refine MCz.mk (by decide) (Nat.le_of_ble_eq_true rfl) ?_
  intro p e s m args below meth c A ls Q h0 hP hD hA hS hl hfin0
  have hfin : ∀ (u' : Int32), u' = u → ∀ (H : Heap) (locs : List Loc) (ls : Array Slot) (pc : Nat), (u' = 0 ∨ u' = 1) → va_P D vwCl (wX2 cI a0 a1 v_sort v_size v_items) H → va_D A (wX2 cI a0 a1 v_sort v_size v_items) → va_S A s.heap H locs → decode cX2_hasRun pc = .ok (.ireturn, 1) → W p l e (uR 0 0) s m args below meth c H locs 0 0 Q (F0 m pc ls [.int u']) := by intro u' hu; subst hu; exact hfin0
  clear hfin0
  obtain ⟨hx, hb, hr, hlk, hml, hown, hts, hK⟩ := id h0
  have hl : lv_has ls 3 [(0, .ref a0), (1, .int p1), (2, .int p2)] := hl
  have E := hF
  refine lv_iload_n hx hb dX2_hasRun_0 rfl (lv_at hl 1 rfl) ?_
  refine lv_if_lt (tgt := 30) hx hb dX2_hasRun_1 (by decide) (fun c1 => ?_) (fun c1 => ?_)
  · have E := br_p E c1
    refine lv_iconst (v := 0) hx hb dX2_hasRun_30 (by decide) ?_
    exact hfin _ (Option.some.inj E) _ _ _ _ (Or.inl rfl) hP hD hS dX2_hasRun_31
  · have E := br_n E c1
    refine lv_iload_n hx hb dX2_hasRun_4 rfl (lv_at hl 2 rfl) ?_
    refine lv_if_lt (tgt := 30) hx hb dX2_hasRun_5 (by decide) (fun c2 => ?_) (fun c2 => ?_)
    · have E := br_p E c2
      refine lv_iconst (v := 0) hx hb dX2_hasRun_30 (by decide) ?_
      exact hfin _ (Option.some.inj E) _ _ _ _ (Or.inl rfl) hP hD hS dX2_hasRun_31
    · have E := br_n E c2
      refine lv_iload_n hx hb dX2_hasRun_8 rfl (lv_at hl 1 rfl) ?_
      refine lv_aload_n hx hb dX2_hasRun_9 rfl (lv_at hl 0 rfl) ?_
      refine gf_X2_15 h0 hP 0 rfl rfl dX2_hasRun_10 ?_
      refine lv_icmp_gt (tgt := 30) hx hb dX2_hasRun_13 (by decide) (fun c3 => ?_) (fun c3 => ?_)
      · have E := br_p E c3
        refine lv_iconst (v := 0) hx hb dX2_hasRun_30 (by decide) ?_
        exact hfin _ (Option.some.inj E) _ _ _ _ (Or.inl rfl) hP hD hS dX2_hasRun_31
      · have E := br_n E c3
        refine lv_iload_n hx hb dX2_hasRun_16 rfl (lv_at hl 2 rfl) ?_
        refine lv_aload_n hx hb dX2_hasRun_17 rfl (lv_at hl 0 rfl) ?_
        refine gf_X2_15 h0 hP 0 rfl rfl dX2_hasRun_18 ?_
        refine lv_iload_n hx hb dX2_hasRun_21 rfl (lv_at hl 1 rfl) ?_
        refine lv_isub hx hb dX2_hasRun_22 ?_
        refine lv_icmp_gt (tgt := 30) hx hb dX2_hasRun_23 (by decide) (fun c4 => ?_) (fun c4 => ?_)
        · have E := br_p E c4
          refine lv_iconst (v := 0) hx hb dX2_hasRun_30 (by decide) ?_
          exact hfin _ (Option.some.inj E) _ _ _ _ (Or.inl rfl) hP hD hS dX2_hasRun_31
        · have E := br_n E c4
          refine lv_iconst (v := 1) hx hb dX2_hasRun_26 (by decide) ?_
          refine lv_goto (tgt := 31) hx hb dX2_hasRun_27 (by decide) ?_
          exact hfin _ (Option.some.inj E) _ _ _ _ (Or.inr rfl) hP hD hS dX2_hasRun_31
