theorem hdX7_isIn : yX7_isIn.cls ≠ "java/lang/invoke/MethodHandle" ∧ yX7_isIn.cls ≠ "java/lang/invoke/VarHandle" ∧ (parseMethodDescriptor yX7_isIn.desc).map (fun d => d.parameters.length) = some 3 := by decide +kernel
noncomputable def FX7_isIn (p0 p1 p2 : Int32) : Option (Int32) := (if p0 < p1 then (some 0) else (if p2 < p0 then (some 0) else (some 1)))
set_option maxHeartbeats 4000000 in
set_option maxRecDepth 100000 in
theorem c_X7_isIn (l : Launch) (D : va_G) (cI cZ cS : ClassId)   (p0 p1 p2 : Int32) (u : Int32) (hF : FX7_isIn p0 p1 p2 = some u) : MCi l D (tyL cI cZ cS) yX7_isIn cX7_isIn 3 (some .boolean) 0 0 [.int p0, .int p1, .int p2] ([] : va_W) ([] : va_W) u := by
  refine MCz.mk (by decide) (Nat.le_of_ble_eq_true rfl) ?_
  intro p e s m args below meth c A ls Q h0 hP hD hA hS hl hfin0
  have hfin : ∀ (u' : Int32), u' = u → ∀ (H : Heap) (locs : List Loc) (ls : Array Slot) (pc : Nat), (u' = 0 ∨ u' = 1) → va_P D vwCl ([] : va_W) H → va_D A ([] : va_W) → va_S A s.heap H locs → decode cX7_isIn pc = .ok (.ireturn, 1) → W p l e (uR 0 0) s m args below meth c H locs 0 0 Q (F0 m pc ls [.int u']) := by intro u' hu; subst hu; exact hfin0
  clear hfin0
  obtain ⟨hx, hb, hr, hlk, hml, hown, hts, hK⟩ := id h0
  have hl : lv_has ls 3 [(0, .int p0), (1, .int p1), (2, .int p2)] := hl
  have E := hF
  refine lv_iload_n hx hb dX7_isIn_0 rfl (lv_at hl 0 rfl) ?_
  refine lv_iload_n hx hb dX7_isIn_1 rfl (lv_at hl 1 rfl) ?_
  refine lv_icmp_lt (tgt := 14) hx hb dX7_isIn_2 (by decide) (fun c1 => ?_) (fun c1 => ?_)
  · have E := br_p E c1
    refine lv_iconst (v := 0) hx hb dX7_isIn_14 (by decide) ?_
    exact hfin _ (Option.some.inj E) _ _ _ _ (Or.inl rfl) hP hD hS dX7_isIn_15
  · have E := br_n E c1
    refine lv_iload_n hx hb dX7_isIn_5 rfl (lv_at hl 0 rfl) ?_
    refine lv_iload_n hx hb dX7_isIn_6 rfl (lv_at hl 2 rfl) ?_
    refine lv_icmp_gt (tgt := 14) hx hb dX7_isIn_7 (by decide) (fun c2 => ?_) (fun c2 => ?_)
    · have E := br_p E c2
      refine lv_iconst (v := 0) hx hb dX7_isIn_14 (by decide) ?_
      exact hfin _ (Option.some.inj E) _ _ _ _ (Or.inl rfl) hP hD hS dX7_isIn_15
    · have E := br_n E c2
      refine lv_iconst (v := 1) hx hb dX7_isIn_10 (by decide) ?_
      refine lv_goto (tgt := 15) hx hb dX7_isIn_11 (by decide) ?_
      exact hfin _ (Option.some.inj E) _ _ _ _ (Or.inr rfl) hP hD hS dX7_isIn_15
theorem hdX7_isPin : yX7_isPin.cls = RX7 ∧ yX7_isPin.cls ≠ "java/lang/invoke/MethodHandle" ∧ yX7_isPin.cls ≠ "java/lang/invoke/VarHandle" ∧ (parseMethodDescriptor yX7_isPin.desc).map (fun d => d.parameters.length) = some 1 := by decide +kernel
noncomputable def FX7_isPin (p1 : Int32) (v_pins : Int32) : Option (Int32) := ((FX7_isIn p1 0 (v_pins - 1)).bind (fun r1 => (gd (r1 = 0 ∨ r1 = 1) (some r1))))
set_option maxHeartbeats 4000000 in
set_option maxRecDepth 100000 in
theorem c_X7_isPin (l : Launch) (D : va_G) (cI cZ cS : ClassId) (a : Nat → Nat) (v_pins v_bars v_taped v_lined v_at v_fault : Int32) (v_name v_low v_high v_tape v_line : Nat → Int32) (v_imagePins v_imageBars : Int32) (v_imageName v_imageLow v_imageHigh : Nat → Int32) (v_isKept : Int32) (v_to v_carries : Nat → Int32) (v_seen v_rank : Int32) (v_one v_other : Nat → Int32) (v_thought v_gone : Int32) (v_tied v_part v_lack v_down : Nat → Int32) (v_parts v_lacks v_downs : Int32) (v_sort v_items v_item v_carried : Nat → Int32) (v_first v_second : Int32) (p1 : Int32) (u : Int32) (hF : FX7_isPin p1 v_pins = some u) : MCi l D (tyL cI cZ cS) yX7_isPin cX7_isPin 2 (some .boolean) 1 22 [.ref (a 0), .int p1] (wX7 cI cZ a v_pins v_bars v_taped v_lined v_at v_fault v_name v_low v_high v_tape v_line v_imagePins v_imageBars v_imageName v_imageLow v_imageHigh v_isKept v_to v_carries v_seen v_rank v_one v_other v_thought v_gone v_tied v_part v_lack v_down v_parts v_lacks v_downs v_sort v_items v_item v_carried v_first v_second) (wX7 cI cZ a v_pins v_bars v_taped v_lined v_at v_fault v_name v_low v_high v_tape v_line v_imagePins v_imageBars v_imageName v_imageLow v_imageHigh v_isKept v_to v_carries v_seen v_rank v_one v_other v_thought v_gone v_tied v_part v_lack v_down v_parts v_lacks v_downs v_sort v_items v_item v_carried v_first v_second) u := by
  refine MCz.mk (by decide) (Nat.le_of_ble_eq_true rfl) ?_
  intro p e s m args below meth c A ls Q h0 hP hD hA hS hl hfin0
  have hfin : ∀ (u' : Int32), u' = u → ∀ (H : Heap) (locs : List Loc) (ls : Array Slot) (pc : Nat), (u' = 0 ∨ u' = 1) → va_P D vwCl (wX7 cI cZ a v_pins v_bars v_taped v_lined v_at v_fault v_name v_low v_high v_tape v_line v_imagePins v_imageBars v_imageName v_imageLow v_imageHigh v_isKept v_to v_carries v_seen v_rank v_one v_other v_thought v_gone v_tied v_part v_lack v_down v_parts v_lacks v_downs v_sort v_items v_item v_carried v_first v_second) H → va_D A (wX7 cI cZ a v_pins v_bars v_taped v_lined v_at v_fault v_name v_low v_high v_tape v_line v_imagePins v_imageBars v_imageName v_imageLow v_imageHigh v_isKept v_to v_carries v_seen v_rank v_one v_other v_thought v_gone v_tied v_part v_lack v_down v_parts v_lacks v_downs v_sort v_items v_item v_carried v_first v_second) → va_S A s.heap H locs → decode cX7_isPin pc = .ok (.ireturn, 1) → W p l e (uR 1 22) s m args below meth c H locs 0 0 Q (F0 m pc ls [.int u']) := by intro u' hu; subst hu; exact hfin0
  clear hfin0
  obtain ⟨hx, hb, hr, hlk, hml, hown, hts, hK⟩ := id h0
  have hl : lv_has ls 2 [(0, .ref (a 0)), (1, .int p1)] := hl
  have E := hF
  refine lv_iload_n hx hb dX7_isPin_0 rfl (lv_at hl 1 rfl) ?_
  refine lv_iconst (v := 0) hx hb dX7_isPin_1 (by decide) ?_
  refine lv_aload_n hx hb dX7_isPin_2 rfl (lv_at hl 0 rfl) ?_
  refine gf_X7_71 h0 hP 0 rfl rfl dX7_isPin_3 ?_
  refine lv_iconst (v := 1) hx hb dX7_isPin_6 (by decide) ?_
  refine lv_isub hx hb dX7_isPin_7 ?_
  obtain ⟨r1, hF, E⟩ := bn_e E
  refine callSi (wo := (wX7 cI cZ a v_pins v_bars v_taped v_lined v_at v_fault v_name v_low v_high v_tape v_line v_imagePins v_imageBars v_imageName v_imageLow v_imageHigh v_isKept v_to v_carries v_seen v_rank v_one v_other v_thought v_gone v_tied v_part v_lack v_down v_parts v_lacks v_downs v_sort v_items v_item v_carried v_first v_second)) h0 (c_X7_isIn l D cI cZ cS p1 0 (v_pins - 1) r1 hF) (gS wq_734 wq_735 wq_8 wq_736) hdX7_isIn ⟨Nat.le_of_ble_eq_true rfl, Nat.le_of_ble_eq_true rfl⟩ ⟨Nat.le_refl _, Nat.le_refl _⟩ hP hD hS hA [] rfl rfl rfl rfl hl.1 rfl (Nat.le_of_ble_eq_true rfl) dX7_isPin_8 (fun H locs hP hD hS => ?_)
  obtain ⟨z2, E⟩ := gd_e E
  exact hfin _ (Option.some.inj E) _ _ _ _ z2 hP hD hS dX7_isPin_11
theorem hdX7_areTwo : yX7_areTwo.cls = RX7 ∧ yX7_areTwo.cls ≠ "java/lang/invoke/MethodHandle" ∧ yX7_areTwo.cls ≠ "java/lang/invoke/VarHandle" ∧ (parseMethodDescriptor yX7_areTwo.desc).map (fun d => d.parameters.length) = some 2 := by decide +kernel
noncomputable def FX7_areTwo (p1 p2 : Int32) (v_pins : Int32) : Option (Int32) := ((FX7_isPin p1 v_pins).bind (fun r1 => (if r1 = 0 then (some 0) else ((FX7_isPin p2 v_pins).bind (fun r3 => (if r3 = 0 then (some 0) else (if p1 = p2 then (some 0) else (some 1))))))))
set_option maxHeartbeats 4000000 in
set_option maxRecDepth 100000 in
theorem c_X7_areTwo (l : Launch) (D : va_G) (cI cZ cS : ClassId) (a : Nat → Nat) (v_pins v_bars v_taped v_lined v_at v_fault : Int32) (v_name v_low v_high v_tape v_line : Nat → Int32) (v_imagePins v_imageBars : Int32) (v_imageName v_imageLow v_imageHigh : Nat → Int32) (v_isKept : Int32) (v_to v_carries : Nat → Int32) (v_seen v_rank : Int32) (v_one v_other : Nat → Int32) (v_thought v_gone : Int32) (v_tied v_part v_lack v_down : Nat → Int32) (v_parts v_lacks v_downs : Int32) (v_sort v_items v_item v_carried : Nat → Int32) (v_first v_second : Int32) (p1 p2 : Int32) (u : Int32) (hF : FX7_areTwo p1 p2 v_pins = some u) : MCi l D (tyL cI cZ cS) yX7_areTwo cX7_areTwo 3 (some .boolean) 2 43 [.ref (a 0), .int p1, .int p2] (wX7 cI cZ a v_pins v_bars v_taped v_lined v_at v_fault v_name v_low v_high v_tape v_line v_imagePins v_imageBars v_imageName v_imageLow v_imageHigh v_isKept v_to v_carries v_seen v_rank v_one v_other v_thought v_gone v_tied v_part v_lack v_down v_parts v_lacks v_downs v_sort v_items v_item v_carried v_first v_second) (wX7 cI cZ a v_pins v_bars v_taped v_lined v_at v_fault v_name v_low v_high v_tape v_line v_imagePins v_imageBars v_imageName v_imageLow v_imageHigh v_isKept v_to v_carries v_seen v_rank v_one v_other v_thought v_gone v_tied v_part v_lack v_down v_parts v_lacks v_downs v_sort v_items v_item v_carried v_first v_second) u := by
  refine MCz.mk (by decide) (Nat.le_of_ble_eq_true rfl) ?_
  intro p e s m args below meth c A ls Q h0 hP hD hA hS hl hfin0
  have hfin : ∀ (u' : Int32), u' = u → ∀ (H : Heap) (locs : List Loc) (ls : Array Slot) (pc : Nat), (u' = 0 ∨ u' = 1) → va_P D vwCl (wX7 cI cZ a v_pins v_bars v_taped v_lined v_at v_fault v_name v_low v_high v_tape v_line v_imagePins v_imageBars v_imageName v_imageLow v_imageHigh v_isKept v_to v_carries v_seen v_rank v_one v_other v_thought v_gone v_tied v_part v_lack v_down v_parts v_lacks v_downs v_sort v_items v_item v_carried v_first v_second) H → va_D A (wX7 cI cZ a v_pins v_bars v_taped v_lined v_at v_fault v_name v_low v_high v_tape v_line v_imagePins v_imageBars v_imageName v_imageLow v_imageHigh v_isKept v_to v_carries v_seen v_rank v_one v_other v_thought v_gone v_tied v_part v_lack v_down v_parts v_lacks v_downs v_sort v_items v_item v_carried v_first v_second) → va_S A s.heap H locs → decode cX7_areTwo pc = .ok (.ireturn, 1) → W p l e (uR 2 43) s m args below meth c H locs 0 0 Q (F0 m pc ls [.int u']) := by intro u' hu; subst hu; exact hfin0
  clear hfin0
  obtain ⟨hx, hb, hr, hlk, hml, hown, hts, hK⟩ := id h0
  have hl : lv_has ls 3 [(0, .ref (a 0)), (1, .int p1), (2, .int p2)] := hl
  have E := hF
  refine lv_aload_n hx hb dX7_areTwo_0 rfl (lv_at hl 0 rfl) ?_
  refine lv_iload_n hx hb dX7_areTwo_1 rfl (lv_at hl 1 rfl) ?_
  obtain ⟨r1, hF, E⟩ := bn_e E
  refine callVfi (wo := (wX7 cI cZ a v_pins v_bars v_taped v_lined v_at v_fault v_name v_low v_high v_tape v_line v_imagePins v_imageBars v_imageName v_imageLow v_imageHigh v_isKept v_to v_carries v_seen v_rank v_one v_other v_thought v_gone v_tied v_part v_lack v_down v_parts v_lacks v_downs v_sort v_items v_item v_carried v_first v_second)) h0 (c_X7_isPin l D cI cZ cS a v_pins v_bars v_taped v_lined v_at v_fault v_name v_low v_high v_tape v_line v_imagePins v_imageBars v_imageName v_imageLow v_imageHigh v_isKept v_to v_carries v_seen v_rank v_one v_other v_thought v_gone v_tied v_part v_lack v_down v_parts v_lacks v_downs v_sort v_items v_item v_carried v_first v_second p1 r1 hF) (gV wq_730 wq_732 wp_22 wq_8 wq_733) hdX7_isPin ⟨Nat.le_of_ble_eq_true rfl, Nat.le_of_ble_eq_true rfl⟩ ⟨Nat.le_refl _, Nat.le_refl _⟩ hP hD hS hA 0 7 rfl rfl rfl hl.1 rfl (Nat.le_of_ble_eq_true rfl) dX7_areTwo_2 (fun H locs hP hD hS => ?_)
  refine lv_if_eq (tgt := 25) hx hb dX7_areTwo_5 (by decide) (fun c2 => ?_) (fun c2 => ?_)
  · have E := br_p E c2
    refine lv_iconst (v := 0) hx hb dX7_areTwo_25 (by decide) ?_
    exact hfin _ (Option.some.inj E) _ _ _ _ (Or.inl rfl) hP hD hS dX7_areTwo_26
  · have E := br_n E c2
    refine lv_aload_n hx hb dX7_areTwo_8 rfl (lv_at hl 0 rfl) ?_
    refine lv_iload_n hx hb dX7_areTwo_9 rfl (lv_at hl 2 rfl) ?_
    obtain ⟨r3, hF, E⟩ := bn_e E
    refine callVfi (wo := (wX7 cI cZ a v_pins v_bars v_taped v_lined v_at v_fault v_name v_low v_high v_tape v_line v_imagePins v_imageBars v_imageName v_imageLow v_imageHigh v_isKept v_to v_carries v_seen v_rank v_one v_other v_thought v_gone v_tied v_part v_lack v_down v_parts v_lacks v_downs v_sort v_items v_item v_carried v_first v_second)) h0 (c_X7_isPin l D cI cZ cS a v_pins v_bars v_taped v_lined v_at v_fault v_name v_low v_high v_tape v_line v_imagePins v_imageBars v_imageName v_imageLow v_imageHigh v_isKept v_to v_carries v_seen v_rank v_one v_other v_thought v_gone v_tied v_part v_lack v_down v_parts v_lacks v_downs v_sort v_items v_item v_carried v_first v_second p2 r3 hF) (gV wq_730 wq_732 wp_22 wq_8 wq_733) hdX7_isPin ⟨Nat.le_of_ble_eq_true rfl, Nat.le_of_ble_eq_true rfl⟩ ⟨Nat.le_refl _, Nat.le_refl _⟩ hP hD hS hA 0 7 rfl rfl rfl hl.1 rfl (Nat.le_of_ble_eq_true rfl) dX7_areTwo_10 (fun H locs hP hD hS => ?_)
    refine lv_if_eq (tgt := 25) hx hb dX7_areTwo_13 (by decide) (fun c4 => ?_) (fun c4 => ?_)
    · have E := br_p E c4
      refine lv_iconst (v := 0) hx hb dX7_areTwo_25 (by decide) ?_
      exact hfin _ (Option.some.inj E) _ _ _ _ (Or.inl rfl) hP hD hS dX7_areTwo_26
    · have E := br_n E c4
      refine lv_iload_n hx hb dX7_areTwo_16 rfl (lv_at hl 1 rfl) ?_
      refine lv_iload_n hx hb dX7_areTwo_17 rfl (lv_at hl 2 rfl) ?_
      refine lv_icmp_eq (tgt := 25) hx hb dX7_areTwo_18 (by decide) (fun c5 => ?_) (fun c5 => ?_)
      · have E := br_p E c5
        refine lv_iconst (v := 0) hx hb dX7_areTwo_25 (by decide) ?_
        exact hfin _ (Option.some.inj E) _ _ _ _ (Or.inl rfl) hP hD hS dX7_areTwo_26
      · have E := br_n E c5
        refine lv_iconst (v := 1) hx hb dX7_areTwo_21 (by decide) ?_
        refine lv_goto (tgt := 26) hx hb dX7_areTwo_22 (by decide) ?_
        exact hfin _ (Option.some.inj E) _ _ _ _ (Or.inr rfl) hP hD hS dX7_areTwo_26
theorem hdX7_bits : yX7_bits.cls ≠ "java/lang/invoke/MethodHandle" ∧ yX7_bits.cls ≠ "java/lang/invoke/VarHandle" ∧ (parseMethodDescriptor yX7_bits.desc).map (fun d => d.parameters.length) = some 1 := by decide +kernel
noncomputable def FX7_bits_b4 (p0 : Int32)  (k4 : Int32 → Int32 → Option (Int32)) (l1 l2 : Int32) : Option (Int32) := (if l2 = 0 then (some l1) else (k4 (l1 + 1) (l2 &&& (l2 - 1))))
noncomputable def FX7_bits_h4 (p0 : Int32)  : Nat → Int32 → Int32 → Option (Int32)
  | 0 => fun _ _ => none
  | n + 1 => fun l1 l2 => FX7_bits_b4 p0  (FX7_bits_h4 p0  n) l1 l2
noncomputable def FX7_bits (p0 : Int32) : Option (Int32) := (FX7_bits_h4 p0  5000 0 p0)
set_option maxHeartbeats 4000000 in
set_option maxRecDepth 100000 in
theorem c_X7_bits (l : Launch) (D : va_G) (cI cZ cS : ClassId)   (p0 : Int32) (u : Int32) (hF : FX7_bits p0 = some u) : MCi l D (tyL cI cZ cS) yX7_bits cX7_bits 3 (some .int) 0 0 [.int p0] ([] : va_W) ([] : va_W) u := by
  refine MCi.mk (by decide) (Nat.le_of_ble_eq_true rfl) ?_
  intro p e s m args below meth c A ls Q h0 hP hD hA hS hl hfin0
  have hfin : ∀ (u' : Int32), u' = u → ∀ (H : Heap) (locs : List Loc) (ls : Array Slot) (pc : Nat), va_P D vwCl ([] : va_W) H → va_D A ([] : va_W) → va_S A s.heap H locs → decode cX7_bits pc = .ok (.ireturn, 1) → W p l e (uR 0 0) s m args below meth c H locs 0 0 Q (F0 m pc ls [.int u']) := by intro u' hu; subst hu; exact hfin0
  clear hfin0
  obtain ⟨hx, hb, hr, hlk, hml, hown, hts, hK⟩ := id h0
  have hl : lv_has ls 3 [(0, .int p0)] := hl
  have E := hF
  have J4 : ∀ (n4 : Nat) (l1 l2 : Int32) (H : Heap) (locs : List Loc) (ls : Array Slot), FX7_bits_h4 p0  n4 l1 l2 = some u → va_P D vwCl ([] : va_W) H → va_D A ([] : va_W) → va_S A s.heap H locs → lv_has ls 3 [(1, .int l1), (2, .int l2)] → W p l e (uR 0 0) s m args below meth c H locs 0 0 Q (F0 m 4 ls []) := by
    intro n4
    induction n4 with
    | zero => intro l1 l2 H locs ls E; exact none_e E
    | succ n4 ih4 =>
      intro l1 l2 H locs ls E hP hD hS hl
      have E : FX7_bits_b4 p0  (FX7_bits_h4 p0  n4) l1 l2 = some u := E
      refine lv_iload_n hx hb dX7_bits_4 rfl (lv_at hl 1 rfl) ?_
      refine lv_if_eq (tgt := 20) hx hb dX7_bits_5 (by decide) (fun c1 => ?_) (fun c1 => ?_)
      · have E := br_p E c1
        refine lv_iload_n hx hb dX7_bits_20 rfl (lv_at hl 0 rfl) ?_
        exact hfin _ (Option.some.inj E) _ _ _ _ hP hD hS dX7_bits_21
      · have E := br_n E c1
        refine lv_iinc (v := (l1 + 1)) (lv' := [(1, .int (l1 + 1)), (2, .int l2)]) hx hb dX7_bits_8 hl (k := 0) rfl rfl (by decide) rfl (fun ls hl => ?_)
        refine lv_iload_n hx hb dX7_bits_11 rfl (lv_at hl 1 rfl) ?_
        refine lv_iload_n hx hb dX7_bits_12 rfl (lv_at hl 1 rfl) ?_
        refine lv_iconst (v := 1) hx hb dX7_bits_13 (by decide) ?_
        refine lv_isub hx hb dX7_bits_14 ?_
        refine lv_iand hx hb dX7_bits_15 ?_
        refine lv_istore_n (lv' := [(2, .int (l2 &&& (l2 - 1))), (1, .int (l1 + 1))]) hx hb dX7_bits_16 rfl hl (by decide) rfl (fun ls hl => ?_)
        refine lv_goto (tgt := 4) hx hb dX7_bits_17 (by decide) ?_
        exact ih4 _ _ _ _ _ E hP hD hS (lv_sub hl [1, 0] rfl)
  refine lv_iconst (v := 0) hx hb dX7_bits_0 (by decide) ?_
  refine lv_istore_n (lv' := [(1, .int 0), (0, .int p0)]) hx hb dX7_bits_1 rfl hl (by decide) rfl (fun ls hl => ?_)
  refine lv_iload_n hx hb dX7_bits_2 rfl (lv_at hl 1 rfl) ?_
  refine lv_istore_n (lv' := [(2, .int p0), (1, .int 0), (0, .int p0)]) hx hb dX7_bits_3 rfl hl (by decide) rfl (fun ls hl => ?_)
  exact J4 5000 _ _ _ _ _ E hP hD hS (lv_sub hl [1, 0] rfl)
theorem hdX7_empties : yX7_empties.cls = RX7 ∧ yX7_empties.cls ≠ "java/lang/invoke/MethodHandle" ∧ yX7_empties.cls ≠ "java/lang/invoke/VarHandle" ∧ (parseMethodDescriptor yX7_empties.desc).map (fun d => d.parameters.length) = some 0 := by decide +kernel
noncomputable def FX7_empties_b2   (k2 : Int32 → (Nat → Int32) → Int32 → Option ((Nat → Int32) × Int32)) (l1 : Int32) (v_to : Nat → Int32) (v_rank : Int32) : Option ((Nat → Int32) × Int32) := (if 24 ≤ l1 then (some (v_to, 0)) else (gd (vp_in l1 24) (k2 (l1 + 1) (upd v_to l1.toNatClampNeg (-1)) v_rank)))
noncomputable def FX7_empties_h2   : Nat → Int32 → (Nat → Int32) → Int32 → Option ((Nat → Int32) × Int32)
  | 0 => fun _ _ _ => none
  | n + 1 => fun l1 v_to v_rank => FX7_empties_b2   (FX7_empties_h2   n) l1 v_to v_rank
noncomputable def FX7_empties (v_to : Nat → Int32) (v_rank : Int32) : Option ((Nat → Int32) × Int32) := (FX7_empties_h2   5000 0 v_to v_rank)
set_option maxHeartbeats 4000000 in
set_option maxRecDepth 100000 in
theorem c_X7_empties (l : Launch) (D : va_G) (cI cZ cS : ClassId) (a : Nat → Nat) (v_pins v_bars v_taped v_lined v_at v_fault : Int32) (v_name v_low v_high v_tape v_line : Nat → Int32) (v_imagePins v_imageBars : Int32) (v_imageName v_imageLow v_imageHigh : Nat → Int32) (v_isKept : Int32) (v_to v_carries : Nat → Int32) (v_seen v_rank : Int32) (v_one v_other : Nat → Int32) (v_thought v_gone : Int32) (v_tied v_part v_lack v_down : Nat → Int32) (v_parts v_lacks v_downs : Int32) (v_sort v_items v_item v_carried : Nat → Int32) (v_first v_second : Int32)  (u : (Nat → Int32) × Int32) (hF : FX7_empties v_to v_rank = some u) : MCv l D (tyL cI cZ cS) yX7_empties cX7_empties 2 none 0 0 [.ref (a 0)] (wX7 cI cZ a v_pins v_bars v_taped v_lined v_at v_fault v_name v_low v_high v_tape v_line v_imagePins v_imageBars v_imageName v_imageLow v_imageHigh v_isKept v_to v_carries v_seen v_rank v_one v_other v_thought v_gone v_tied v_part v_lack v_down v_parts v_lacks v_downs v_sort v_items v_item v_carried v_first v_second) (wX7 cI cZ a v_pins v_bars v_taped v_lined v_at v_fault v_name v_low v_high v_tape v_line v_imagePins v_imageBars v_imageName v_imageLow v_imageHigh v_isKept u.1 v_carries v_seen u.2 v_one v_other v_thought v_gone v_tied v_part v_lack v_down v_parts v_lacks v_downs v_sort v_items v_item v_carried v_first v_second) := by
  refine MCv.mk (by decide) (Nat.le_of_ble_eq_true rfl) ?_
  intro p e s m args below meth c A ls Q h0 hP hD hA hS hl hfin0
  have hfin : ∀ (u' : (Nat → Int32) × Int32), u' = u → ∀ (H : Heap) (locs : List Loc) (ls : Array Slot) (pc : Nat), va_P D vwCl (wX7 cI cZ a v_pins v_bars v_taped v_lined v_at v_fault v_name v_low v_high v_tape v_line v_imagePins v_imageBars v_imageName v_imageLow v_imageHigh v_isKept u'.1 v_carries v_seen u'.2 v_one v_other v_thought v_gone v_tied v_part v_lack v_down v_parts v_lacks v_downs v_sort v_items v_item v_carried v_first v_second) H → va_D A (wX7 cI cZ a v_pins v_bars v_taped v_lined v_at v_fault v_name v_low v_high v_tape v_line v_imagePins v_imageBars v_imageName v_imageLow v_imageHigh v_isKept u'.1 v_carries v_seen u'.2 v_one v_other v_thought v_gone v_tied v_part v_lack v_down v_parts v_lacks v_downs v_sort v_items v_item v_carried v_first v_second) → va_S A s.heap H locs → decode cX7_empties pc = .ok (.return_, 1) → W p l e (uR 0 0) s m args below meth c H locs 0 0 Q (F0 m pc ls []) := by intro u' hu; subst hu; exact hfin0
  clear hfin0
  obtain ⟨hx, hb, hr, hlk, hml, hown, hts, hK⟩ := id h0
  have hl : lv_has ls 2 [(0, .ref (a 0))] := hl
  have E := hF
  have J2 : ∀ (n2 : Nat) (l1 : Int32) (v_to : Nat → Int32) (v_rank : Int32) (H : Heap) (locs : List Loc) (ls : Array Slot), FX7_empties_h2   n2 l1 v_to v_rank = some u → va_P D vwCl (wX7 cI cZ a v_pins v_bars v_taped v_lined v_at v_fault v_name v_low v_high v_tape v_line v_imagePins v_imageBars v_imageName v_imageLow v_imageHigh v_isKept v_to v_carries v_seen v_rank v_one v_other v_thought v_gone v_tied v_part v_lack v_down v_parts v_lacks v_downs v_sort v_items v_item v_carried v_first v_second) H → va_D A (wX7 cI cZ a v_pins v_bars v_taped v_lined v_at v_fault v_name v_low v_high v_tape v_line v_imagePins v_imageBars v_imageName v_imageLow v_imageHigh v_isKept v_to v_carries v_seen v_rank v_one v_other v_thought v_gone v_tied v_part v_lack v_down v_parts v_lacks v_downs v_sort v_items v_item v_carried v_first v_second) → va_S A s.heap H locs → lv_has ls 2 [(0, .ref (a 0)), (1, .int l1)] → W p l e (uR 0 0) s m args below meth c H locs 0 0 Q (F0 m 2 ls []) := by
    intro n2
    induction n2 with
    | zero => intro l1 v_to v_rank H locs ls E; exact none_e E
    | succ n2 ih2 =>
      intro l1 v_to v_rank H locs ls E hP hD hS hl
      have E : FX7_empties_b2   (FX7_empties_h2   n2) l1 v_to v_rank = some u := E
      refine lv_iload_n hx hb dX7_empties_2 rfl (lv_at hl 1 rfl) ?_
      refine lv_bipush (v := 24) hx hb dX7_empties_3 (by decide) ?_
      refine lv_icmp_ge (tgt := 21) hx hb dX7_empties_5 (by decide) (fun c1 => ?_) (fun c1 => ?_)
      · have E := br_p E c1
        refine lv_aload_n hx hb dX7_empties_21 rfl (lv_at hl 0 rfl) ?_
        refine lv_iconst (v := 0) hx hb dX7_empties_22 (by decide) ?_
        refine pf_X7_83 (wo := (wX7 cI cZ a v_pins v_bars v_taped v_lined v_at v_fault v_name v_low v_high v_tape v_line v_imagePins v_imageBars v_imageName v_imageLow v_imageHigh v_isKept v_to v_carries v_seen 0 v_one v_other v_thought v_gone v_tied v_part v_lack v_down v_parts v_lacks v_downs v_sort v_items v_item v_carried v_first v_second)) h0 hP hD hS 0 rfl (Nat.le_of_ble_eq_true rfl) rfl dX7_empties_23 (fun H locs hP hD hS => ?_)
        exact hfin _ (Option.some.inj E) _ _ _ _ hP hD hS dX7_empties_26
      · have E := br_n E c1
        refine lv_aload_n hx hb dX7_empties_8 rfl (lv_at hl 0 rfl) ?_
        refine gf_X7_34 h0 hP 0 rfl rfl dX7_empties_9 ?_
        refine lv_iload_n hx hb dX7_empties_12 rfl (lv_at hl 1 rfl) ?_
        refine lv_iconst (v := (-1)) hx hb dX7_empties_13 (by decide) ?_
        obtain ⟨g2, E⟩ := gd_e E
        refine asti (wo := (wX7 cI cZ a v_pins v_bars v_taped v_lined v_at v_fault v_name v_low v_high v_tape v_line v_imagePins v_imageBars v_imageName v_imageLow v_imageHigh v_isKept (upd v_to l1.toNatClampNeg (-1)) v_carries v_seen v_rank v_one v_other v_thought v_gone v_tied v_part v_lack v_down v_parts v_lacks v_downs v_sort v_items v_item v_carried v_first v_second)) hx hb hK hP hD hS 9 rfl rfl g2 rfl dX7_empties_14 (fun H locs hP hD hS => ?_)
        refine lv_iinc (v := (l1 + 1)) (lv' := [(1, .int (l1 + 1)), (0, .ref (a 0))]) hx hb dX7_empties_15 hl (k := 1) rfl rfl (by decide) rfl (fun ls hl => ?_)
        refine lv_goto (tgt := 2) hx hb dX7_empties_18 (by decide) ?_
        exact ih2 _ _ _ _ _ _ E hP hD hS (lv_sub hl [1, 0] rfl)
  refine lv_iconst (v := 0) hx hb dX7_empties_0 (by decide) ?_
  refine lv_istore_n (lv' := [(1, .int 0), (0, .ref (a 0))]) hx hb dX7_empties_1 rfl hl (by decide) rfl (fun ls hl => ?_)
  exact J2 5000 _ _ _ _ _ _ E hP hD hS (lv_sub hl [1, 0] rfl)
theorem hdX7_freeAt : yX7_freeAt.cls = RX7 ∧ yX7_freeAt.cls ≠ "java/lang/invoke/MethodHandle" ∧ yX7_freeAt.cls ≠ "java/lang/invoke/VarHandle" ∧ (parseMethodDescriptor yX7_freeAt.desc).map (fun d => d.parameters.length) = some 1 := by decide +kernel
noncomputable def FX7_freeAt (p1 : Int32) (v_to : Nat → Int32) : Option (Int32) := (gd (vp_in (2 * p1) 24) (if (v_to (2 * p1).toNatClampNeg) = (-1) then (some (2 * p1)) else (gd (vp_in ((2 * p1) + 1) 24) (if (v_to ((2 * p1) + 1).toNatClampNeg) = (-1) then (some ((2 * p1) + 1)) else (some (-1))))))
set_option maxHeartbeats 4000000 in
set_option maxRecDepth 100000 in
theorem c_X7_freeAt (l : Launch) (D : va_G) (cI cZ cS : ClassId) (a : Nat → Nat) (v_pins v_bars v_taped v_lined v_at v_fault : Int32) (v_name v_low v_high v_tape v_line : Nat → Int32) (v_imagePins v_imageBars : Int32) (v_imageName v_imageLow v_imageHigh : Nat → Int32) (v_isKept : Int32) (v_to v_carries : Nat → Int32) (v_seen v_rank : Int32) (v_one v_other : Nat → Int32) (v_thought v_gone : Int32) (v_tied v_part v_lack v_down : Nat → Int32) (v_parts v_lacks v_downs : Int32) (v_sort v_items v_item v_carried : Nat → Int32) (v_first v_second : Int32) (p1 : Int32) (u : Int32) (hF : FX7_freeAt p1 v_to = some u) : MCi l D (tyL cI cZ cS) yX7_freeAt cX7_freeAt 2 (some .int) 0 0 [.ref (a 0), .int p1] (wX7 cI cZ a v_pins v_bars v_taped v_lined v_at v_fault v_name v_low v_high v_tape v_line v_imagePins v_imageBars v_imageName v_imageLow v_imageHigh v_isKept v_to v_carries v_seen v_rank v_one v_other v_thought v_gone v_tied v_part v_lack v_down v_parts v_lacks v_downs v_sort v_items v_item v_carried v_first v_second) (wX7 cI cZ a v_pins v_bars v_taped v_lined v_at v_fault v_name v_low v_high v_tape v_line v_imagePins v_imageBars v_imageName v_imageLow v_imageHigh v_isKept v_to v_carries v_seen v_rank v_one v_other v_thought v_gone v_tied v_part v_lack v_down v_parts v_lacks v_downs v_sort v_items v_item v_carried v_first v_second) u := by
  refine MCi.mk (by decide) (Nat.le_of_ble_eq_true rfl) ?_
  intro p e s m args below meth c A ls Q h0 hP hD hA hS hl hfin0
  have hfin : ∀ (u' : Int32), u' = u → ∀ (H : Heap) (locs : List Loc) (ls : Array Slot) (pc : Nat), va_P D vwCl (wX7 cI cZ a v_pins v_bars v_taped v_lined v_at v_fault v_name v_low v_high v_tape v_line v_imagePins v_imageBars v_imageName v_imageLow v_imageHigh v_isKept v_to v_carries v_seen v_rank v_one v_other v_thought v_gone v_tied v_part v_lack v_down v_parts v_lacks v_downs v_sort v_items v_item v_carried v_first v_second) H → va_D A (wX7 cI cZ a v_pins v_bars v_taped v_lined v_at v_fault v_name v_low v_high v_tape v_line v_imagePins v_imageBars v_imageName v_imageLow v_imageHigh v_isKept v_to v_carries v_seen v_rank v_one v_other v_thought v_gone v_tied v_part v_lack v_down v_parts v_lacks v_downs v_sort v_items v_item v_carried v_first v_second) → va_S A s.heap H locs → decode cX7_freeAt pc = .ok (.ireturn, 1) → W p l e (uR 0 0) s m args below meth c H locs 0 0 Q (F0 m pc ls [.int u']) := by intro u' hu; subst hu; exact hfin0
  clear hfin0
  obtain ⟨hx, hb, hr, hlk, hml, hown, hts, hK⟩ := id h0
  have hl : lv_has ls 2 [(0, .ref (a 0)), (1, .int p1)] := hl
  have E := hF
  refine lv_aload_n hx hb dX7_freeAt_0 rfl (lv_at hl 0 rfl) ?_
  refine gf_X7_34 h0 hP 0 rfl rfl dX7_freeAt_1 ?_
  refine lv_iconst (v := 2) hx hb dX7_freeAt_4 (by decide) ?_
  refine lv_iload_n hx hb dX7_freeAt_5 rfl (lv_at hl 1 rfl) ?_
  refine lv_imul hx hb dX7_freeAt_6 ?_
  obtain ⟨g1, E⟩ := gd_e E
  refine aldi hx hb hK hP 9 rfl rfl g1 dX7_freeAt_7 ?_
  refine lv_iconst (v := (-1)) hx hb dX7_freeAt_8 (by decide) ?_
  refine lv_icmp_ne (tgt := 18) hx hb dX7_freeAt_9 (by decide) (fun c2 => ?_) (fun c2 => ?_)
  · have E := br_n E c2
    refine lv_aload_n hx hb dX7_freeAt_18 rfl (lv_at hl 0 rfl) ?_
    refine gf_X7_34 h0 hP 0 rfl rfl dX7_freeAt_19 ?_
    refine lv_iconst (v := 2) hx hb dX7_freeAt_22 (by decide) ?_
    refine lv_iload_n hx hb dX7_freeAt_23 rfl (lv_at hl 1 rfl) ?_
    refine lv_imul hx hb dX7_freeAt_24 ?_
    refine lv_iconst (v := 1) hx hb dX7_freeAt_25 (by decide) ?_
    refine lv_iadd hx hb dX7_freeAt_26 ?_
    obtain ⟨g3, E⟩ := gd_e E
    refine aldi hx hb hK hP 9 rfl rfl g3 dX7_freeAt_27 ?_
    refine lv_iconst (v := (-1)) hx hb dX7_freeAt_28 (by decide) ?_
    refine lv_icmp_ne (tgt := 40) hx hb dX7_freeAt_29 (by decide) (fun c4 => ?_) (fun c4 => ?_)
    · have E := br_n E c4
      refine lv_iconst (v := (-1)) hx hb dX7_freeAt_40 (by decide) ?_
      exact hfin _ (Option.some.inj E) _ _ _ _ hP hD hS dX7_freeAt_41
    · have E := br_p E c4
      refine lv_iconst (v := 2) hx hb dX7_freeAt_32 (by decide) ?_
      refine lv_iload_n hx hb dX7_freeAt_33 rfl (lv_at hl 1 rfl) ?_
      refine lv_imul hx hb dX7_freeAt_34 ?_
      refine lv_iconst (v := 1) hx hb dX7_freeAt_35 (by decide) ?_
      refine lv_iadd hx hb dX7_freeAt_36 ?_
      refine lv_goto (tgt := 41) hx hb dX7_freeAt_37 (by decide) ?_
      exact hfin _ (Option.some.inj E) _ _ _ _ hP hD hS dX7_freeAt_41
  · have E := br_p E c2
    refine lv_iconst (v := 2) hx hb dX7_freeAt_12 (by decide) ?_
    refine lv_iload_n hx hb dX7_freeAt_13 rfl (lv_at hl 1 rfl) ?_
    refine lv_imul hx hb dX7_freeAt_14 ?_
    refine lv_goto (tgt := 41) hx hb dX7_freeAt_15 (by decide) ?_
    exact hfin _ (Option.some.inj E) _ _ _ _ hP hD hS dX7_freeAt_41
theorem hdX7_hasBoth : yX7_hasBoth.cls = RX7 ∧ yX7_hasBoth.cls ≠ "java/lang/invoke/MethodHandle" ∧ yX7_hasBoth.cls ≠ "java/lang/invoke/VarHandle" ∧ (parseMethodDescriptor yX7_hasBoth.desc).map (fun d => d.parameters.length) = some 1 := by decide +kernel
noncomputable def FX7_hasBoth (p1 : Int32) (v_to : Nat → Int32) : Option (Int32) := (gd (vp_in (2 * p1) 24) (if (v_to (2 * p1).toNatClampNeg) = (-1) then (gd (vp_in ((2 * p1) + 1) 24) (if (v_to ((2 * p1) + 1).toNatClampNeg) = (-1) then (some 1) else (some 0))) else (some 0)))
set_option maxHeartbeats 4000000 in
set_option maxRecDepth 100000 in
theorem c_X7_hasBoth (l : Launch) (D : va_G) (cI cZ cS : ClassId) (a : Nat → Nat) (v_pins v_bars v_taped v_lined v_at v_fault : Int32) (v_name v_low v_high v_tape v_line : Nat → Int32) (v_imagePins v_imageBars : Int32) (v_imageName v_imageLow v_imageHigh : Nat → Int32) (v_isKept : Int32) (v_to v_carries : Nat → Int32) (v_seen v_rank : Int32) (v_one v_other : Nat → Int32) (v_thought v_gone : Int32) (v_tied v_part v_lack v_down : Nat → Int32) (v_parts v_lacks v_downs : Int32) (v_sort v_items v_item v_carried : Nat → Int32) (v_first v_second : Int32) (p1 : Int32) (u : Int32) (hF : FX7_hasBoth p1 v_to = some u) : MCi l D (tyL cI cZ cS) yX7_hasBoth cX7_hasBoth 2 (some .boolean) 0 0 [.ref (a 0), .int p1] (wX7 cI cZ a v_pins v_bars v_taped v_lined v_at v_fault v_name v_low v_high v_tape v_line v_imagePins v_imageBars v_imageName v_imageLow v_imageHigh v_isKept v_to v_carries v_seen v_rank v_one v_other v_thought v_gone v_tied v_part v_lack v_down v_parts v_lacks v_downs v_sort v_items v_item v_carried v_first v_second) (wX7 cI cZ a v_pins v_bars v_taped v_lined v_at v_fault v_name v_low v_high v_tape v_line v_imagePins v_imageBars v_imageName v_imageLow v_imageHigh v_isKept v_to v_carries v_seen v_rank v_one v_other v_thought v_gone v_tied v_part v_lack v_down v_parts v_lacks v_downs v_sort v_items v_item v_carried v_first v_second) u := by
  refine MCz.mk (by decide) (Nat.le_of_ble_eq_true rfl) ?_
  intro p e s m args below meth c A ls Q h0 hP hD hA hS hl hfin0
  have hfin : ∀ (u' : Int32), u' = u → ∀ (H : Heap) (locs : List Loc) (ls : Array Slot) (pc : Nat), (u' = 0 ∨ u' = 1) → va_P D vwCl (wX7 cI cZ a v_pins v_bars v_taped v_lined v_at v_fault v_name v_low v_high v_tape v_line v_imagePins v_imageBars v_imageName v_imageLow v_imageHigh v_isKept v_to v_carries v_seen v_rank v_one v_other v_thought v_gone v_tied v_part v_lack v_down v_parts v_lacks v_downs v_sort v_items v_item v_carried v_first v_second) H → va_D A (wX7 cI cZ a v_pins v_bars v_taped v_lined v_at v_fault v_name v_low v_high v_tape v_line v_imagePins v_imageBars v_imageName v_imageLow v_imageHigh v_isKept v_to v_carries v_seen v_rank v_one v_other v_thought v_gone v_tied v_part v_lack v_down v_parts v_lacks v_downs v_sort v_items v_item v_carried v_first v_second) → va_S A s.heap H locs → decode cX7_hasBoth pc = .ok (.ireturn, 1) → W p l e (uR 0 0) s m args below meth c H locs 0 0 Q (F0 m pc ls [.int u']) := by intro u' hu; subst hu; exact hfin0
  clear hfin0
  obtain ⟨hx, hb, hr, hlk, hml, hown, hts, hK⟩ := id h0
  have hl : lv_has ls 2 [(0, .ref (a 0)), (1, .int p1)] := hl
  have E := hF
  refine lv_aload_n hx hb dX7_hasBoth_0 rfl (lv_at hl 0 rfl) ?_
  refine gf_X7_34 h0 hP 0 rfl rfl dX7_hasBoth_1 ?_
  refine lv_iconst (v := 2) hx hb dX7_hasBoth_4 (by decide) ?_
  refine lv_iload_n hx hb dX7_hasBoth_5 rfl (lv_at hl 1 rfl) ?_
  refine lv_imul hx hb dX7_hasBoth_6 ?_
  obtain ⟨g1, E⟩ := gd_e E
  refine aldi hx hb hK hP 9 rfl rfl g1 dX7_hasBoth_7 ?_
  refine lv_iconst (v := (-1)) hx hb dX7_hasBoth_8 (by decide) ?_
  refine lv_icmp_ne (tgt := 30) hx hb dX7_hasBoth_9 (by decide) (fun c2 => ?_) (fun c2 => ?_)
  · have E := br_n E c2
    refine lv_iconst (v := 0) hx hb dX7_hasBoth_30 (by decide) ?_
    exact hfin _ (Option.some.inj E) _ _ _ _ (Or.inl rfl) hP hD hS dX7_hasBoth_31
  · have E := br_p E c2
    refine lv_aload_n hx hb dX7_hasBoth_12 rfl (lv_at hl 0 rfl) ?_
    refine gf_X7_34 h0 hP 0 rfl rfl dX7_hasBoth_13 ?_
    refine lv_iconst (v := 2) hx hb dX7_hasBoth_16 (by decide) ?_
    refine lv_iload_n hx hb dX7_hasBoth_17 rfl (lv_at hl 1 rfl) ?_
    refine lv_imul hx hb dX7_hasBoth_18 ?_
    refine lv_iconst (v := 1) hx hb dX7_hasBoth_19 (by decide) ?_
    refine lv_iadd hx hb dX7_hasBoth_20 ?_
    obtain ⟨g3, E⟩ := gd_e E
    refine aldi hx hb hK hP 9 rfl rfl g3 dX7_hasBoth_21 ?_
    refine lv_iconst (v := (-1)) hx hb dX7_hasBoth_22 (by decide) ?_
    refine lv_icmp_ne (tgt := 30) hx hb dX7_hasBoth_23 (by decide) (fun c4 => ?_) (fun c4 => ?_)
    · have E := br_n E c4
      refine lv_iconst (v := 0) hx hb dX7_hasBoth_30 (by decide) ?_
      exact hfin _ (Option.some.inj E) _ _ _ _ (Or.inl rfl) hP hD hS dX7_hasBoth_31
    · have E := br_p E c4
      refine lv_iconst (v := 1) hx hb dX7_hasBoth_26 (by decide) ?_
      refine lv_goto (tgt := 31) hx hb dX7_hasBoth_27 (by decide) ?_
      exact hfin _ (Option.some.inj E) _ _ _ _ (Or.inr rfl) hP hD hS dX7_hasBoth_31
theorem hdX7_frees : yX7_frees.cls = RX7 ∧ yX7_frees.cls ≠ "java/lang/invoke/MethodHandle" ∧ yX7_frees.cls ≠ "java/lang/invoke/VarHandle" ∧ (parseMethodDescriptor yX7_frees.desc).map (fun d => d.parameters.length) = some 1 := by decide +kernel
noncomputable def FX7_frees_b71 (p1 : Int32) (kr : Int32 → (Nat → Int32) → (Int32) → Option (Int32 × (Nat → Int32) × Int32)) (l2 l3 : Int32) (v_to : Nat → Int32) (v_seen : Int32) : Option (Int32 × (Nat → Int32) × Int32) := ((FX7_freeAt l3 v_to).bind (fun r1 => (gd (vp_in r1 24) (gd (vp_in l2 24) (some (1, (upd (upd v_to r1.toNatClampNeg p1) l2.toNatClampNeg (-1)), v_seen))))))
noncomputable def FX7_frees_b91 (p1 : Int32) (kr : Int32 → (Nat → Int32) → (Int32) → Option (Int32 × (Nat → Int32) × Int32)) (k16 : Int32 → (Nat → Int32) → Int32 → Option (Int32 × (Nat → Int32) × Int32)) (l2 : Int32) (v_to : Nat → Int32) (v_seen : Int32) : Option (Int32 × (Nat → Int32) × Int32) := (k16 (l2 + 1) v_to v_seen)
noncomputable def FX7_frees_b16 (p1 : Int32) (kr : Int32 → (Nat → Int32) → (Int32) → Option (Int32 × (Nat → Int32) × Int32)) (k16 : Int32 → (Nat → Int32) → Int32 → Option (Int32 × (Nat → Int32) × Int32)) (l2 : Int32) (v_to : Nat → Int32) (v_seen : Int32) : Option (Int32 × (Nat → Int32) × Int32) := (if ((2 * p1) + 2) ≤ l2 then (some (0, v_to, v_seen)) else (gd (vp_in l2 24) (if (v_to l2.toNatClampNeg) = (-1) then (FX7_frees_b91 p1 kr k16 l2 v_to v_seen) else (if ((v_seen >>> ((v_to l2.toNatClampNeg) &&& 31)) &&& 1) = 1 then (FX7_frees_b91 p1 kr k16 l2 v_to v_seen) else ((FX7_freeAt (v_to l2.toNatClampNeg) v_to).bind (fun r8 => (if 0 ≤ r8 then (FX7_frees_b71 p1 kr l2 (v_to l2.toNatClampNeg) v_to v_seen) else ((kr (v_to l2.toNatClampNeg) v_to v_seen).bind (fun r10 => (if r10.1 = 0 then (FX7_frees_b91 p1 kr k16 l2 r10.2.1 r10.2.2) else (FX7_frees_b71 p1 kr l2 (v_to l2.toNatClampNeg) r10.2.1 r10.2.2)))))))))))
noncomputable def FX7_frees_h16 (p1 : Int32) (kr : Int32 → (Nat → Int32) → (Int32) → Option (Int32 × (Nat → Int32) × Int32)) : Nat → Int32 → (Nat → Int32) → Int32 → Option (Int32 × (Nat → Int32) × Int32)
  | 0 => fun _ _ _ => none
  | n + 1 => fun l2 v_to v_seen => FX7_frees_b16 p1 kr (FX7_frees_h16 p1 kr n) l2 v_to v_seen
noncomputable def FX7_frees_0 (kr : Int32 → (Nat → Int32) → (Int32) → Option (Int32 × (Nat → Int32) × Int32)) (p1 : Int32) (v_to : Nat → Int32) (v_seen : Int32) : Option (Int32 × (Nat → Int32) × Int32) := (FX7_frees_h16 p1 kr 5000 (2 * p1) v_to (v_seen ||| ((1 : Int32) <<< (p1 &&& 31))))
noncomputable def FX7_frees : Nat → Int32 → (Nat → Int32) → (Int32) → Option (Int32 × (Nat → Int32) × Int32)
  | 0 => fun _ _ _ => none
  | d + 1 => fun p1 v_to v_seen => FX7_frees_0 (FX7_frees d) p1 v_to v_seen
set_option maxHeartbeats 4000000 in
set_option maxRecDepth 100000 in
theorem c_X7_frees_all (l : Launch) (D : va_G) (cI cZ cS : ClassId) : ∀ (d : Nat), ∀ (a : Nat → Nat) (v_pins v_bars v_taped v_lined v_at v_fault : Int32) (v_name v_low v_high v_tape v_line : Nat → Int32) (v_imagePins v_imageBars : Int32) (v_imageName v_imageLow v_imageHigh : Nat → Int32) (v_isKept : Int32) (v_to v_carries : Nat → Int32) (v_seen v_rank : Int32) (v_one v_other : Nat → Int32) (v_thought v_gone : Int32) (v_tied v_part v_lack v_down : Nat → Int32) (v_parts v_lacks v_downs : Int32) (v_sort v_items v_item v_carried : Nat → Int32) (v_first v_second : Int32) (p1 : Int32) (u : Int32 × (Nat → Int32) × Int32), FX7_frees d p1 v_to v_seen = some u → MCi l D (tyL cI cZ cS) yX7_frees cX7_frees 4 (some .boolean) (1 + d) (21 + 23 * d) [.ref (a 0), .int p1] (wX7 cI cZ a v_pins v_bars v_taped v_lined v_at v_fault v_name v_low v_high v_tape v_line v_imagePins v_imageBars v_imageName v_imageLow v_imageHigh v_isKept v_to v_carries v_seen v_rank v_one v_other v_thought v_gone v_tied v_part v_lack v_down v_parts v_lacks v_downs v_sort v_items v_item v_carried v_first v_second) (wX7 cI cZ a v_pins v_bars v_taped v_lined v_at v_fault v_name v_low v_high v_tape v_line v_imagePins v_imageBars v_imageName v_imageLow v_imageHigh v_isKept u.2.1 v_carries u.2.2 v_rank v_one v_other v_thought v_gone v_tied v_part v_lack v_down v_parts v_lacks v_downs v_sort v_items v_item v_carried v_first v_second) u.1 := by
  intro d
  induction d with
  | zero => intro a v_pins v_bars v_taped v_lined v_at v_fault v_name v_low v_high v_tape v_line v_imagePins v_imageBars v_imageName v_imageLow v_imageHigh v_isKept v_to v_carries v_seen v_rank v_one v_other v_thought v_gone v_tied v_part v_lack v_down v_parts v_lacks v_downs v_sort v_items v_item v_carried v_first v_second p1 u hF; exact none_e hF
  | succ d ihd0 =>
    have ihd : ∀ (l : Launch) (D : va_G) (cI cZ cS : ClassId), True := fun _ _ _ _ _ => trivial
    intro a v_pins v_bars v_taped v_lined v_at v_fault v_name v_low v_high v_tape v_line v_imagePins v_imageBars v_imageName v_imageLow v_imageHigh v_isKept v_to v_carries v_seen v_rank v_one v_other v_thought v_gone v_tied v_part v_lack v_down v_parts v_lacks v_downs v_sort v_items v_item v_carried v_first v_second p1 u hF
    have E : FX7_frees_0 (FX7_frees d) p1 v_to v_seen = some u := hF
    refine MCz.mk (by decide) (Nat.le_of_ble_eq_true rfl) ?_
    intro p e s m args below meth c A ls Q h0 hP hD hA hS hl hfin0
    have hfin : ∀ (u' : Int32 × (Nat → Int32) × Int32), u' = u → ∀ (H : Heap) (locs : List Loc) (ls : Array Slot) (pc : Nat), (u'.1 = 0 ∨ u'.1 = 1) → va_P D vwCl (wX7 cI cZ a v_pins v_bars v_taped v_lined v_at v_fault v_name v_low v_high v_tape v_line v_imagePins v_imageBars v_imageName v_imageLow v_imageHigh v_isKept u'.2.1 v_carries u'.2.2 v_rank v_one v_other v_thought v_gone v_tied v_part v_lack v_down v_parts v_lacks v_downs v_sort v_items v_item v_carried v_first v_second) H → va_D A (wX7 cI cZ a v_pins v_bars v_taped v_lined v_at v_fault v_name v_low v_high v_tape v_line v_imagePins v_imageBars v_imageName v_imageLow v_imageHigh v_isKept u'.2.1 v_carries u'.2.2 v_rank v_one v_other v_thought v_gone v_tied v_part v_lack v_down v_parts v_lacks v_downs v_sort v_items v_item v_carried v_first v_second) → va_S A s.heap H locs → decode cX7_frees pc = .ok (.ireturn, 1) → W p l e (uR (1 + (d + 1)) (21 + 23 * (d + 1))) s m args below meth c H locs 0 0 Q (F0 m pc ls [.int u'.1]) := by intro u' hu; subst hu; exact hfin0
    clear hfin0
    obtain ⟨hx, hb, hr, hlk, hml, hown, hts, hK⟩ := id h0
    have hl : lv_has ls 4 [(0, .ref (a 0)), (1, .int p1)] := hl
    have J71 : ∀ (l2 l3 : Int32) (v_to : Nat → Int32) (v_seen : Int32) (H : Heap) (locs : List Loc) (ls : Array Slot), FX7_frees_b71 p1 (FX7_frees d) l2 l3 v_to v_seen = some u → va_P D vwCl (wX7 cI cZ a v_pins v_bars v_taped v_lined v_at v_fault v_name v_low v_high v_tape v_line v_imagePins v_imageBars v_imageName v_imageLow v_imageHigh v_isKept v_to v_carries v_seen v_rank v_one v_other v_thought v_gone v_tied v_part v_lack v_down v_parts v_lacks v_downs v_sort v_items v_item v_carried v_first v_second) H → va_D A (wX7 cI cZ a v_pins v_bars v_taped v_lined v_at v_fault v_name v_low v_high v_tape v_line v_imagePins v_imageBars v_imageName v_imageLow v_imageHigh v_isKept v_to v_carries v_seen v_rank v_one v_other v_thought v_gone v_tied v_part v_lack v_down v_parts v_lacks v_downs v_sort v_items v_item v_carried v_first v_second) → va_S A s.heap H locs → lv_has ls 4 [(0, .ref (a 0)), (1, .int p1), (2, .int l2), (3, .int l3)] → W p l e (uR (1 + (d + 1)) (21 + 23 * (d + 1))) s m args below meth c H locs 0 0 Q (F0 m 71 ls []) := by
      intro l2 l3 v_to v_seen H locs ls E hP hD hS hl
      refine lv_aload_n hx hb dX7_frees_71 rfl (lv_at hl 0 rfl) ?_
      refine gf_X7_34 h0 hP 0 rfl rfl dX7_frees_72 ?_
      refine lv_aload_n hx hb dX7_frees_75 rfl (lv_at hl 0 rfl) ?_
      refine lv_iload_n hx hb dX7_frees_76 rfl (lv_at hl 3 rfl) ?_
      obtain ⟨r1, hF, E⟩ := bn_e E
      refine callVfi (wo := (wX7 cI cZ a v_pins v_bars v_taped v_lined v_at v_fault v_name v_low v_high v_tape v_line v_imagePins v_imageBars v_imageName v_imageLow v_imageHigh v_isKept v_to v_carries v_seen v_rank v_one v_other v_thought v_gone v_tied v_part v_lack v_down v_parts v_lacks v_downs v_sort v_items v_item v_carried v_first v_second)) h0 (c_X7_freeAt l D cI cZ cS a v_pins v_bars v_taped v_lined v_at v_fault v_name v_low v_high v_tape v_line v_imagePins v_imageBars v_imageName v_imageLow v_imageHigh v_isKept v_to v_carries v_seen v_rank v_one v_other v_thought v_gone v_tied v_part v_lack v_down v_parts v_lacks v_downs v_sort v_items v_item v_carried v_first v_second l3 r1 hF) (gV wq_783 wq_785 wp_31 wq_8 wq_786) hdX7_freeAt ⟨by simp only [uR]; omega, by simp only [uR]; omega⟩ ⟨Nat.le_refl _, Nat.le_refl _⟩ hP hD hS hA 0 7 rfl rfl rfl hl.1 rfl (Nat.le_of_ble_eq_true rfl) dX7_frees_77 (fun H locs hP hD hS => ?_)
      refine lv_iload_n hx hb dX7_frees_80 rfl (lv_at hl 1 rfl) ?_
      obtain ⟨g2, E⟩ := gd_e E
      refine asti (wo := (wX7 cI cZ a v_pins v_bars v_taped v_lined v_at v_fault v_name v_low v_high v_tape v_line v_imagePins v_imageBars v_imageName v_imageLow v_imageHigh v_isKept (upd v_to r1.toNatClampNeg p1) v_carries v_seen v_rank v_one v_other v_thought v_gone v_tied v_part v_lack v_down v_parts v_lacks v_downs v_sort v_items v_item v_carried v_first v_second)) hx hb hK hP hD hS 9 rfl rfl g2 rfl dX7_frees_81 (fun H locs hP hD hS => ?_)
      refine lv_aload_n hx hb dX7_frees_82 rfl (lv_at hl 0 rfl) ?_
      refine gf_X7_34 h0 hP 0 rfl rfl dX7_frees_83 ?_
      refine lv_iload_n hx hb dX7_frees_86 rfl (lv_at hl 2 rfl) ?_
      refine lv_iconst (v := (-1)) hx hb dX7_frees_87 (by decide) ?_
      obtain ⟨g3, E⟩ := gd_e E
      refine asti (wo := (wX7 cI cZ a v_pins v_bars v_taped v_lined v_at v_fault v_name v_low v_high v_tape v_line v_imagePins v_imageBars v_imageName v_imageLow v_imageHigh v_isKept (upd (upd v_to r1.toNatClampNeg p1) l2.toNatClampNeg (-1)) v_carries v_seen v_rank v_one v_other v_thought v_gone v_tied v_part v_lack v_down v_parts v_lacks v_downs v_sort v_items v_item v_carried v_first v_second)) hx hb hK hP hD hS 9 rfl rfl g3 rfl dX7_frees_88 (fun H locs hP hD hS => ?_)
      refine lv_iconst (v := 1) hx hb dX7_frees_89 (by decide) ?_
      exact hfin _ (Option.some.inj E) _ _ _ _ (Or.inr rfl) hP hD hS dX7_frees_90
    have J16 : ∀ (n16 : Nat) (l2 : Int32) (v_to : Nat → Int32) (v_seen : Int32) (H : Heap) (locs : List Loc) (ls : Array Slot), FX7_frees_h16 p1 (FX7_frees d) n16 l2 v_to v_seen = some u → va_P D vwCl (wX7 cI cZ a v_pins v_bars v_taped v_lined v_at v_fault v_name v_low v_high v_tape v_line v_imagePins v_imageBars v_imageName v_imageLow v_imageHigh v_isKept v_to v_carries v_seen v_rank v_one v_other v_thought v_gone v_tied v_part v_lack v_down v_parts v_lacks v_downs v_sort v_items v_item v_carried v_first v_second) H → va_D A (wX7 cI cZ a v_pins v_bars v_taped v_lined v_at v_fault v_name v_low v_high v_tape v_line v_imagePins v_imageBars v_imageName v_imageLow v_imageHigh v_isKept v_to v_carries v_seen v_rank v_one v_other v_thought v_gone v_tied v_part v_lack v_down v_parts v_lacks v_downs v_sort v_items v_item v_carried v_first v_second) → va_S A s.heap H locs → lv_has ls 4 [(0, .ref (a 0)), (1, .int p1), (2, .int l2)] → W p l e (uR (1 + (d + 1)) (21 + 23 * (d + 1))) s m args below meth c H locs 0 0 Q (F0 m 16 ls []) := by
      intro n16
      induction n16 with
      | zero => intro l2 v_to v_seen H locs ls E; exact none_e E
      | succ n16 ih16 =>
        intro l2 v_to v_seen H locs ls E hP hD hS hl
        have E : FX7_frees_b16 p1 (FX7_frees d) (FX7_frees_h16 p1 (FX7_frees d) n16) l2 v_to v_seen = some u := E
        have J91 : ∀ (l2 : Int32) (v_to : Nat → Int32) (v_seen : Int32) (H : Heap) (locs : List Loc) (ls : Array Slot), FX7_frees_b91 p1 (FX7_frees d) (FX7_frees_h16 p1 (FX7_frees d) n16) l2 v_to v_seen = some u → va_P D vwCl (wX7 cI cZ a v_pins v_bars v_taped v_lined v_at v_fault v_name v_low v_high v_tape v_line v_imagePins v_imageBars v_imageName v_imageLow v_imageHigh v_isKept v_to v_carries v_seen v_rank v_one v_other v_thought v_gone v_tied v_part v_lack v_down v_parts v_lacks v_downs v_sort v_items v_item v_carried v_first v_second) H → va_D A (wX7 cI cZ a v_pins v_bars v_taped v_lined v_at v_fault v_name v_low v_high v_tape v_line v_imagePins v_imageBars v_imageName v_imageLow v_imageHigh v_isKept v_to v_carries v_seen v_rank v_one v_other v_thought v_gone v_tied v_part v_lack v_down v_parts v_lacks v_downs v_sort v_items v_item v_carried v_first v_second) → va_S A s.heap H locs → lv_has ls 4 [(0, .ref (a 0)), (1, .int p1), (2, .int l2)] → W p l e (uR (1 + (d + 1)) (21 + 23 * (d + 1))) s m args below meth c H locs 0 0 Q (F0 m 91 ls []) := by
          intro l2 v_to v_seen H locs ls E hP hD hS hl
          refine lv_iinc (v := (l2 + 1)) (lv' := [(2, .int (l2 + 1)), (0, .ref (a 0)), (1, .int p1)]) hx hb dX7_frees_91 hl (k := 2) rfl rfl (by decide) rfl (fun ls hl => ?_)
          refine lv_goto (tgt := 16) hx hb dX7_frees_94 (by decide) ?_
          exact ih16 _ _ _ _ _ _ E hP hD hS (lv_sub hl [1, 2, 0] rfl)
        refine lv_iload_n hx hb dX7_frees_16 rfl (lv_at hl 2 rfl) ?_
        refine lv_iconst (v := 2) hx hb dX7_frees_17 (by decide) ?_
        refine lv_iload_n hx hb dX7_frees_18 rfl (lv_at hl 1 rfl) ?_
        refine lv_imul hx hb dX7_frees_19 ?_
        refine lv_iconst (v := 2) hx hb dX7_frees_20 (by decide) ?_
        refine lv_iadd hx hb dX7_frees_21 ?_
        refine lv_icmp_ge (tgt := 97) hx hb dX7_frees_22 (by decide) (fun c4 => ?_) (fun c4 => ?_)
        · have E := br_p E c4
          refine lv_iconst (v := 0) hx hb dX7_frees_97 (by decide) ?_
          exact hfin _ (Option.some.inj E) _ _ _ _ (Or.inl rfl) hP hD hS dX7_frees_98
        · have E := br_n E c4
          refine lv_aload_n hx hb dX7_frees_25 rfl (lv_at hl 0 rfl) ?_
          refine gf_X7_34 h0 hP 0 rfl rfl dX7_frees_26 ?_
          refine lv_iload_n hx hb dX7_frees_29 rfl (lv_at hl 2 rfl) ?_
          obtain ⟨g5, E⟩ := gd_e E
          refine aldi hx hb hK hP 9 rfl rfl g5 dX7_frees_30 ?_
          refine lv_istore_n (lv' := [(3, .int (v_to l2.toNatClampNeg)), (0, .ref (a 0)), (1, .int p1), (2, .int l2)]) hx hb dX7_frees_31 rfl hl (by decide) rfl (fun ls hl => ?_)
          refine lv_iload_n hx hb dX7_frees_32 rfl (lv_at hl 0 rfl) ?_
          refine lv_iconst (v := (-1)) hx hb dX7_frees_33 (by decide) ?_
          refine lv_icmp_eq (tgt := 91) hx hb dX7_frees_34 (by decide) (fun c6 => ?_) (fun c6 => ?_)
          · have E := br_p E c6
            exact J91 _ _ _ _ _ _ E hP hD hS (lv_sub hl [1, 2, 3] rfl)
          · have E := br_n E c6
            refine lv_aload_n hx hb dX7_frees_37 rfl (lv_at hl 1 rfl) ?_
            refine gf_X7_86 h0 hP 0 rfl rfl dX7_frees_38 ?_
            refine lv_iload_n hx hb dX7_frees_41 rfl (lv_at hl 0 rfl) ?_
            refine lv_ishr hx hb dX7_frees_42 ?_
            refine lv_iconst (v := 1) hx hb dX7_frees_43 (by decide) ?_
            refine lv_iand hx hb dX7_frees_44 ?_
            refine lv_iconst (v := 1) hx hb dX7_frees_45 (by decide) ?_
            refine lv_icmp_ne (tgt := 52) hx hb dX7_frees_46 (by decide) (fun c7 => ?_) (fun c7 => ?_)
            · have E := br_n E c7
              refine lv_aload_n hx hb dX7_frees_52 rfl (lv_at hl 1 rfl) ?_
              refine lv_iload_n hx hb dX7_frees_53 rfl (lv_at hl 0 rfl) ?_
              obtain ⟨r8, hF, E⟩ := bn_e E
              refine callVfi (wo := (wX7 cI cZ a v_pins v_bars v_taped v_lined v_at v_fault v_name v_low v_high v_tape v_line v_imagePins v_imageBars v_imageName v_imageLow v_imageHigh v_isKept v_to v_carries v_seen v_rank v_one v_other v_thought v_gone v_tied v_part v_lack v_down v_parts v_lacks v_downs v_sort v_items v_item v_carried v_first v_second)) h0 (c_X7_freeAt l D cI cZ cS a v_pins v_bars v_taped v_lined v_at v_fault v_name v_low v_high v_tape v_line v_imagePins v_imageBars v_imageName v_imageLow v_imageHigh v_isKept v_to v_carries v_seen v_rank v_one v_other v_thought v_gone v_tied v_part v_lack v_down v_parts v_lacks v_downs v_sort v_items v_item v_carried v_first v_second (v_to l2.toNatClampNeg) r8 hF) (gV wq_783 wq_785 wp_31 wq_8 wq_786) hdX7_freeAt ⟨by simp only [uR]; omega, by simp only [uR]; omega⟩ ⟨Nat.le_refl _, Nat.le_refl _⟩ hP hD hS hA 0 7 rfl rfl rfl hl.1 rfl (Nat.le_of_ble_eq_true rfl) dX7_frees_54 (fun H locs hP hD hS => ?_)
              refine lv_if_ge (tgt := 71) hx hb dX7_frees_57 (by decide) (fun c9 => ?_) (fun c9 => ?_)
              · have E := br_p E c9
                exact J71 _ _ _ _ _ _ _ E hP hD hS (lv_sub hl [1, 2, 3, 0] rfl)
              · have E := br_n E c9
                refine lv_aload_n hx hb dX7_frees_60 rfl (lv_at hl 1 rfl) ?_
                refine lv_iload_n hx hb dX7_frees_61 rfl (lv_at hl 0 rfl) ?_
                obtain ⟨r10, hF, E⟩ := bn_e E
                refine callVfi (wo := (wX7 cI cZ a v_pins v_bars v_taped v_lined v_at v_fault v_name v_low v_high v_tape v_line v_imagePins v_imageBars v_imageName v_imageLow v_imageHigh v_isKept r10.2.1 v_carries r10.2.2 v_rank v_one v_other v_thought v_gone v_tied v_part v_lack v_down v_parts v_lacks v_downs v_sort v_items v_item v_carried v_first v_second)) h0 (ihd0 a v_pins v_bars v_taped v_lined v_at v_fault v_name v_low v_high v_tape v_line v_imagePins v_imageBars v_imageName v_imageLow v_imageHigh v_isKept v_to v_carries v_seen v_rank v_one v_other v_thought v_gone v_tied v_part v_lack v_down v_parts v_lacks v_downs v_sort v_items v_item v_carried v_first v_second (v_to l2.toNatClampNeg) r10 hF) (gV wq_779 wq_781 wp_30 wq_8 wq_782) hdX7_frees ⟨by simp only [uR]; omega, by simp only [uR]; omega⟩ ⟨Nat.le_refl _, Nat.le_refl _⟩ hP hD hS hA 0 7 rfl rfl rfl hl.1 rfl (Nat.le_of_ble_eq_true rfl) dX7_frees_62 (fun H locs hP hD hS => ?_)
                refine lv_if_ne (tgt := 71) hx hb dX7_frees_65 (by decide) (fun c11 => ?_) (fun c11 => ?_)
                · have E := br_n E c11
                  exact J71 _ _ _ _ _ _ _ E hP hD hS (lv_sub hl [1, 2, 3, 0] rfl)
                · have E := br_p E c11
                  refine lv_goto (tgt := 91) hx hb dX7_frees_68 (by decide) ?_
                  exact J91 _ _ _ _ _ _ E hP hD hS (lv_sub hl [1, 2, 3] rfl)
            · have E := br_p E c7
              refine lv_goto (tgt := 91) hx hb dX7_frees_49 (by decide) ?_
              exact J91 _ _ _ _ _ _ E hP hD hS (lv_sub hl [1, 2, 3] rfl)
    refine lv_aload_n hx hb dX7_frees_0 rfl (lv_at hl 0 rfl) ?_
    refine lv_dup hx hb dX7_frees_1 rfl ?_
    refine gf_X7_86 h0 hP 0 rfl rfl dX7_frees_2 ?_
    refine lv_iconst (v := 1) hx hb dX7_frees_5 (by decide) ?_
    refine lv_iload_n hx hb dX7_frees_6 rfl (lv_at hl 1 rfl) ?_
    refine lv_ishl hx hb dX7_frees_7 ?_
    refine lv_ior hx hb dX7_frees_8 ?_
    refine pf_X7_86 (wo := (wX7 cI cZ a v_pins v_bars v_taped v_lined v_at v_fault v_name v_low v_high v_tape v_line v_imagePins v_imageBars v_imageName v_imageLow v_imageHigh v_isKept v_to v_carries (v_seen ||| ((1 : Int32) <<< (p1 &&& 31))) v_rank v_one v_other v_thought v_gone v_tied v_part v_lack v_down v_parts v_lacks v_downs v_sort v_items v_item v_carried v_first v_second)) h0 hP hD hS 0 rfl (Nat.le_of_ble_eq_true rfl) rfl dX7_frees_9 (fun H locs hP hD hS => ?_)
    refine lv_iconst (v := 2) hx hb dX7_frees_12 (by decide) ?_
    refine lv_iload_n hx hb dX7_frees_13 rfl (lv_at hl 1 rfl) ?_
    refine lv_imul hx hb dX7_frees_14 ?_
    refine lv_istore_n (lv' := [(2, .int (2 * p1)), (0, .ref (a 0)), (1, .int p1)]) hx hb dX7_frees_15 rfl hl (by decide) rfl (fun ls hl => ?_)
    exact J16 5000 _ _ _ _ _ _ E hP hD hS (lv_sub hl [1, 2, 0] rfl)
theorem c_X7_frees (l : Launch) (D : va_G) (cI cZ cS : ClassId) (d : Nat) (a : Nat → Nat) (v_pins v_bars v_taped v_lined v_at v_fault : Int32) (v_name v_low v_high v_tape v_line : Nat → Int32) (v_imagePins v_imageBars : Int32) (v_imageName v_imageLow v_imageHigh : Nat → Int32) (v_isKept : Int32) (v_to v_carries : Nat → Int32) (v_seen v_rank : Int32) (v_one v_other : Nat → Int32) (v_thought v_gone : Int32) (v_tied v_part v_lack v_down : Nat → Int32) (v_parts v_lacks v_downs : Int32) (v_sort v_items v_item v_carried : Nat → Int32) (v_first v_second : Int32) (p1 : Int32) (u : Int32 × (Nat → Int32) × Int32) (hF : FX7_frees d p1 v_to v_seen = some u) : MCi l D (tyL cI cZ cS) yX7_frees cX7_frees 4 (some .boolean) (1 + d) (21 + 23 * d) [.ref (a 0), .int p1] (wX7 cI cZ a v_pins v_bars v_taped v_lined v_at v_fault v_name v_low v_high v_tape v_line v_imagePins v_imageBars v_imageName v_imageLow v_imageHigh v_isKept v_to v_carries v_seen v_rank v_one v_other v_thought v_gone v_tied v_part v_lack v_down v_parts v_lacks v_downs v_sort v_items v_item v_carried v_first v_second) (wX7 cI cZ a v_pins v_bars v_taped v_lined v_at v_fault v_name v_low v_high v_tape v_line v_imagePins v_imageBars v_imageName v_imageLow v_imageHigh v_isKept u.2.1 v_carries u.2.2 v_rank v_one v_other v_thought v_gone v_tied v_part v_lack v_down v_parts v_lacks v_downs v_sort v_items v_item v_carried v_first v_second) u.1 := c_X7_frees_all l D cI cZ cS d a v_pins v_bars v_taped v_lined v_at v_fault v_name v_low v_high v_tape v_line v_imagePins v_imageBars v_imageName v_imageLow v_imageHigh v_isKept v_to v_carries v_seen v_rank v_one v_other v_thought v_gone v_tied v_part v_lack v_down v_parts v_lacks v_downs v_sort v_items v_item v_carried v_first v_second p1 u hF
theorem hdX7_brings : yX7_brings.cls = RX7 ∧ yX7_brings.cls ≠ "java/lang/invoke/MethodHandle" ∧ yX7_brings.cls ≠ "java/lang/invoke/VarHandle" ∧ (parseMethodDescriptor yX7_brings.desc).map (fun d => d.parameters.length) = some 2 := by decide +kernel
noncomputable def FX7_brings_b23 (p1 p2 : Int32)  (k23 : (Nat → Int32) → Int32 → Option (Int32 × (Nat → Int32) × Int32)) (v_to : Nat → Int32) (v_seen : Int32) : Option (Int32 × (Nat → Int32) × Int32) := ((FX7_hasBoth p2 v_to).bind (fun r1 => (if r1 = 0 then ((FX7_frees 13 p2 v_to ((1 : Int32) <<< (p1 &&& 31))).bind (fun r3 => (if r3.1 = 0 then (some (0, r3.2.1, r3.2.2)) else (k23 r3.2.1 r3.2.2)))) else (some (1, v_to, v_seen)))))
noncomputable def FX7_brings_h23 (p1 p2 : Int32)  : Nat → (Nat → Int32) → Int32 → Option (Int32 × (Nat → Int32) × Int32)
  | 0 => fun _ _ => none
  | n + 1 => fun v_to v_seen => FX7_brings_b23 p1 p2  (FX7_brings_h23 p1 p2  n) v_to v_seen
noncomputable def FX7_brings_b0 (p1 p2 : Int32)  (k0 : (Nat → Int32) → Int32 → Option (Int32 × (Nat → Int32) × Int32)) (v_to : Nat → Int32) (v_seen : Int32) : Option (Int32 × (Nat → Int32) × Int32) := ((FX7_hasBoth p1 v_to).bind (fun r5 => (if r5 = 0 then ((FX7_frees 13 p1 v_to 0).bind (fun r7 => (if r7.1 = 0 then (some (0, r7.2.1, r7.2.2)) else (k0 r7.2.1 r7.2.2)))) else (FX7_brings_h23 p1 p2  5000 v_to v_seen))))
noncomputable def FX7_brings_h0 (p1 p2 : Int32)  : Nat → (Nat → Int32) → Int32 → Option (Int32 × (Nat → Int32) × Int32)
  | 0 => fun _ _ => none
  | n + 1 => fun v_to v_seen => FX7_brings_b0 p1 p2  (FX7_brings_h0 p1 p2  n) v_to v_seen
noncomputable def FX7_brings (p1 p2 : Int32) (v_to : Nat → Int32) (v_seen : Int32) : Option (Int32 × (Nat → Int32) × Int32) := (FX7_brings_h0 p1 p2  5000 v_to v_seen)
set_option maxHeartbeats 4000000 in
set_option maxRecDepth 100000 in
theorem c_X7_brings (l : Launch) (D : va_G) (cI cZ cS : ClassId) (a : Nat → Nat) (v_pins v_bars v_taped v_lined v_at v_fault : Int32) (v_name v_low v_high v_tape v_line : Nat → Int32) (v_imagePins v_imageBars : Int32) (v_imageName v_imageLow v_imageHigh : Nat → Int32) (v_isKept : Int32) (v_to v_carries : Nat → Int32) (v_seen v_rank : Int32) (v_one v_other : Nat → Int32) (v_thought v_gone : Int32) (v_tied v_part v_lack v_down : Nat → Int32) (v_parts v_lacks v_downs : Int32) (v_sort v_items v_item v_carried : Nat → Int32) (v_first v_second : Int32) (p1 p2 : Int32) (u : Int32 × (Nat → Int32) × Int32) (hF : FX7_brings p1 p2 v_to v_seen = some u) : MCi l D (tyL cI cZ cS) yX7_brings cX7_brings 3 (some .boolean) 15 343 [.ref (a 0), .int p1, .int p2] (wX7 cI cZ a v_pins v_bars v_taped v_lined v_at v_fault v_name v_low v_high v_tape v_line v_imagePins v_imageBars v_imageName v_imageLow v_imageHigh v_isKept v_to v_carries v_seen v_rank v_one v_other v_thought v_gone v_tied v_part v_lack v_down v_parts v_lacks v_downs v_sort v_items v_item v_carried v_first v_second) (wX7 cI cZ a v_pins v_bars v_taped v_lined v_at v_fault v_name v_low v_high v_tape v_line v_imagePins v_imageBars v_imageName v_imageLow v_imageHigh v_isKept u.2.1 v_carries u.2.2 v_rank v_one v_other v_thought v_gone v_tied v_part v_lack v_down v_parts v_lacks v_downs v_sort v_items v_item v_carried v_first v_second) u.1 := by
  refine MCz.mk (by decide) (Nat.le_of_ble_eq_true rfl) ?_
  intro p e s m args below meth c A ls Q h0 hP hD hA hS hl hfin0
  have hfin : ∀ (u' : Int32 × (Nat → Int32) × Int32), u' = u → ∀ (H : Heap) (locs : List Loc) (ls : Array Slot) (pc : Nat), (u'.1 = 0 ∨ u'.1 = 1) → va_P D vwCl (wX7 cI cZ a v_pins v_bars v_taped v_lined v_at v_fault v_name v_low v_high v_tape v_line v_imagePins v_imageBars v_imageName v_imageLow v_imageHigh v_isKept u'.2.1 v_carries u'.2.2 v_rank v_one v_other v_thought v_gone v_tied v_part v_lack v_down v_parts v_lacks v_downs v_sort v_items v_item v_carried v_first v_second) H → va_D A (wX7 cI cZ a v_pins v_bars v_taped v_lined v_at v_fault v_name v_low v_high v_tape v_line v_imagePins v_imageBars v_imageName v_imageLow v_imageHigh v_isKept u'.2.1 v_carries u'.2.2 v_rank v_one v_other v_thought v_gone v_tied v_part v_lack v_down v_parts v_lacks v_downs v_sort v_items v_item v_carried v_first v_second) → va_S A s.heap H locs → decode cX7_brings pc = .ok (.ireturn, 1) → W p l e (uR 15 343) s m args below meth c H locs 0 0 Q (F0 m pc ls [.int u'.1]) := by intro u' hu; subst hu; exact hfin0
  clear hfin0
  obtain ⟨hx, hb, hr, hlk, hml, hown, hts, hK⟩ := id h0
  have hl : lv_has ls 3 [(0, .ref (a 0)), (1, .int p1), (2, .int p2)] := hl
  have E := hF
  have J23 : ∀ (n23 : Nat) (v_to : Nat → Int32) (v_seen : Int32) (H : Heap) (locs : List Loc) (ls : Array Slot), FX7_brings_h23 p1 p2  n23 v_to v_seen = some u → va_P D vwCl (wX7 cI cZ a v_pins v_bars v_taped v_lined v_at v_fault v_name v_low v_high v_tape v_line v_imagePins v_imageBars v_imageName v_imageLow v_imageHigh v_isKept v_to v_carries v_seen v_rank v_one v_other v_thought v_gone v_tied v_part v_lack v_down v_parts v_lacks v_downs v_sort v_items v_item v_carried v_first v_second) H → va_D A (wX7 cI cZ a v_pins v_bars v_taped v_lined v_at v_fault v_name v_low v_high v_tape v_line v_imagePins v_imageBars v_imageName v_imageLow v_imageHigh v_isKept v_to v_carries v_seen v_rank v_one v_other v_thought v_gone v_tied v_part v_lack v_down v_parts v_lacks v_downs v_sort v_items v_item v_carried v_first v_second) → va_S A s.heap H locs → lv_has ls 3 [(0, .ref (a 0)), (1, .int p1), (2, .int p2)] → W p l e (uR 15 343) s m args below meth c H locs 0 0 Q (F0 m 23 ls []) := by
    intro n23
    induction n23 with
    | zero => intro v_to v_seen H locs ls E; exact none_e E
    | succ n23 ih23 =>
      intro v_to v_seen H locs ls E hP hD hS hl
      have E : FX7_brings_b23 p1 p2  (FX7_brings_h23 p1 p2  n23) v_to v_seen = some u := E
      refine lv_aload_n hx hb dX7_brings_23 rfl (lv_at hl 0 rfl) ?_
      refine lv_iload_n hx hb dX7_brings_24 rfl (lv_at hl 2 rfl) ?_
      obtain ⟨r1, hF, E⟩ := bn_e E
      refine callVfi (wo := (wX7 cI cZ a v_pins v_bars v_taped v_lined v_at v_fault v_name v_low v_high v_tape v_line v_imagePins v_imageBars v_imageName v_imageLow v_imageHigh v_isKept v_to v_carries v_seen v_rank v_one v_other v_thought v_gone v_tied v_part v_lack v_down v_parts v_lacks v_downs v_sort v_items v_item v_carried v_first v_second)) h0 (c_X7_hasBoth l D cI cZ cS a v_pins v_bars v_taped v_lined v_at v_fault v_name v_low v_high v_tape v_line v_imagePins v_imageBars v_imageName v_imageLow v_imageHigh v_isKept v_to v_carries v_seen v_rank v_one v_other v_thought v_gone v_tied v_part v_lack v_down v_parts v_lacks v_downs v_sort v_items v_item v_carried v_first v_second p2 r1 hF) (gV wq_775 wq_777 wp_29 wq_8 wq_778) hdX7_hasBoth ⟨Nat.le_of_ble_eq_true rfl, Nat.le_of_ble_eq_true rfl⟩ ⟨Nat.le_refl _, Nat.le_refl _⟩ hP hD hS hA 0 7 rfl rfl rfl hl.1 rfl (Nat.le_of_ble_eq_true rfl) dX7_brings_25 (fun H locs hP hD hS => ?_)
      refine lv_if_ne (tgt := 48) hx hb dX7_brings_28 (by decide) (fun c2 => ?_) (fun c2 => ?_)
      · have E := br_n E c2
        refine lv_iconst (v := 1) hx hb dX7_brings_48 (by decide) ?_
        exact hfin _ (Option.some.inj E) _ _ _ _ (Or.inr rfl) hP hD hS dX7_brings_49
      · have E := br_p E c2
        refine lv_aload_n hx hb dX7_brings_31 rfl (lv_at hl 0 rfl) ?_
        refine lv_iconst (v := 1) hx hb dX7_brings_32 (by decide) ?_
        refine lv_iload_n hx hb dX7_brings_33 rfl (lv_at hl 1 rfl) ?_
        refine lv_ishl hx hb dX7_brings_34 ?_
        refine pf_X7_86 (wo := (wX7 cI cZ a v_pins v_bars v_taped v_lined v_at v_fault v_name v_low v_high v_tape v_line v_imagePins v_imageBars v_imageName v_imageLow v_imageHigh v_isKept v_to v_carries ((1 : Int32) <<< (p1 &&& 31)) v_rank v_one v_other v_thought v_gone v_tied v_part v_lack v_down v_parts v_lacks v_downs v_sort v_items v_item v_carried v_first v_second)) h0 hP hD hS 0 rfl (Nat.le_of_ble_eq_true rfl) rfl dX7_brings_35 (fun H locs hP hD hS => ?_)
        refine lv_aload_n hx hb dX7_brings_38 rfl (lv_at hl 0 rfl) ?_
        refine lv_iload_n hx hb dX7_brings_39 rfl (lv_at hl 2 rfl) ?_
        obtain ⟨r3, hF, E⟩ := bn_e E
        refine callVfi (wo := (wX7 cI cZ a v_pins v_bars v_taped v_lined v_at v_fault v_name v_low v_high v_tape v_line v_imagePins v_imageBars v_imageName v_imageLow v_imageHigh v_isKept r3.2.1 v_carries r3.2.2 v_rank v_one v_other v_thought v_gone v_tied v_part v_lack v_down v_parts v_lacks v_downs v_sort v_items v_item v_carried v_first v_second)) h0 (c_X7_frees l D cI cZ cS 13 a v_pins v_bars v_taped v_lined v_at v_fault v_name v_low v_high v_tape v_line v_imagePins v_imageBars v_imageName v_imageLow v_imageHigh v_isKept v_to v_carries ((1 : Int32) <<< (p1 &&& 31)) v_rank v_one v_other v_thought v_gone v_tied v_part v_lack v_down v_parts v_lacks v_downs v_sort v_items v_item v_carried v_first v_second p2 r3 hF) (gV wq_779 wq_781 wp_30 wq_8 wq_782) hdX7_frees ⟨Nat.le_of_ble_eq_true rfl, Nat.le_of_ble_eq_true rfl⟩ ⟨Nat.le_refl _, Nat.le_refl _⟩ hP hD hS hA 0 7 rfl rfl rfl hl.1 rfl (Nat.le_of_ble_eq_true rfl) dX7_brings_40 (fun H locs hP hD hS => ?_)
        refine lv_if_ne (tgt := 23) hx hb dX7_brings_43 (by decide) (fun c4 => ?_) (fun c4 => ?_)
        · have E := br_n E c4
          exact ih23 _ _ _ _ _ E hP hD hS (lv_sub hl [0, 1, 2] rfl)
        · have E := br_p E c4
          refine lv_iconst (v := 0) hx hb dX7_brings_46 (by decide) ?_
          exact hfin _ (Option.some.inj E) _ _ _ _ (Or.inl rfl) hP hD hS dX7_brings_47
  have J0 : ∀ (n0 : Nat) (v_to : Nat → Int32) (v_seen : Int32) (H : Heap) (locs : List Loc) (ls : Array Slot), FX7_brings_h0 p1 p2  n0 v_to v_seen = some u → va_P D vwCl (wX7 cI cZ a v_pins v_bars v_taped v_lined v_at v_fault v_name v_low v_high v_tape v_line v_imagePins v_imageBars v_imageName v_imageLow v_imageHigh v_isKept v_to v_carries v_seen v_rank v_one v_other v_thought v_gone v_tied v_part v_lack v_down v_parts v_lacks v_downs v_sort v_items v_item v_carried v_first v_second) H → va_D A (wX7 cI cZ a v_pins v_bars v_taped v_lined v_at v_fault v_name v_low v_high v_tape v_line v_imagePins v_imageBars v_imageName v_imageLow v_imageHigh v_isKept v_to v_carries v_seen v_rank v_one v_other v_thought v_gone v_tied v_part v_lack v_down v_parts v_lacks v_downs v_sort v_items v_item v_carried v_first v_second) → va_S A s.heap H locs → lv_has ls 3 [(0, .ref (a 0)), (1, .int p1), (2, .int p2)] → W p l e (uR 15 343) s m args below meth c H locs 0 0 Q (F0 m 0 ls []) := by
    intro n0
    induction n0 with
    | zero => intro v_to v_seen H locs ls E; exact none_e E
    | succ n0 ih0 =>
      intro v_to v_seen H locs ls E hP hD hS hl
      have E : FX7_brings_b0 p1 p2  (FX7_brings_h0 p1 p2  n0) v_to v_seen = some u := E
      refine lv_aload_n hx hb dX7_brings_0 rfl (lv_at hl 0 rfl) ?_
      refine lv_iload_n hx hb dX7_brings_1 rfl (lv_at hl 1 rfl) ?_
      obtain ⟨r5, hF, E⟩ := bn_e E
      refine callVfi (wo := (wX7 cI cZ a v_pins v_bars v_taped v_lined v_at v_fault v_name v_low v_high v_tape v_line v_imagePins v_imageBars v_imageName v_imageLow v_imageHigh v_isKept v_to v_carries v_seen v_rank v_one v_other v_thought v_gone v_tied v_part v_lack v_down v_parts v_lacks v_downs v_sort v_items v_item v_carried v_first v_second)) h0 (c_X7_hasBoth l D cI cZ cS a v_pins v_bars v_taped v_lined v_at v_fault v_name v_low v_high v_tape v_line v_imagePins v_imageBars v_imageName v_imageLow v_imageHigh v_isKept v_to v_carries v_seen v_rank v_one v_other v_thought v_gone v_tied v_part v_lack v_down v_parts v_lacks v_downs v_sort v_items v_item v_carried v_first v_second p1 r5 hF) (gV wq_775 wq_777 wp_29 wq_8 wq_778) hdX7_hasBoth ⟨Nat.le_of_ble_eq_true rfl, Nat.le_of_ble_eq_true rfl⟩ ⟨Nat.le_refl _, Nat.le_refl _⟩ hP hD hS hA 0 7 rfl rfl rfl hl.1 rfl (Nat.le_of_ble_eq_true rfl) dX7_brings_2 (fun H locs hP hD hS => ?_)
      refine lv_if_ne (tgt := 23) hx hb dX7_brings_5 (by decide) (fun c6 => ?_) (fun c6 => ?_)
      · have E := br_n E c6
        exact J23 5000 _ _ _ _ _ E hP hD hS (lv_sub hl [0, 1, 2] rfl)
      · have E := br_p E c6
        refine lv_aload_n hx hb dX7_brings_8 rfl (lv_at hl 0 rfl) ?_
        refine lv_iconst (v := 0) hx hb dX7_brings_9 (by decide) ?_
        refine pf_X7_86 (wo := (wX7 cI cZ a v_pins v_bars v_taped v_lined v_at v_fault v_name v_low v_high v_tape v_line v_imagePins v_imageBars v_imageName v_imageLow v_imageHigh v_isKept v_to v_carries 0 v_rank v_one v_other v_thought v_gone v_tied v_part v_lack v_down v_parts v_lacks v_downs v_sort v_items v_item v_carried v_first v_second)) h0 hP hD hS 0 rfl (Nat.le_of_ble_eq_true rfl) rfl dX7_brings_10 (fun H locs hP hD hS => ?_)
        refine lv_aload_n hx hb dX7_brings_13 rfl (lv_at hl 0 rfl) ?_
        refine lv_iload_n hx hb dX7_brings_14 rfl (lv_at hl 1 rfl) ?_
        obtain ⟨r7, hF, E⟩ := bn_e E
        refine callVfi (wo := (wX7 cI cZ a v_pins v_bars v_taped v_lined v_at v_fault v_name v_low v_high v_tape v_line v_imagePins v_imageBars v_imageName v_imageLow v_imageHigh v_isKept r7.2.1 v_carries r7.2.2 v_rank v_one v_other v_thought v_gone v_tied v_part v_lack v_down v_parts v_lacks v_downs v_sort v_items v_item v_carried v_first v_second)) h0 (c_X7_frees l D cI cZ cS 13 a v_pins v_bars v_taped v_lined v_at v_fault v_name v_low v_high v_tape v_line v_imagePins v_imageBars v_imageName v_imageLow v_imageHigh v_isKept v_to v_carries 0 v_rank v_one v_other v_thought v_gone v_tied v_part v_lack v_down v_parts v_lacks v_downs v_sort v_items v_item v_carried v_first v_second p1 r7 hF) (gV wq_779 wq_781 wp_30 wq_8 wq_782) hdX7_frees ⟨Nat.le_of_ble_eq_true rfl, Nat.le_of_ble_eq_true rfl⟩ ⟨Nat.le_refl _, Nat.le_refl _⟩ hP hD hS hA 0 7 rfl rfl rfl hl.1 rfl (Nat.le_of_ble_eq_true rfl) dX7_brings_15 (fun H locs hP hD hS => ?_)
        refine lv_if_ne (tgt := 0) hx hb dX7_brings_18 (by decide) (fun c8 => ?_) (fun c8 => ?_)
        · have E := br_n E c8
          exact ih0 _ _ _ _ _ E hP hD hS (lv_sub hl [0, 1, 2] rfl)
        · have E := br_p E c8
          refine lv_iconst (v := 0) hx hb dX7_brings_21 (by decide) ?_
          exact hfin _ (Option.some.inj E) _ _ _ _ (Or.inl rfl) hP hD hS dX7_brings_22
  exact J0 5000 _ _ _ _ _ E hP hD hS (lv_sub hl [0, 1, 2] rfl)
theorem hdX7_comes : yX7_comes.cls = RX7 ∧ yX7_comes.cls ≠ "java/lang/invoke/MethodHandle" ∧ yX7_comes.cls ≠ "java/lang/invoke/VarHandle" ∧ (parseMethodDescriptor yX7_comes.desc).map (fun d => d.parameters.length) = some 2 := by decide +kernel
noncomputable def FX7_comes (p1 p2 : Int32) (v_to : Nat → Int32) (v_seen v_rank : Int32) : Option (Int32 × (Nat → Int32) × Int32 × Int32) := ((FX7_brings p1 p2 v_to v_seen).bind (fun r1 => (if r1.1 = 0 then (some (0, r1.2.1, r1.2.2, v_rank)) else (gd (vp_in (2 * p1) 24) (some (1, (upd r1.2.1 (2 * p1).toNatClampNeg p2), r1.2.2, (v_rank + 1)))))))
set_option maxHeartbeats 4000000 in
set_option maxRecDepth 100000 in
theorem c_X7_comes (l : Launch) (D : va_G) (cI cZ cS : ClassId) (a : Nat → Nat) (v_pins v_bars v_taped v_lined v_at v_fault : Int32) (v_name v_low v_high v_tape v_line : Nat → Int32) (v_imagePins v_imageBars : Int32) (v_imageName v_imageLow v_imageHigh : Nat → Int32) (v_isKept : Int32) (v_to v_carries : Nat → Int32) (v_seen v_rank : Int32) (v_one v_other : Nat → Int32) (v_thought v_gone : Int32) (v_tied v_part v_lack v_down : Nat → Int32) (v_parts v_lacks v_downs : Int32) (v_sort v_items v_item v_carried : Nat → Int32) (v_first v_second : Int32) (p1 p2 : Int32) (u : Int32 × (Nat → Int32) × Int32 × Int32) (hF : FX7_comes p1 p2 v_to v_seen v_rank = some u) : MCi l D (tyL cI cZ cS) yX7_comes cX7_comes 3 (some .boolean) 16 365 [.ref (a 0), .int p1, .int p2] (wX7 cI cZ a v_pins v_bars v_taped v_lined v_at v_fault v_name v_low v_high v_tape v_line v_imagePins v_imageBars v_imageName v_imageLow v_imageHigh v_isKept v_to v_carries v_seen v_rank v_one v_other v_thought v_gone v_tied v_part v_lack v_down v_parts v_lacks v_downs v_sort v_items v_item v_carried v_first v_second) (wX7 cI cZ a v_pins v_bars v_taped v_lined v_at v_fault v_name v_low v_high v_tape v_line v_imagePins v_imageBars v_imageName v_imageLow v_imageHigh v_isKept u.2.1 v_carries u.2.2.1 u.2.2.2 v_one v_other v_thought v_gone v_tied v_part v_lack v_down v_parts v_lacks v_downs v_sort v_items v_item v_carried v_first v_second) u.1 := by
  refine MCz.mk (by decide) (Nat.le_of_ble_eq_true rfl) ?_
  intro p e s m args below meth c A ls Q h0 hP hD hA hS hl hfin0
  have hfin : ∀ (u' : Int32 × (Nat → Int32) × Int32 × Int32), u' = u → ∀ (H : Heap) (locs : List Loc) (ls : Array Slot) (pc : Nat), (u'.1 = 0 ∨ u'.1 = 1) → va_P D vwCl (wX7 cI cZ a v_pins v_bars v_taped v_lined v_at v_fault v_name v_low v_high v_tape v_line v_imagePins v_imageBars v_imageName v_imageLow v_imageHigh v_isKept u'.2.1 v_carries u'.2.2.1 u'.2.2.2 v_one v_other v_thought v_gone v_tied v_part v_lack v_down v_parts v_lacks v_downs v_sort v_items v_item v_carried v_first v_second) H → va_D A (wX7 cI cZ a v_pins v_bars v_taped v_lined v_at v_fault v_name v_low v_high v_tape v_line v_imagePins v_imageBars v_imageName v_imageLow v_imageHigh v_isKept u'.2.1 v_carries u'.2.2.1 u'.2.2.2 v_one v_other v_thought v_gone v_tied v_part v_lack v_down v_parts v_lacks v_downs v_sort v_items v_item v_carried v_first v_second) → va_S A s.heap H locs → decode cX7_comes pc = .ok (.ireturn, 1) → W p l e (uR 16 365) s m args below meth c H locs 0 0 Q (F0 m pc ls [.int u'.1]) := by intro u' hu; subst hu; exact hfin0
  clear hfin0
  obtain ⟨hx, hb, hr, hlk, hml, hown, hts, hK⟩ := id h0
  have hl : lv_has ls 3 [(0, .ref (a 0)), (1, .int p1), (2, .int p2)] := hl
  have E := hF
  refine lv_aload_n hx hb dX7_comes_0 rfl (lv_at hl 0 rfl) ?_
  refine lv_iload_n hx hb dX7_comes_1 rfl (lv_at hl 1 rfl) ?_
  refine lv_iload_n hx hb dX7_comes_2 rfl (lv_at hl 2 rfl) ?_
  obtain ⟨r1, hF, E⟩ := bn_e E
  refine callVfi (wo := (wX7 cI cZ a v_pins v_bars v_taped v_lined v_at v_fault v_name v_low v_high v_tape v_line v_imagePins v_imageBars v_imageName v_imageLow v_imageHigh v_isKept r1.2.1 v_carries r1.2.2 v_rank v_one v_other v_thought v_gone v_tied v_part v_lack v_down v_parts v_lacks v_downs v_sort v_items v_item v_carried v_first v_second)) h0 (c_X7_brings l D cI cZ cS a v_pins v_bars v_taped v_lined v_at v_fault v_name v_low v_high v_tape v_line v_imagePins v_imageBars v_imageName v_imageLow v_imageHigh v_isKept v_to v_carries v_seen v_rank v_one v_other v_thought v_gone v_tied v_part v_lack v_down v_parts v_lacks v_downs v_sort v_items v_item v_carried v_first v_second p1 p2 r1 hF) (gV wq_771 wq_773 wp_28 wq_8 wq_774) hdX7_brings ⟨Nat.le_of_ble_eq_true rfl, Nat.le_of_ble_eq_true rfl⟩ ⟨Nat.le_refl _, Nat.le_refl _⟩ hP hD hS hA 0 7 rfl rfl rfl hl.1 rfl (Nat.le_of_ble_eq_true rfl) dX7_comes_3 (fun H locs hP hD hS => ?_)
  refine lv_if_ne (tgt := 11) hx hb dX7_comes_6 (by decide) (fun c2 => ?_) (fun c2 => ?_)
  · have E := br_n E c2
    refine lv_aload_n hx hb dX7_comes_11 rfl (lv_at hl 0 rfl) ?_
    refine gf_X7_34 h0 hP 0 rfl rfl dX7_comes_12 ?_
    refine lv_iconst (v := 2) hx hb dX7_comes_15 (by decide) ?_
    refine lv_iload_n hx hb dX7_comes_16 rfl (lv_at hl 1 rfl) ?_
    refine lv_imul hx hb dX7_comes_17 ?_
    refine lv_iload_n hx hb dX7_comes_18 rfl (lv_at hl 2 rfl) ?_
    obtain ⟨g3, E⟩ := gd_e E
    refine asti (wo := (wX7 cI cZ a v_pins v_bars v_taped v_lined v_at v_fault v_name v_low v_high v_tape v_line v_imagePins v_imageBars v_imageName v_imageLow v_imageHigh v_isKept (upd r1.2.1 (2 * p1).toNatClampNeg p2) v_carries r1.2.2 v_rank v_one v_other v_thought v_gone v_tied v_part v_lack v_down v_parts v_lacks v_downs v_sort v_items v_item v_carried v_first v_second)) hx hb hK hP hD hS 9 rfl rfl g3 rfl dX7_comes_19 (fun H locs hP hD hS => ?_)
    refine lv_aload_n hx hb dX7_comes_20 rfl (lv_at hl 0 rfl) ?_
    refine lv_dup hx hb dX7_comes_21 rfl ?_
    refine gf_X7_83 h0 hP 0 rfl rfl dX7_comes_22 ?_
    refine lv_iconst (v := 1) hx hb dX7_comes_25 (by decide) ?_
    refine lv_iadd hx hb dX7_comes_26 ?_
    refine pf_X7_83 (wo := (wX7 cI cZ a v_pins v_bars v_taped v_lined v_at v_fault v_name v_low v_high v_tape v_line v_imagePins v_imageBars v_imageName v_imageLow v_imageHigh v_isKept (upd r1.2.1 (2 * p1).toNatClampNeg p2) v_carries r1.2.2 (v_rank + 1) v_one v_other v_thought v_gone v_tied v_part v_lack v_down v_parts v_lacks v_downs v_sort v_items v_item v_carried v_first v_second)) h0 hP hD hS 0 rfl (Nat.le_of_ble_eq_true rfl) rfl dX7_comes_27 (fun H locs hP hD hS => ?_)
    refine lv_iconst (v := 1) hx hb dX7_comes_30 (by decide) ?_
    exact hfin _ (Option.some.inj E) _ _ _ _ (Or.inr rfl) hP hD hS dX7_comes_31
  · have E := br_p E c2
    refine lv_iconst (v := 0) hx hb dX7_comes_9 (by decide) ?_
    exact hfin _ (Option.some.inj E) _ _ _ _ (Or.inl rfl) hP hD hS dX7_comes_10
theorem hdX7_carriesAll : yX7_carriesAll.cls = RX7 ∧ yX7_carriesAll.cls ≠ "java/lang/invoke/MethodHandle" ∧ yX7_carriesAll.cls ≠ "java/lang/invoke/VarHandle" ∧ (parseMethodDescriptor yX7_carriesAll.desc).map (fun d => d.parameters.length) = some 0 := by decide +kernel
noncomputable def FX7_carriesAll_b6 (v_bars : Int32) (v_low v_high : Nat → Int32)  (k6 : Int32 → (Nat → Int32) → (Nat → Int32) → Int32 → Int32 → Option ((Nat → Int32) × (Nat → Int32) × Int32 × Int32)) (l1 : Int32) (v_to v_carries : Nat → Int32) (v_seen v_rank : Int32) : Option ((Nat → Int32) × (Nat → Int32) × Int32 × Int32) := (if v_bars ≤ l1 then (some (v_to, v_carries, v_seen, v_rank)) else (gd (vp_in l1 24) (gd (vp_in l1 24) ((FX7_comes (v_low l1.toNatClampNeg) (v_high l1.toNatClampNeg) v_to v_seen v_rank).bind (fun r4 => (gd (vp_in l1 24) (gd (r4.1 = 0 ∨ r4.1 = 1) (k6 (l1 + 1) r4.2.1 (upd v_carries l1.toNatClampNeg r4.1) r4.2.2.1 r4.2.2.2))))))))
noncomputable def FX7_carriesAll_h6 (v_bars : Int32) (v_low v_high : Nat → Int32)  : Nat → Int32 → (Nat → Int32) → (Nat → Int32) → Int32 → Int32 → Option ((Nat → Int32) × (Nat → Int32) × Int32 × Int32)
  | 0 => fun _ _ _ _ _ => none
  | n + 1 => fun l1 v_to v_carries v_seen v_rank => FX7_carriesAll_b6 v_bars v_low v_high  (FX7_carriesAll_h6 v_bars v_low v_high  n) l1 v_to v_carries v_seen v_rank
noncomputable def FX7_carriesAll (v_bars : Int32) (v_low v_high v_to v_carries : Nat → Int32) (v_seen v_rank : Int32) : Option ((Nat → Int32) × (Nat → Int32) × Int32 × Int32) := ((FX7_empties v_to v_rank).bind (fun r7 => (FX7_carriesAll_h6 v_bars v_low v_high  5000 0 r7.1 v_carries v_seen r7.2)))
set_option maxHeartbeats 4000000 in
set_option maxRecDepth 100000 in
theorem c_X7_carriesAll (l : Launch) (D : va_G) (cI cZ cS : ClassId) (a : Nat → Nat) (v_pins v_bars v_taped v_lined v_at v_fault : Int32) (v_name v_low v_high v_tape v_line : Nat → Int32) (v_imagePins v_imageBars : Int32) (v_imageName v_imageLow v_imageHigh : Nat → Int32) (v_isKept : Int32) (v_to v_carries : Nat → Int32) (v_seen v_rank : Int32) (v_one v_other : Nat → Int32) (v_thought v_gone : Int32) (v_tied v_part v_lack v_down : Nat → Int32) (v_parts v_lacks v_downs : Int32) (v_sort v_items v_item v_carried : Nat → Int32) (v_first v_second : Int32)  (u : (Nat → Int32) × (Nat → Int32) × Int32 × Int32) (hF : FX7_carriesAll v_bars v_low v_high v_to v_carries v_seen v_rank = some u) : MCv l D (tyL cI cZ cS) yX7_carriesAll cX7_carriesAll 2 none 17 387 [.ref (a 0)] (wX7 cI cZ a v_pins v_bars v_taped v_lined v_at v_fault v_name v_low v_high v_tape v_line v_imagePins v_imageBars v_imageName v_imageLow v_imageHigh v_isKept v_to v_carries v_seen v_rank v_one v_other v_thought v_gone v_tied v_part v_lack v_down v_parts v_lacks v_downs v_sort v_items v_item v_carried v_first v_second) (wX7 cI cZ a v_pins v_bars v_taped v_lined v_at v_fault v_name v_low v_high v_tape v_line v_imagePins v_imageBars v_imageName v_imageLow v_imageHigh v_isKept u.1 u.2.1 u.2.2.1 u.2.2.2 v_one v_other v_thought v_gone v_tied v_part v_lack v_down v_parts v_lacks v_downs v_sort v_items v_item v_carried v_first v_second) := by
  refine MCv.mk (by decide) (Nat.le_of_ble_eq_true rfl) ?_
  intro p e s m args below meth c A ls Q h0 hP hD hA hS hl hfin0
  have hfin : ∀ (u' : (Nat → Int32) × (Nat → Int32) × Int32 × Int32), u' = u → ∀ (H : Heap) (locs : List Loc) (ls : Array Slot) (pc : Nat), va_P D vwCl (wX7 cI cZ a v_pins v_bars v_taped v_lined v_at v_fault v_name v_low v_high v_tape v_line v_imagePins v_imageBars v_imageName v_imageLow v_imageHigh v_isKept u'.1 u'.2.1 u'.2.2.1 u'.2.2.2 v_one v_other v_thought v_gone v_tied v_part v_lack v_down v_parts v_lacks v_downs v_sort v_items v_item v_carried v_first v_second) H → va_D A (wX7 cI cZ a v_pins v_bars v_taped v_lined v_at v_fault v_name v_low v_high v_tape v_line v_imagePins v_imageBars v_imageName v_imageLow v_imageHigh v_isKept u'.1 u'.2.1 u'.2.2.1 u'.2.2.2 v_one v_other v_thought v_gone v_tied v_part v_lack v_down v_parts v_lacks v_downs v_sort v_items v_item v_carried v_first v_second) → va_S A s.heap H locs → decode cX7_carriesAll pc = .ok (.return_, 1) → W p l e (uR 17 387) s m args below meth c H locs 0 0 Q (F0 m pc ls []) := by intro u' hu; subst hu; exact hfin0
  clear hfin0
  obtain ⟨hx, hb, hr, hlk, hml, hown, hts, hK⟩ := id h0
  have hl : lv_has ls 2 [(0, .ref (a 0))] := hl
  have E := hF
  have J6 : ∀ (n6 : Nat) (l1 : Int32) (v_to v_carries : Nat → Int32) (v_seen v_rank : Int32) (H : Heap) (locs : List Loc) (ls : Array Slot), FX7_carriesAll_h6 v_bars v_low v_high  n6 l1 v_to v_carries v_seen v_rank = some u → va_P D vwCl (wX7 cI cZ a v_pins v_bars v_taped v_lined v_at v_fault v_name v_low v_high v_tape v_line v_imagePins v_imageBars v_imageName v_imageLow v_imageHigh v_isKept v_to v_carries v_seen v_rank v_one v_other v_thought v_gone v_tied v_part v_lack v_down v_parts v_lacks v_downs v_sort v_items v_item v_carried v_first v_second) H → va_D A (wX7 cI cZ a v_pins v_bars v_taped v_lined v_at v_fault v_name v_low v_high v_tape v_line v_imagePins v_imageBars v_imageName v_imageLow v_imageHigh v_isKept v_to v_carries v_seen v_rank v_one v_other v_thought v_gone v_tied v_part v_lack v_down v_parts v_lacks v_downs v_sort v_items v_item v_carried v_first v_second) → va_S A s.heap H locs → lv_has ls 2 [(0, .ref (a 0)), (1, .int l1)] → W p l e (uR 17 387) s m args below meth c H locs 0 0 Q (F0 m 6 ls []) := by
    intro n6
    induction n6 with
    | zero => intro l1 v_to v_carries v_seen v_rank H locs ls E; exact none_e E
    | succ n6 ih6 =>
      intro l1 v_to v_carries v_seen v_rank H locs ls E hP hD hS hl
      have E : FX7_carriesAll_b6 v_bars v_low v_high  (FX7_carriesAll_h6 v_bars v_low v_high  n6) l1 v_to v_carries v_seen v_rank = some u := E
      refine lv_iload_n hx hb dX7_carriesAll_6 rfl (lv_at hl 1 rfl) ?_
      refine lv_aload_n hx hb dX7_carriesAll_7 rfl (lv_at hl 0 rfl) ?_
      refine gf_X7_106 h0 hP 0 rfl rfl dX7_carriesAll_8 ?_
      refine lv_icmp_ge (tgt := 42) hx hb dX7_carriesAll_11 (by decide) (fun c1 => ?_) (fun c1 => ?_)
      · have E := br_p E c1
        exact hfin _ (Option.some.inj E) _ _ _ _ hP hD hS dX7_carriesAll_42
      · have E := br_n E c1
        refine lv_aload_n hx hb dX7_carriesAll_14 rfl (lv_at hl 0 rfl) ?_
        refine gf_X7_37 h0 hP 0 rfl rfl dX7_carriesAll_15 ?_
        refine lv_iload_n hx hb dX7_carriesAll_18 rfl (lv_at hl 1 rfl) ?_
        refine lv_aload_n hx hb dX7_carriesAll_19 rfl (lv_at hl 0 rfl) ?_
        refine lv_aload_n hx hb dX7_carriesAll_20 rfl (lv_at hl 0 rfl) ?_
        refine gf_X7_13 h0 hP 0 rfl rfl dX7_carriesAll_21 ?_
        refine lv_iload_n hx hb dX7_carriesAll_24 rfl (lv_at hl 1 rfl) ?_
        obtain ⟨g2, E⟩ := gd_e E
        refine aldi hx hb hK hP 2 rfl rfl g2 dX7_carriesAll_25 ?_
        refine lv_aload_n hx hb dX7_carriesAll_26 rfl (lv_at hl 0 rfl) ?_
        refine gf_X7_16 h0 hP 0 rfl rfl dX7_carriesAll_27 ?_
        refine lv_iload_n hx hb dX7_carriesAll_30 rfl (lv_at hl 1 rfl) ?_
        obtain ⟨g3, E⟩ := gd_e E
        refine aldi hx hb hK hP 3 rfl rfl g3 dX7_carriesAll_31 ?_
        obtain ⟨r4, hF, E⟩ := bn_e E
        refine callVfi (wo := (wX7 cI cZ a v_pins v_bars v_taped v_lined v_at v_fault v_name v_low v_high v_tape v_line v_imagePins v_imageBars v_imageName v_imageLow v_imageHigh v_isKept r4.2.1 v_carries r4.2.2.1 r4.2.2.2 v_one v_other v_thought v_gone v_tied v_part v_lack v_down v_parts v_lacks v_downs v_sort v_items v_item v_carried v_first v_second)) h0 (c_X7_comes l D cI cZ cS a v_pins v_bars v_taped v_lined v_at v_fault v_name v_low v_high v_tape v_line v_imagePins v_imageBars v_imageName v_imageLow v_imageHigh v_isKept v_to v_carries v_seen v_rank v_one v_other v_thought v_gone v_tied v_part v_lack v_down v_parts v_lacks v_downs v_sort v_items v_item v_carried v_first v_second (v_low l1.toNatClampNeg) (v_high l1.toNatClampNeg) r4 hF) (gV wq_767 wq_769 wp_27 wq_8 wq_770) hdX7_comes ⟨Nat.le_of_ble_eq_true rfl, Nat.le_of_ble_eq_true rfl⟩ ⟨Nat.le_refl _, Nat.le_refl _⟩ hP hD hS hA 0 7 rfl rfl rfl hl.1 rfl (Nat.le_of_ble_eq_true rfl) dX7_carriesAll_32 (fun H locs hP hD hS => ?_)
        obtain ⟨g5, E⟩ := gd_e E
        obtain ⟨z6, E⟩ := gd_e E
        refine astz (wo := (wX7 cI cZ a v_pins v_bars v_taped v_lined v_at v_fault v_name v_low v_high v_tape v_line v_imagePins v_imageBars v_imageName v_imageLow v_imageHigh v_isKept r4.2.1 (upd v_carries l1.toNatClampNeg r4.1) r4.2.2.1 r4.2.2.2 v_one v_other v_thought v_gone v_tied v_part v_lack v_down v_parts v_lacks v_downs v_sort v_items v_item v_carried v_first v_second)) hx hb hK hP hD hS 10 rfl rfl g5 z6 rfl dX7_carriesAll_35 (fun H locs hP hD hS => ?_)
        refine lv_iinc (v := (l1 + 1)) (lv' := [(1, .int (l1 + 1)), (0, .ref (a 0))]) hx hb dX7_carriesAll_36 hl (k := 1) rfl rfl (by decide) rfl (fun ls hl => ?_)
        refine lv_goto (tgt := 6) hx hb dX7_carriesAll_39 (by decide) ?_
        exact ih6 _ _ _ _ _ _ _ _ E hP hD hS (lv_sub hl [1, 0] rfl)
  refine lv_aload_n hx hb dX7_carriesAll_0 rfl (lv_at hl 0 rfl) ?_
  obtain ⟨r7, hF, E⟩ := bn_e E
  refine callVfv (wo := (wX7 cI cZ a v_pins v_bars v_taped v_lined v_at v_fault v_name v_low v_high v_tape v_line v_imagePins v_imageBars v_imageName v_imageLow v_imageHigh v_isKept r7.1 v_carries v_seen r7.2 v_one v_other v_thought v_gone v_tied v_part v_lack v_down v_parts v_lacks v_downs v_sort v_items v_item v_carried v_first v_second)) h0 (c_X7_empties l D cI cZ cS a v_pins v_bars v_taped v_lined v_at v_fault v_name v_low v_high v_tape v_line v_imagePins v_imageBars v_imageName v_imageLow v_imageHigh v_isKept v_to v_carries v_seen v_rank v_one v_other v_thought v_gone v_tied v_part v_lack v_down v_parts v_lacks v_downs v_sort v_items v_item v_carried v_first v_second r7 hF) (gV wq_763 wq_765 wp_26 wq_8 wq_766) hdX7_empties ⟨Nat.le_of_ble_eq_true rfl, Nat.le_of_ble_eq_true rfl⟩ ⟨Nat.le_refl _, Nat.le_refl _⟩ hP hD hS hA 0 7 rfl rfl rfl hl.1 rfl (Nat.le_of_ble_eq_true rfl) dX7_carriesAll_1 (fun H locs hP hD hS => ?_)
  refine lv_iconst (v := 0) hx hb dX7_carriesAll_4 (by decide) ?_
  refine lv_istore_n (lv' := [(1, .int 0), (0, .ref (a 0))]) hx hb dX7_carriesAll_5 rfl hl (by decide) rfl (fun ls hl => ?_)
  exact J6 5000 _ _ _ _ _ _ _ _ E hP hD hS (lv_sub hl [1, 0] rfl)
theorem hdX7_rankWithout : yX7_rankWithout.cls = RX7 ∧ yX7_rankWithout.cls ≠ "java/lang/invoke/MethodHandle" ∧ yX7_rankWithout.cls ≠ "java/lang/invoke/VarHandle" ∧ (parseMethodDescriptor yX7_rankWithout.desc).map (fun d => d.parameters.length) = some 1 := by decide +kernel
noncomputable def FX7_rankWithout_b36 (p1 v_bars : Int32) (v_low v_high : Nat → Int32) (k6 : Int32 → (Nat → Int32) → Int32 → Int32 → Option (Int32 × (Nat → Int32) × Int32 × Int32)) (l2 : Int32) (v_to : Nat → Int32) (v_seen v_rank : Int32) : Option (Int32 × (Nat → Int32) × Int32 × Int32) := (k6 (l2 + 1) v_to v_seen v_rank)
noncomputable def FX7_rankWithout_b6 (p1 v_bars : Int32) (v_low v_high : Nat → Int32)  (k6 : Int32 → (Nat → Int32) → Int32 → Int32 → Option (Int32 × (Nat → Int32) × Int32 × Int32)) (l2 : Int32) (v_to : Nat → Int32) (v_seen v_rank : Int32) : Option (Int32 × (Nat → Int32) × Int32 × Int32) := (if v_bars ≤ l2 then (some (v_rank, v_to, v_seen, v_rank)) else (if l2 = p1 then (FX7_rankWithout_b36 p1 v_bars v_low v_high k6 l2 v_to v_seen v_rank) else (gd (vp_in l2 24) (gd (vp_in l2 24) ((FX7_comes (v_low l2.toNatClampNeg) (v_high l2.toNatClampNeg) v_to v_seen v_rank).bind (fun r5 => (FX7_rankWithout_b36 p1 v_bars v_low v_high k6 l2 r5.2.1 r5.2.2.1 r5.2.2.2)))))))
noncomputable def FX7_rankWithout_h6 (p1 v_bars : Int32) (v_low v_high : Nat → Int32)  : Nat → Int32 → (Nat → Int32) → Int32 → Int32 → Option (Int32 × (Nat → Int32) × Int32 × Int32)
  | 0 => fun _ _ _ _ => none
  | n + 1 => fun l2 v_to v_seen v_rank => FX7_rankWithout_b6 p1 v_bars v_low v_high  (FX7_rankWithout_h6 p1 v_bars v_low v_high  n) l2 v_to v_seen v_rank
noncomputable def FX7_rankWithout (p1 : Int32) (v_bars : Int32) (v_low v_high v_to : Nat → Int32) (v_seen v_rank : Int32) : Option (Int32 × (Nat → Int32) × Int32 × Int32) := ((FX7_empties v_to v_rank).bind (fun r6 => (FX7_rankWithout_h6 p1 v_bars v_low v_high  5000 0 r6.1 v_seen r6.2)))
set_option maxHeartbeats 4000000 in
set_option maxRecDepth 100000 in
theorem c_X7_rankWithout (l : Launch) (D : va_G) (cI cZ cS : ClassId) (a : Nat → Nat) (v_pins v_bars v_taped v_lined v_at v_fault : Int32) (v_name v_low v_high v_tape v_line : Nat → Int32) (v_imagePins v_imageBars : Int32) (v_imageName v_imageLow v_imageHigh : Nat → Int32) (v_isKept : Int32) (v_to v_carries : Nat → Int32) (v_seen v_rank : Int32) (v_one v_other : Nat → Int32) (v_thought v_gone : Int32) (v_tied v_part v_lack v_down : Nat → Int32) (v_parts v_lacks v_downs : Int32) (v_sort v_items v_item v_carried : Nat → Int32) (v_first v_second : Int32) (p1 : Int32) (u : Int32 × (Nat → Int32) × Int32 × Int32) (hF : FX7_rankWithout p1 v_bars v_low v_high v_to v_seen v_rank = some u) : MCi l D (tyL cI cZ cS) yX7_rankWithout cX7_rankWithout 3 (some .int) 17 387 [.ref (a 0), .int p1] (wX7 cI cZ a v_pins v_bars v_taped v_lined v_at v_fault v_name v_low v_high v_tape v_line v_imagePins v_imageBars v_imageName v_imageLow v_imageHigh v_isKept v_to v_carries v_seen v_rank v_one v_other v_thought v_gone v_tied v_part v_lack v_down v_parts v_lacks v_downs v_sort v_items v_item v_carried v_first v_second) (wX7 cI cZ a v_pins v_bars v_taped v_lined v_at v_fault v_name v_low v_high v_tape v_line v_imagePins v_imageBars v_imageName v_imageLow v_imageHigh v_isKept u.2.1 v_carries u.2.2.1 u.2.2.2 v_one v_other v_thought v_gone v_tied v_part v_lack v_down v_parts v_lacks v_downs v_sort v_items v_item v_carried v_first v_second) u.1 := by
  refine MCi.mk (by decide) (Nat.le_of_ble_eq_true rfl) ?_
  intro p e s m args below meth c A ls Q h0 hP hD hA hS hl hfin0
  have hfin : ∀ (u' : Int32 × (Nat → Int32) × Int32 × Int32), u' = u → ∀ (H : Heap) (locs : List Loc) (ls : Array Slot) (pc : Nat), va_P D vwCl (wX7 cI cZ a v_pins v_bars v_taped v_lined v_at v_fault v_name v_low v_high v_tape v_line v_imagePins v_imageBars v_imageName v_imageLow v_imageHigh v_isKept u'.2.1 v_carries u'.2.2.1 u'.2.2.2 v_one v_other v_thought v_gone v_tied v_part v_lack v_down v_parts v_lacks v_downs v_sort v_items v_item v_carried v_first v_second) H → va_D A (wX7 cI cZ a v_pins v_bars v_taped v_lined v_at v_fault v_name v_low v_high v_tape v_line v_imagePins v_imageBars v_imageName v_imageLow v_imageHigh v_isKept u'.2.1 v_carries u'.2.2.1 u'.2.2.2 v_one v_other v_thought v_gone v_tied v_part v_lack v_down v_parts v_lacks v_downs v_sort v_items v_item v_carried v_first v_second) → va_S A s.heap H locs → decode cX7_rankWithout pc = .ok (.ireturn, 1) → W p l e (uR 17 387) s m args below meth c H locs 0 0 Q (F0 m pc ls [.int u'.1]) := by intro u' hu; subst hu; exact hfin0
  clear hfin0
  obtain ⟨hx, hb, hr, hlk, hml, hown, hts, hK⟩ := id h0
  have hl : lv_has ls 3 [(0, .ref (a 0)), (1, .int p1)] := hl
  have E := hF
  have J6 : ∀ (n6 : Nat) (l2 : Int32) (v_to : Nat → Int32) (v_seen v_rank : Int32) (H : Heap) (locs : List Loc) (ls : Array Slot), FX7_rankWithout_h6 p1 v_bars v_low v_high  n6 l2 v_to v_seen v_rank = some u → va_P D vwCl (wX7 cI cZ a v_pins v_bars v_taped v_lined v_at v_fault v_name v_low v_high v_tape v_line v_imagePins v_imageBars v_imageName v_imageLow v_imageHigh v_isKept v_to v_carries v_seen v_rank v_one v_other v_thought v_gone v_tied v_part v_lack v_down v_parts v_lacks v_downs v_sort v_items v_item v_carried v_first v_second) H → va_D A (wX7 cI cZ a v_pins v_bars v_taped v_lined v_at v_fault v_name v_low v_high v_tape v_line v_imagePins v_imageBars v_imageName v_imageLow v_imageHigh v_isKept v_to v_carries v_seen v_rank v_one v_other v_thought v_gone v_tied v_part v_lack v_down v_parts v_lacks v_downs v_sort v_items v_item v_carried v_first v_second) → va_S A s.heap H locs → lv_has ls 3 [(0, .ref (a 0)), (1, .int p1), (2, .int l2)] → W p l e (uR 17 387) s m args below meth c H locs 0 0 Q (F0 m 6 ls []) := by
    intro n6
    induction n6 with
    | zero => intro l2 v_to v_seen v_rank H locs ls E; exact none_e E
    | succ n6 ih6 =>
      intro l2 v_to v_seen v_rank H locs ls E hP hD hS hl
      have E : FX7_rankWithout_b6 p1 v_bars v_low v_high  (FX7_rankWithout_h6 p1 v_bars v_low v_high  n6) l2 v_to v_seen v_rank = some u := E
      have J36 : ∀ (l2 : Int32) (v_to : Nat → Int32) (v_seen v_rank : Int32) (H : Heap) (locs : List Loc) (ls : Array Slot), FX7_rankWithout_b36 p1 v_bars v_low v_high (FX7_rankWithout_h6 p1 v_bars v_low v_high  n6) l2 v_to v_seen v_rank = some u → va_P D vwCl (wX7 cI cZ a v_pins v_bars v_taped v_lined v_at v_fault v_name v_low v_high v_tape v_line v_imagePins v_imageBars v_imageName v_imageLow v_imageHigh v_isKept v_to v_carries v_seen v_rank v_one v_other v_thought v_gone v_tied v_part v_lack v_down v_parts v_lacks v_downs v_sort v_items v_item v_carried v_first v_second) H → va_D A (wX7 cI cZ a v_pins v_bars v_taped v_lined v_at v_fault v_name v_low v_high v_tape v_line v_imagePins v_imageBars v_imageName v_imageLow v_imageHigh v_isKept v_to v_carries v_seen v_rank v_one v_other v_thought v_gone v_tied v_part v_lack v_down v_parts v_lacks v_downs v_sort v_items v_item v_carried v_first v_second) → va_S A s.heap H locs → lv_has ls 3 [(0, .ref (a 0)), (1, .int p1), (2, .int l2)] → W p l e (uR 17 387) s m args below meth c H locs 0 0 Q (F0 m 36 ls []) := by
        intro l2 v_to v_seen v_rank H locs ls E hP hD hS hl
        refine lv_iinc (v := (l2 + 1)) (lv' := [(2, .int (l2 + 1)), (0, .ref (a 0)), (1, .int p1)]) hx hb dX7_rankWithout_36 hl (k := 2) rfl rfl (by decide) rfl (fun ls hl => ?_)
        refine lv_goto (tgt := 6) hx hb dX7_rankWithout_39 (by decide) ?_
        exact ih6 _ _ _ _ _ _ _ E hP hD hS (lv_sub hl [1, 2, 0] rfl)
      refine lv_iload_n hx hb dX7_rankWithout_6 rfl (lv_at hl 2 rfl) ?_
      refine lv_aload_n hx hb dX7_rankWithout_7 rfl (lv_at hl 0 rfl) ?_
      refine gf_X7_106 h0 hP 0 rfl rfl dX7_rankWithout_8 ?_
      refine lv_icmp_ge (tgt := 42) hx hb dX7_rankWithout_11 (by decide) (fun c1 => ?_) (fun c1 => ?_)
      · have E := br_p E c1
        refine lv_aload_n hx hb dX7_rankWithout_42 rfl (lv_at hl 0 rfl) ?_
        refine gf_X7_83 h0 hP 0 rfl rfl dX7_rankWithout_43 ?_
        exact hfin _ (Option.some.inj E) _ _ _ _ hP hD hS dX7_rankWithout_46
      · have E := br_n E c1
        refine lv_iload_n hx hb dX7_rankWithout_14 rfl (lv_at hl 2 rfl) ?_
        refine lv_iload_n hx hb dX7_rankWithout_15 rfl (lv_at hl 1 rfl) ?_
        refine lv_icmp_eq (tgt := 36) hx hb dX7_rankWithout_16 (by decide) (fun c2 => ?_) (fun c2 => ?_)
        · have E := br_p E c2
          exact J36 _ _ _ _ _ _ _ E hP hD hS (lv_sub hl [0, 1, 2] rfl)
        · have E := br_n E c2
          refine lv_aload_n hx hb dX7_rankWithout_19 rfl (lv_at hl 0 rfl) ?_
          refine lv_aload_n hx hb dX7_rankWithout_20 rfl (lv_at hl 0 rfl) ?_
          refine gf_X7_13 h0 hP 0 rfl rfl dX7_rankWithout_21 ?_
          refine lv_iload_n hx hb dX7_rankWithout_24 rfl (lv_at hl 2 rfl) ?_
          obtain ⟨g3, E⟩ := gd_e E
          refine aldi hx hb hK hP 2 rfl rfl g3 dX7_rankWithout_25 ?_
          refine lv_aload_n hx hb dX7_rankWithout_26 rfl (lv_at hl 0 rfl) ?_
          refine gf_X7_16 h0 hP 0 rfl rfl dX7_rankWithout_27 ?_
          refine lv_iload_n hx hb dX7_rankWithout_30 rfl (lv_at hl 2 rfl) ?_
          obtain ⟨g4, E⟩ := gd_e E
          refine aldi hx hb hK hP 3 rfl rfl g4 dX7_rankWithout_31 ?_
          obtain ⟨r5, hF, E⟩ := bn_e E
          refine callVfi (wo := (wX7 cI cZ a v_pins v_bars v_taped v_lined v_at v_fault v_name v_low v_high v_tape v_line v_imagePins v_imageBars v_imageName v_imageLow v_imageHigh v_isKept r5.2.1 v_carries r5.2.2.1 r5.2.2.2 v_one v_other v_thought v_gone v_tied v_part v_lack v_down v_parts v_lacks v_downs v_sort v_items v_item v_carried v_first v_second)) h0 (c_X7_comes l D cI cZ cS a v_pins v_bars v_taped v_lined v_at v_fault v_name v_low v_high v_tape v_line v_imagePins v_imageBars v_imageName v_imageLow v_imageHigh v_isKept v_to v_carries v_seen v_rank v_one v_other v_thought v_gone v_tied v_part v_lack v_down v_parts v_lacks v_downs v_sort v_items v_item v_carried v_first v_second (v_low l2.toNatClampNeg) (v_high l2.toNatClampNeg) r5 hF) (gV wq_767 wq_769 wp_27 wq_8 wq_770) hdX7_comes ⟨Nat.le_of_ble_eq_true rfl, Nat.le_of_ble_eq_true rfl⟩ ⟨Nat.le_refl _, Nat.le_refl _⟩ hP hD hS hA 0 7 rfl rfl rfl hl.1 rfl (Nat.le_of_ble_eq_true rfl) dX7_rankWithout_32 (fun H locs hP hD hS => ?_)
          refine lv_pop hx hb dX7_rankWithout_35 rfl ?_
          exact J36 _ _ _ _ _ _ _ E hP hD hS (lv_sub hl [0, 1, 2] rfl)
  refine lv_aload_n hx hb dX7_rankWithout_0 rfl (lv_at hl 0 rfl) ?_
  obtain ⟨r6, hF, E⟩ := bn_e E
  refine callVfv (wo := (wX7 cI cZ a v_pins v_bars v_taped v_lined v_at v_fault v_name v_low v_high v_tape v_line v_imagePins v_imageBars v_imageName v_imageLow v_imageHigh v_isKept r6.1 v_carries v_seen r6.2 v_one v_other v_thought v_gone v_tied v_part v_lack v_down v_parts v_lacks v_downs v_sort v_items v_item v_carried v_first v_second)) h0 (c_X7_empties l D cI cZ cS a v_pins v_bars v_taped v_lined v_at v_fault v_name v_low v_high v_tape v_line v_imagePins v_imageBars v_imageName v_imageLow v_imageHigh v_isKept v_to v_carries v_seen v_rank v_one v_other v_thought v_gone v_tied v_part v_lack v_down v_parts v_lacks v_downs v_sort v_items v_item v_carried v_first v_second r6 hF) (gV wq_763 wq_765 wp_26 wq_8 wq_766) hdX7_empties ⟨Nat.le_of_ble_eq_true rfl, Nat.le_of_ble_eq_true rfl⟩ ⟨Nat.le_refl _, Nat.le_refl _⟩ hP hD hS hA 0 7 rfl rfl rfl hl.1 rfl (Nat.le_of_ble_eq_true rfl) dX7_rankWithout_1 (fun H locs hP hD hS => ?_)
  refine lv_iconst (v := 0) hx hb dX7_rankWithout_4 (by decide) ?_
  refine lv_istore_n (lv' := [(2, .int 0), (0, .ref (a 0)), (1, .int p1)]) hx hb dX7_rankWithout_5 rfl hl (by decide) rfl (fun ls hl => ?_)
  exact J6 5000 _ _ _ _ _ _ _ E hP hD hS (lv_sub hl [1, 2, 0] rfl)
theorem hdX7_rank : yX7_rank.cls = RX7 ∧ yX7_rank.cls ≠ "java/lang/invoke/MethodHandle" ∧ yX7_rank.cls ≠ "java/lang/invoke/VarHandle" ∧ (parseMethodDescriptor yX7_rank.desc).map (fun d => d.parameters.length) = some 0 := by decide +kernel
noncomputable def FX7_rank (v_bars : Int32) (v_low v_high v_to : Nat → Int32) (v_seen v_rank : Int32) : Option (Int32 × (Nat → Int32) × Int32 × Int32) := ((FX7_rankWithout (-1) v_bars v_low v_high v_to v_seen v_rank).bind (fun r1 => (some (r1.1, r1.2.1, r1.2.2.1, r1.2.2.2))))
set_option maxHeartbeats 4000000 in
set_option maxRecDepth 100000 in
theorem c_X7_rank (l : Launch) (D : va_G) (cI cZ cS : ClassId) (a : Nat → Nat) (v_pins v_bars v_taped v_lined v_at v_fault : Int32) (v_name v_low v_high v_tape v_line : Nat → Int32) (v_imagePins v_imageBars : Int32) (v_imageName v_imageLow v_imageHigh : Nat → Int32) (v_isKept : Int32) (v_to v_carries : Nat → Int32) (v_seen v_rank : Int32) (v_one v_other : Nat → Int32) (v_thought v_gone : Int32) (v_tied v_part v_lack v_down : Nat → Int32) (v_parts v_lacks v_downs : Int32) (v_sort v_items v_item v_carried : Nat → Int32) (v_first v_second : Int32)  (u : Int32 × (Nat → Int32) × Int32 × Int32) (hF : FX7_rank v_bars v_low v_high v_to v_seen v_rank = some u) : MCi l D (tyL cI cZ cS) yX7_rank cX7_rank 1 (some .int) 18 409 [.ref (a 0)] (wX7 cI cZ a v_pins v_bars v_taped v_lined v_at v_fault v_name v_low v_high v_tape v_line v_imagePins v_imageBars v_imageName v_imageLow v_imageHigh v_isKept v_to v_carries v_seen v_rank v_one v_other v_thought v_gone v_tied v_part v_lack v_down v_parts v_lacks v_downs v_sort v_items v_item v_carried v_first v_second) (wX7 cI cZ a v_pins v_bars v_taped v_lined v_at v_fault v_name v_low v_high v_tape v_line v_imagePins v_imageBars v_imageName v_imageLow v_imageHigh v_isKept u.2.1 v_carries u.2.2.1 u.2.2.2 v_one v_other v_thought v_gone v_tied v_part v_lack v_down v_parts v_lacks v_downs v_sort v_items v_item v_carried v_first v_second) u.1 := by
  refine MCi.mk (by decide) (Nat.le_of_ble_eq_true rfl) ?_
  intro p e s m args below meth c A ls Q h0 hP hD hA hS hl hfin0
  have hfin : ∀ (u' : Int32 × (Nat → Int32) × Int32 × Int32), u' = u → ∀ (H : Heap) (locs : List Loc) (ls : Array Slot) (pc : Nat), va_P D vwCl (wX7 cI cZ a v_pins v_bars v_taped v_lined v_at v_fault v_name v_low v_high v_tape v_line v_imagePins v_imageBars v_imageName v_imageLow v_imageHigh v_isKept u'.2.1 v_carries u'.2.2.1 u'.2.2.2 v_one v_other v_thought v_gone v_tied v_part v_lack v_down v_parts v_lacks v_downs v_sort v_items v_item v_carried v_first v_second) H → va_D A (wX7 cI cZ a v_pins v_bars v_taped v_lined v_at v_fault v_name v_low v_high v_tape v_line v_imagePins v_imageBars v_imageName v_imageLow v_imageHigh v_isKept u'.2.1 v_carries u'.2.2.1 u'.2.2.2 v_one v_other v_thought v_gone v_tied v_part v_lack v_down v_parts v_lacks v_downs v_sort v_items v_item v_carried v_first v_second) → va_S A s.heap H locs → decode cX7_rank pc = .ok (.ireturn, 1) → W p l e (uR 18 409) s m args below meth c H locs 0 0 Q (F0 m pc ls [.int u'.1]) := by intro u' hu; subst hu; exact hfin0
  clear hfin0
  obtain ⟨hx, hb, hr, hlk, hml, hown, hts, hK⟩ := id h0
  have hl : lv_has ls 1 [(0, .ref (a 0))] := hl
  have E := hF
  refine lv_aload_n hx hb dX7_rank_0 rfl (lv_at hl 0 rfl) ?_
  refine lv_iconst (v := (-1)) hx hb dX7_rank_1 (by decide) ?_
  obtain ⟨r1, hF, E⟩ := bn_e E
  refine callVfi (wo := (wX7 cI cZ a v_pins v_bars v_taped v_lined v_at v_fault v_name v_low v_high v_tape v_line v_imagePins v_imageBars v_imageName v_imageLow v_imageHigh v_isKept r1.2.1 v_carries r1.2.2.1 r1.2.2.2 v_one v_other v_thought v_gone v_tied v_part v_lack v_down v_parts v_lacks v_downs v_sort v_items v_item v_carried v_first v_second)) h0 (c_X7_rankWithout l D cI cZ cS a v_pins v_bars v_taped v_lined v_at v_fault v_name v_low v_high v_tape v_line v_imagePins v_imageBars v_imageName v_imageLow v_imageHigh v_isKept v_to v_carries v_seen v_rank v_one v_other v_thought v_gone v_tied v_part v_lack v_down v_parts v_lacks v_downs v_sort v_items v_item v_carried v_first v_second (-1) r1 hF) (gV wq_803 wq_805 wp_34 wq_8 wq_806) hdX7_rankWithout ⟨Nat.le_of_ble_eq_true rfl, Nat.le_of_ble_eq_true rfl⟩ ⟨Nat.le_refl _, Nat.le_refl _⟩ hP hD hS hA 0 7 rfl rfl rfl hl.1 rfl (Nat.le_of_ble_eq_true rfl) dX7_rank_2 (fun H locs hP hD hS => ?_)
  exact hfin _ (Option.some.inj E) _ _ _ _ hP hD hS dX7_rank_5
theorem hdX7_isStiff : yX7_isStiff.cls = RX7 ∧ yX7_isStiff.cls ≠ "java/lang/invoke/MethodHandle" ∧ yX7_isStiff.cls ≠ "java/lang/invoke/VarHandle" ∧ (parseMethodDescriptor yX7_isStiff.desc).map (fun d => d.parameters.length) = some 0 := by decide +kernel
noncomputable def FX7_isStiff (v_pins v_bars : Int32) (v_low v_high v_to : Nat → Int32) (v_seen v_rank : Int32) : Option (Int32 × (Nat → Int32) × Int32 × Int32) := (if v_pins < 2 then (some (0, v_to, v_seen, v_rank)) else ((FX7_rank v_bars v_low v_high v_to v_seen v_rank).bind (fun r2 => (if r2.1 = ((2 * v_pins) - 3) then (some (1, r2.2.1, r2.2.2.1, r2.2.2.2)) else (some (0, r2.2.1, r2.2.2.1, r2.2.2.2))))))
set_option maxHeartbeats 4000000 in
set_option maxRecDepth 100000 in
theorem c_X7_isStiff (l : Launch) (D : va_G) (cI cZ cS : ClassId) (a : Nat → Nat) (v_pins v_bars v_taped v_lined v_at v_fault : Int32) (v_name v_low v_high v_tape v_line : Nat → Int32) (v_imagePins v_imageBars : Int32) (v_imageName v_imageLow v_imageHigh : Nat → Int32) (v_isKept : Int32) (v_to v_carries : Nat → Int32) (v_seen v_rank : Int32) (v_one v_other : Nat → Int32) (v_thought v_gone : Int32) (v_tied v_part v_lack v_down : Nat → Int32) (v_parts v_lacks v_downs : Int32) (v_sort v_items v_item v_carried : Nat → Int32) (v_first v_second : Int32)  (u : Int32 × (Nat → Int32) × Int32 × Int32) (hF : FX7_isStiff v_pins v_bars v_low v_high v_to v_seen v_rank = some u) : MCi l D (tyL cI cZ cS) yX7_isStiff cX7_isStiff 1 (some .boolean) 19 429 [.ref (a 0)] (wX7 cI cZ a v_pins v_bars v_taped v_lined v_at v_fault v_name v_low v_high v_tape v_line v_imagePins v_imageBars v_imageName v_imageLow v_imageHigh v_isKept v_to v_carries v_seen v_rank v_one v_other v_thought v_gone v_tied v_part v_lack v_down v_parts v_lacks v_downs v_sort v_items v_item v_carried v_first v_second) (wX7 cI cZ a v_pins v_bars v_taped v_lined v_at v_fault v_name v_low v_high v_tape v_line v_imagePins v_imageBars v_imageName v_imageLow v_imageHigh v_isKept u.2.1 v_carries u.2.2.1 u.2.2.2 v_one v_other v_thought v_gone v_tied v_part v_lack v_down v_parts v_lacks v_downs v_sort v_items v_item v_carried v_first v_second) u.1 := by
  refine MCz.mk (by decide) (Nat.le_of_ble_eq_true rfl) ?_
  intro p e s m args below meth c A ls Q h0 hP hD hA hS hl hfin0
  have hfin : ∀ (u' : Int32 × (Nat → Int32) × Int32 × Int32), u' = u → ∀ (H : Heap) (locs : List Loc) (ls : Array Slot) (pc : Nat), (u'.1 = 0 ∨ u'.1 = 1) → va_P D vwCl (wX7 cI cZ a v_pins v_bars v_taped v_lined v_at v_fault v_name v_low v_high v_tape v_line v_imagePins v_imageBars v_imageName v_imageLow v_imageHigh v_isKept u'.2.1 v_carries u'.2.2.1 u'.2.2.2 v_one v_other v_thought v_gone v_tied v_part v_lack v_down v_parts v_lacks v_downs v_sort v_items v_item v_carried v_first v_second) H → va_D A (wX7 cI cZ a v_pins v_bars v_taped v_lined v_at v_fault v_name v_low v_high v_tape v_line v_imagePins v_imageBars v_imageName v_imageLow v_imageHigh v_isKept u'.2.1 v_carries u'.2.2.1 u'.2.2.2 v_one v_other v_thought v_gone v_tied v_part v_lack v_down v_parts v_lacks v_downs v_sort v_items v_item v_carried v_first v_second) → va_S A s.heap H locs → decode cX7_isStiff pc = .ok (.ireturn, 1) → W p l e (uR 19 429) s m args below meth c H locs 0 0 Q (F0 m pc ls [.int u'.1]) := by intro u' hu; subst hu; exact hfin0
  clear hfin0
  obtain ⟨hx, hb, hr, hlk, hml, hown, hts, hK⟩ := id h0
  have hl : lv_has ls 1 [(0, .ref (a 0))] := hl
  have E := hF
  refine lv_aload_n hx hb dX7_isStiff_0 rfl (lv_at hl 0 rfl) ?_
  refine gf_X7_71 h0 hP 0 rfl rfl dX7_isStiff_1 ?_
  refine lv_iconst (v := 2) hx hb dX7_isStiff_4 (by decide) ?_
  refine lv_icmp_lt (tgt := 27) hx hb dX7_isStiff_5 (by decide) (fun c1 => ?_) (fun c1 => ?_)
  · have E := br_p E c1
    refine lv_iconst (v := 0) hx hb dX7_isStiff_27 (by decide) ?_
    exact hfin _ (Option.some.inj E) _ _ _ _ (Or.inl rfl) hP hD hS dX7_isStiff_28
  · have E := br_n E c1
    refine lv_aload_n hx hb dX7_isStiff_8 rfl (lv_at hl 0 rfl) ?_
    obtain ⟨r2, hF, E⟩ := bn_e E
    refine callVfi (wo := (wX7 cI cZ a v_pins v_bars v_taped v_lined v_at v_fault v_name v_low v_high v_tape v_line v_imagePins v_imageBars v_imageName v_imageLow v_imageHigh v_isKept r2.2.1 v_carries r2.2.2.1 r2.2.2.2 v_one v_other v_thought v_gone v_tied v_part v_lack v_down v_parts v_lacks v_downs v_sort v_items v_item v_carried v_first v_second)) h0 (c_X7_rank l D cI cZ cS a v_pins v_bars v_taped v_lined v_at v_fault v_name v_low v_high v_tape v_line v_imagePins v_imageBars v_imageName v_imageLow v_imageHigh v_isKept v_to v_carries v_seen v_rank v_one v_other v_thought v_gone v_tied v_part v_lack v_down v_parts v_lacks v_downs v_sort v_items v_item v_carried v_first v_second r2 hF) (gV wq_799 wq_801 wp_33 wq_8 wq_802) hdX7_rank ⟨Nat.le_of_ble_eq_true rfl, Nat.le_of_ble_eq_true rfl⟩ ⟨Nat.le_refl _, Nat.le_refl _⟩ hP hD hS hA 0 7 rfl rfl rfl hl.1 rfl (Nat.le_of_ble_eq_true rfl) dX7_isStiff_9 (fun H locs hP hD hS => ?_)
    refine lv_iconst (v := 2) hx hb dX7_isStiff_12 (by decide) ?_
    refine lv_aload_n hx hb dX7_isStiff_13 rfl (lv_at hl 0 rfl) ?_
    refine gf_X7_71 h0 hP 0 rfl rfl dX7_isStiff_14 ?_
    refine lv_imul hx hb dX7_isStiff_17 ?_
    refine lv_iconst (v := 3) hx hb dX7_isStiff_18 (by decide) ?_
    refine lv_isub hx hb dX7_isStiff_19 ?_
    refine lv_icmp_ne (tgt := 27) hx hb dX7_isStiff_20 (by decide) (fun c3 => ?_) (fun c3 => ?_)
    · have E := br_n E c3
      refine lv_iconst (v := 0) hx hb dX7_isStiff_27 (by decide) ?_
      exact hfin _ (Option.some.inj E) _ _ _ _ (Or.inl rfl) hP hD hS dX7_isStiff_28
    · have E := br_p E c3
      refine lv_iconst (v := 1) hx hb dX7_isStiff_23 (by decide) ?_
      refine lv_goto (tgt := 28) hx hb dX7_isStiff_24 (by decide) ?_
      exact hfin _ (Option.some.inj E) _ _ _ _ (Or.inr rfl) hP hD hS dX7_isStiff_28
theorem hdX7_placeOf : yX7_placeOf.cls = RX7 ∧ yX7_placeOf.cls ≠ "java/lang/invoke/MethodHandle" ∧ yX7_placeOf.cls ≠ "java/lang/invoke/VarHandle" ∧ (parseMethodDescriptor yX7_placeOf.desc).map (fun d => d.parameters.length) = some 2 := by decide +kernel
noncomputable def FX7_placeOf_b40 (p1 p2 v_bars : Int32) (v_low v_high : Nat → Int32) (k2 : Int32 → Option (Int32)) (l3 : Int32) : Option (Int32) := (k2 (l3 + 1))
noncomputable def FX7_placeOf_b2 (p1 p2 v_bars : Int32) (v_low v_high : Nat → Int32)  (k2 : Int32 → Option (Int32)) (l3 : Int32) : Option (Int32) := (if v_bars ≤ l3 then (some (-1)) else (gd (vp_in l3 24) (if (v_low l3.toNatClampNeg) = (if p2 < p1 then p2 else p1) then (gd (vp_in l3 24) (if (v_high l3.toNatClampNeg) = (if p1 < p2 then p2 else p1) then (some l3) else (FX7_placeOf_b40 p1 p2 v_bars v_low v_high k2 l3))) else (FX7_placeOf_b40 p1 p2 v_bars v_low v_high k2 l3))))
noncomputable def FX7_placeOf_h2 (p1 p2 v_bars : Int32) (v_low v_high : Nat → Int32)  : Nat → Int32 → Option (Int32)
  | 0 => fun _ => none
  | n + 1 => fun l3 => FX7_placeOf_b2 p1 p2 v_bars v_low v_high  (FX7_placeOf_h2 p1 p2 v_bars v_low v_high  n) l3
noncomputable def FX7_placeOf (p1 p2 : Int32) (v_bars : Int32) (v_low v_high : Nat → Int32) : Option (Int32) := (FX7_placeOf_h2 p1 p2 v_bars v_low v_high  5000 0)
set_option maxHeartbeats 4000000 in
set_option maxRecDepth 100000 in
theorem c_X7_placeOf (l : Launch) (D : va_G) (cI cZ cS : ClassId) (a : Nat → Nat) (v_pins v_bars v_taped v_lined v_at v_fault : Int32) (v_name v_low v_high v_tape v_line : Nat → Int32) (v_imagePins v_imageBars : Int32) (v_imageName v_imageLow v_imageHigh : Nat → Int32) (v_isKept : Int32) (v_to v_carries : Nat → Int32) (v_seen v_rank : Int32) (v_one v_other : Nat → Int32) (v_thought v_gone : Int32) (v_tied v_part v_lack v_down : Nat → Int32) (v_parts v_lacks v_downs : Int32) (v_sort v_items v_item v_carried : Nat → Int32) (v_first v_second : Int32) (p1 p2 : Int32) (u : Int32) (hF : FX7_placeOf p1 p2 v_bars v_low v_high = some u) : MCi l D (tyL cI cZ cS) yX7_placeOf cX7_placeOf 4 (some .int) 1 21 [.ref (a 0), .int p1, .int p2] (wX7 cI cZ a v_pins v_bars v_taped v_lined v_at v_fault v_name v_low v_high v_tape v_line v_imagePins v_imageBars v_imageName v_imageLow v_imageHigh v_isKept v_to v_carries v_seen v_rank v_one v_other v_thought v_gone v_tied v_part v_lack v_down v_parts v_lacks v_downs v_sort v_items v_item v_carried v_first v_second) (wX7 cI cZ a v_pins v_bars v_taped v_lined v_at v_fault v_name v_low v_high v_tape v_line v_imagePins v_imageBars v_imageName v_imageLow v_imageHigh v_isKept v_to v_carries v_seen v_rank v_one v_other v_thought v_gone v_tied v_part v_lack v_down v_parts v_lacks v_downs v_sort v_items v_item v_carried v_first v_second) u := by
  refine MCi.mk (by decide) (Nat.le_of_ble_eq_true rfl) ?_
  intro p e s m args below meth c A ls Q h0 hP hD hA hS hl hfin0
  have hfin : ∀ (u' : Int32), u' = u → ∀ (H : Heap) (locs : List Loc) (ls : Array Slot) (pc : Nat), va_P D vwCl (wX7 cI cZ a v_pins v_bars v_taped v_lined v_at v_fault v_name v_low v_high v_tape v_line v_imagePins v_imageBars v_imageName v_imageLow v_imageHigh v_isKept v_to v_carries v_seen v_rank v_one v_other v_thought v_gone v_tied v_part v_lack v_down v_parts v_lacks v_downs v_sort v_items v_item v_carried v_first v_second) H → va_D A (wX7 cI cZ a v_pins v_bars v_taped v_lined v_at v_fault v_name v_low v_high v_tape v_line v_imagePins v_imageBars v_imageName v_imageLow v_imageHigh v_isKept v_to v_carries v_seen v_rank v_one v_other v_thought v_gone v_tied v_part v_lack v_down v_parts v_lacks v_downs v_sort v_items v_item v_carried v_first v_second) → va_S A s.heap H locs → decode cX7_placeOf pc = .ok (.ireturn, 1) → W p l e (uR 1 21) s m args below meth c H locs 0 0 Q (F0 m pc ls [.int u']) := by intro u' hu; subst hu; exact hfin0
  clear hfin0
  obtain ⟨hx, hb, hr, hlk, hml, hown, hts, hK⟩ := id h0
  have hl : lv_has ls 4 [(0, .ref (a 0)), (1, .int p1), (2, .int p2)] := hl
  have E := hF
  have J2 : ∀ (n2 : Nat) (l3 : Int32) (H : Heap) (locs : List Loc) (ls : Array Slot), FX7_placeOf_h2 p1 p2 v_bars v_low v_high  n2 l3 = some u → va_P D vwCl (wX7 cI cZ a v_pins v_bars v_taped v_lined v_at v_fault v_name v_low v_high v_tape v_line v_imagePins v_imageBars v_imageName v_imageLow v_imageHigh v_isKept v_to v_carries v_seen v_rank v_one v_other v_thought v_gone v_tied v_part v_lack v_down v_parts v_lacks v_downs v_sort v_items v_item v_carried v_first v_second) H → va_D A (wX7 cI cZ a v_pins v_bars v_taped v_lined v_at v_fault v_name v_low v_high v_tape v_line v_imagePins v_imageBars v_imageName v_imageLow v_imageHigh v_isKept v_to v_carries v_seen v_rank v_one v_other v_thought v_gone v_tied v_part v_lack v_down v_parts v_lacks v_downs v_sort v_items v_item v_carried v_first v_second) → va_S A s.heap H locs → lv_has ls 4 [(0, .ref (a 0)), (1, .int p1), (2, .int p2), (3, .int l3)] → W p l e (uR 1 21) s m args below meth c H locs 0 0 Q (F0 m 2 ls []) := by
    intro n2
    induction n2 with
    | zero => intro l3 H locs ls E; exact none_e E
    | succ n2 ih2 =>
      intro l3 H locs ls E hP hD hS hl
      have E : FX7_placeOf_b2 p1 p2 v_bars v_low v_high  (FX7_placeOf_h2 p1 p2 v_bars v_low v_high  n2) l3 = some u := E
      have J40 : ∀ (l3 : Int32) (H : Heap) (locs : List Loc) (ls : Array Slot), FX7_placeOf_b40 p1 p2 v_bars v_low v_high (FX7_placeOf_h2 p1 p2 v_bars v_low v_high  n2) l3 = some u → va_P D vwCl (wX7 cI cZ a v_pins v_bars v_taped v_lined v_at v_fault v_name v_low v_high v_tape v_line v_imagePins v_imageBars v_imageName v_imageLow v_imageHigh v_isKept v_to v_carries v_seen v_rank v_one v_other v_thought v_gone v_tied v_part v_lack v_down v_parts v_lacks v_downs v_sort v_items v_item v_carried v_first v_second) H → va_D A (wX7 cI cZ a v_pins v_bars v_taped v_lined v_at v_fault v_name v_low v_high v_tape v_line v_imagePins v_imageBars v_imageName v_imageLow v_imageHigh v_isKept v_to v_carries v_seen v_rank v_one v_other v_thought v_gone v_tied v_part v_lack v_down v_parts v_lacks v_downs v_sort v_items v_item v_carried v_first v_second) → va_S A s.heap H locs → lv_has ls 4 [(0, .ref (a 0)), (1, .int p1), (2, .int p2), (3, .int l3)] → W p l e (uR 1 21) s m args below meth c H locs 0 0 Q (F0 m 40 ls []) := by
        intro l3 H locs ls E hP hD hS hl
        refine lv_iinc (v := (l3 + 1)) (lv' := [(3, .int (l3 + 1)), (0, .ref (a 0)), (1, .int p1), (2, .int p2)]) hx hb dX7_placeOf_40 hl (k := 3) rfl rfl (by decide) rfl (fun ls hl => ?_)
        refine lv_goto (tgt := 2) hx hb dX7_placeOf_43 (by decide) ?_
        exact ih2 _ _ _ _ E hP hD hS (lv_sub hl [1, 2, 3, 0] rfl)
      refine lv_iload_n hx hb dX7_placeOf_2 rfl (lv_at hl 3 rfl) ?_
      refine lv_aload_n hx hb dX7_placeOf_3 rfl (lv_at hl 0 rfl) ?_
      refine gf_X7_106 h0 hP 0 rfl rfl dX7_placeOf_4 ?_
      refine lv_icmp_ge (tgt := 46) hx hb dX7_placeOf_7 (by decide) (fun c1 => ?_) (fun c1 => ?_)
      · have E := br_p E c1
        refine lv_iconst (v := (-1)) hx hb dX7_placeOf_46 (by decide) ?_
        exact hfin _ (Option.some.inj E) _ _ _ _ hP hD hS dX7_placeOf_47
      · have E := br_n E c1
        refine lv_aload_n hx hb dX7_placeOf_10 rfl (lv_at hl 0 rfl) ?_
        refine gf_X7_13 h0 hP 0 rfl rfl dX7_placeOf_11 ?_
        refine lv_iload_n hx hb dX7_placeOf_14 rfl (lv_at hl 3 rfl) ?_
        obtain ⟨g2, E⟩ := gd_e E
        refine aldi hx hb hK hP 2 rfl rfl g2 dX7_placeOf_15 ?_
        refine lv_iload_n hx hb dX7_placeOf_16 rfl (lv_at hl 1 rfl) ?_
        refine lv_iload_n hx hb dX7_placeOf_17 rfl (lv_at hl 2 rfl) ?_
        refine va_mmin hx hb (hml.trans hl.1.symm) hown (hts _ wq_741) (hts _ wq_285) (hts _ wq_9) (hts _ wq_286) (Nat.le_of_ble_eq_true rfl) (Nat.le_of_ble_eq_true rfl) (Nat.le_refl _) (Nat.le_refl _) dX7_placeOf_18 ?_
        refine lv_icmp_ne (tgt := 40) hx hb dX7_placeOf_21 (by decide) (fun c3 => ?_) (fun c3 => ?_)
        · have E := br_n E c3
          exact J40 _ _ _ _ E hP hD hS (lv_sub hl [0, 1, 2, 3] rfl)
        · have E := br_p E c3
          refine lv_aload_n hx hb dX7_placeOf_24 rfl (lv_at hl 0 rfl) ?_
          refine gf_X7_16 h0 hP 0 rfl rfl dX7_placeOf_25 ?_
          refine lv_iload_n hx hb dX7_placeOf_28 rfl (lv_at hl 3 rfl) ?_
          obtain ⟨g4, E⟩ := gd_e E
          refine aldi hx hb hK hP 3 rfl rfl g4 dX7_placeOf_29 ?_
          refine lv_iload_n hx hb dX7_placeOf_30 rfl (lv_at hl 1 rfl) ?_
          refine lv_iload_n hx hb dX7_placeOf_31 rfl (lv_at hl 2 rfl) ?_
          refine va_mmax hx hb (hml.trans hl.1.symm) hown (hts _ wq_742) (hts _ wq_288) (hts _ wq_9) (hts _ wq_289) (Nat.le_of_ble_eq_true rfl) (Nat.le_of_ble_eq_true rfl) (Nat.le_refl _) (Nat.le_refl _) dX7_placeOf_32 ?_
          refine lv_icmp_ne (tgt := 40) hx hb dX7_placeOf_35 (by decide) (fun c5 => ?_) (fun c5 => ?_)
          · have E := br_n E c5
            exact J40 _ _ _ _ E hP hD hS (lv_sub hl [0, 1, 2, 3] rfl)
          · have E := br_p E c5
            refine lv_iload_n hx hb dX7_placeOf_38 rfl (lv_at hl 3 rfl) ?_
            exact hfin _ (Option.some.inj E) _ _ _ _ hP hD hS dX7_placeOf_39
  refine lv_iconst (v := 0) hx hb dX7_placeOf_0 (by decide) ?_
  refine lv_istore_n (lv' := [(3, .int 0), (0, .ref (a 0)), (1, .int p1), (2, .int p2)]) hx hb dX7_placeOf_1 rfl hl (by decide) rfl (fun ls hl => ?_)
  exact J2 5000 _ _ _ _ E hP hD hS (lv_sub hl [1, 2, 3, 0] rfl)
theorem hdX7_bar : yX7_bar.cls = RX7 ∧ yX7_bar.cls ≠ "java/lang/invoke/MethodHandle" ∧ yX7_bar.cls ≠ "java/lang/invoke/VarHandle" ∧ (parseMethodDescriptor yX7_bar.desc).map (fun d => d.parameters.length) = some 2 := by decide +kernel
noncomputable def FX7_bar (p1 p2 : Int32) (v_pins v_bars : Int32) (v_low v_high : Nat → Int32) : Option (Int32 × Int32 × (Nat → Int32) × (Nat → Int32)) := ((FX7_areTwo p1 p2 v_pins).bind (fun r1 => (if r1 = 0 then (some ((-2), v_bars, v_low, v_high)) else ((FX7_placeOf p1 p2 v_bars v_low v_high).bind (fun r3 => (if r3 < 0 then (if v_bars = 24 then (some ((-4), v_bars, v_low, v_high)) else (gd (vp_in v_bars 24) (gd (vp_in v_bars 24) (some (((v_bars + 1) - 1), (v_bars + 1), (upd v_low v_bars.toNatClampNeg (if p2 < p1 then p2 else p1)), (upd v_high v_bars.toNatClampNeg (if p1 < p2 then p2 else p1))))))) else (some ((-3), v_bars, v_low, v_high))))))))
set_option maxHeartbeats 4000000 in
set_option maxRecDepth 100000 in
theorem c_X7_bar (l : Launch) (D : va_G) (cI cZ cS : ClassId) (a : Nat → Nat) (v_pins v_bars v_taped v_lined v_at v_fault : Int32) (v_name v_low v_high v_tape v_line : Nat → Int32) (v_imagePins v_imageBars : Int32) (v_imageName v_imageLow v_imageHigh : Nat → Int32) (v_isKept : Int32) (v_to v_carries : Nat → Int32) (v_seen v_rank : Int32) (v_one v_other : Nat → Int32) (v_thought v_gone : Int32) (v_tied v_part v_lack v_down : Nat → Int32) (v_parts v_lacks v_downs : Int32) (v_sort v_items v_item v_carried : Nat → Int32) (v_first v_second : Int32) (p1 p2 : Int32) (u : Int32 × Int32 × (Nat → Int32) × (Nat → Int32)) (hF : FX7_bar p1 p2 v_pins v_bars v_low v_high = some u) : MCi l D (tyL cI cZ cS) yX7_bar cX7_bar 3 (some .int) 3 65 [.ref (a 0), .int p1, .int p2] (wX7 cI cZ a v_pins v_bars v_taped v_lined v_at v_fault v_name v_low v_high v_tape v_line v_imagePins v_imageBars v_imageName v_imageLow v_imageHigh v_isKept v_to v_carries v_seen v_rank v_one v_other v_thought v_gone v_tied v_part v_lack v_down v_parts v_lacks v_downs v_sort v_items v_item v_carried v_first v_second) (wX7 cI cZ a v_pins u.2.1 v_taped v_lined v_at v_fault v_name u.2.2.1 u.2.2.2 v_tape v_line v_imagePins v_imageBars v_imageName v_imageLow v_imageHigh v_isKept v_to v_carries v_seen v_rank v_one v_other v_thought v_gone v_tied v_part v_lack v_down v_parts v_lacks v_downs v_sort v_items v_item v_carried v_first v_second) u.1 := by
  refine MCi.mk (by decide) (Nat.le_of_ble_eq_true rfl) ?_
  intro p e s m args below meth c A ls Q h0 hP hD hA hS hl hfin0
  have hfin : ∀ (u' : Int32 × Int32 × (Nat → Int32) × (Nat → Int32)), u' = u → ∀ (H : Heap) (locs : List Loc) (ls : Array Slot) (pc : Nat), va_P D vwCl (wX7 cI cZ a v_pins u'.2.1 v_taped v_lined v_at v_fault v_name u'.2.2.1 u'.2.2.2 v_tape v_line v_imagePins v_imageBars v_imageName v_imageLow v_imageHigh v_isKept v_to v_carries v_seen v_rank v_one v_other v_thought v_gone v_tied v_part v_lack v_down v_parts v_lacks v_downs v_sort v_items v_item v_carried v_first v_second) H → va_D A (wX7 cI cZ a v_pins u'.2.1 v_taped v_lined v_at v_fault v_name u'.2.2.1 u'.2.2.2 v_tape v_line v_imagePins v_imageBars v_imageName v_imageLow v_imageHigh v_isKept v_to v_carries v_seen v_rank v_one v_other v_thought v_gone v_tied v_part v_lack v_down v_parts v_lacks v_downs v_sort v_items v_item v_carried v_first v_second) → va_S A s.heap H locs → decode cX7_bar pc = .ok (.ireturn, 1) → W p l e (uR 3 65) s m args below meth c H locs 0 0 Q (F0 m pc ls [.int u'.1]) := by intro u' hu; subst hu; exact hfin0
  clear hfin0
  obtain ⟨hx, hb, hr, hlk, hml, hown, hts, hK⟩ := id h0
  have hl : lv_has ls 3 [(0, .ref (a 0)), (1, .int p1), (2, .int p2)] := hl
  have E := hF
  refine lv_aload_n hx hb dX7_bar_0 rfl (lv_at hl 0 rfl) ?_
  refine lv_iload_n hx hb dX7_bar_1 rfl (lv_at hl 1 rfl) ?_
  refine lv_iload_n hx hb dX7_bar_2 rfl (lv_at hl 2 rfl) ?_
  obtain ⟨r1, hF, E⟩ := bn_e E
  refine callVfi (wo := (wX7 cI cZ a v_pins v_bars v_taped v_lined v_at v_fault v_name v_low v_high v_tape v_line v_imagePins v_imageBars v_imageName v_imageLow v_imageHigh v_isKept v_to v_carries v_seen v_rank v_one v_other v_thought v_gone v_tied v_part v_lack v_down v_parts v_lacks v_downs v_sort v_items v_item v_carried v_first v_second)) h0 (c_X7_areTwo l D cI cZ cS a v_pins v_bars v_taped v_lined v_at v_fault v_name v_low v_high v_tape v_line v_imagePins v_imageBars v_imageName v_imageLow v_imageHigh v_isKept v_to v_carries v_seen v_rank v_one v_other v_thought v_gone v_tied v_part v_lack v_down v_parts v_lacks v_downs v_sort v_items v_item v_carried v_first v_second p1 p2 r1 hF) (gV wq_726 wq_728 wp_21 wq_8 wq_729) hdX7_areTwo ⟨Nat.le_of_ble_eq_true rfl, Nat.le_of_ble_eq_true rfl⟩ ⟨Nat.le_refl _, Nat.le_refl _⟩ hP hD hS hA 0 7 rfl rfl rfl hl.1 rfl (Nat.le_of_ble_eq_true rfl) dX7_bar_3 (fun H locs hP hD hS => ?_)
  refine lv_if_ne (tgt := 12) hx hb dX7_bar_6 (by decide) (fun c2 => ?_) (fun c2 => ?_)
  · have E := br_n E c2
    refine lv_aload_n hx hb dX7_bar_12 rfl (lv_at hl 0 rfl) ?_
    refine lv_iload_n hx hb dX7_bar_13 rfl (lv_at hl 1 rfl) ?_
    refine lv_iload_n hx hb dX7_bar_14 rfl (lv_at hl 2 rfl) ?_
    obtain ⟨r3, hF, E⟩ := bn_e E
    refine callVfi (wo := (wX7 cI cZ a v_pins v_bars v_taped v_lined v_at v_fault v_name v_low v_high v_tape v_line v_imagePins v_imageBars v_imageName v_imageLow v_imageHigh v_isKept v_to v_carries v_seen v_rank v_one v_other v_thought v_gone v_tied v_part v_lack v_down v_parts v_lacks v_downs v_sort v_items v_item v_carried v_first v_second)) h0 (c_X7_placeOf l D cI cZ cS a v_pins v_bars v_taped v_lined v_at v_fault v_name v_low v_high v_tape v_line v_imagePins v_imageBars v_imageName v_imageLow v_imageHigh v_isKept v_to v_carries v_seen v_rank v_one v_other v_thought v_gone v_tied v_part v_lack v_down v_parts v_lacks v_downs v_sort v_items v_item v_carried v_first v_second p1 p2 r3 hF) (gV wq_737 wq_739 wp_23 wq_8 wq_740) hdX7_placeOf ⟨Nat.le_of_ble_eq_true rfl, Nat.le_of_ble_eq_true rfl⟩ ⟨Nat.le_refl _, Nat.le_refl _⟩ hP hD hS hA 0 7 rfl rfl rfl hl.1 rfl (Nat.le_of_ble_eq_true rfl) dX7_bar_15 (fun H locs hP hD hS => ?_)
    refine lv_if_lt (tgt := 24) hx hb dX7_bar_18 (by decide) (fun c4 => ?_) (fun c4 => ?_)
    · have E := br_p E c4
      refine lv_aload_n hx hb dX7_bar_24 rfl (lv_at hl 0 rfl) ?_
      refine gf_X7_106 h0 hP 0 rfl rfl dX7_bar_25 ?_
      refine lv_bipush (v := 24) hx hb dX7_bar_28 (by decide) ?_
      refine lv_icmp_ne (tgt := 36) hx hb dX7_bar_30 (by decide) (fun c5 => ?_) (fun c5 => ?_)
      · have E := br_n E c5
        refine lv_aload_n hx hb dX7_bar_36 rfl (lv_at hl 0 rfl) ?_
        refine gf_X7_13 h0 hP 0 rfl rfl dX7_bar_37 ?_
        refine lv_aload_n hx hb dX7_bar_40 rfl (lv_at hl 0 rfl) ?_
        refine gf_X7_106 h0 hP 0 rfl rfl dX7_bar_41 ?_
        refine lv_iload_n hx hb dX7_bar_44 rfl (lv_at hl 1 rfl) ?_
        refine lv_iload_n hx hb dX7_bar_45 rfl (lv_at hl 2 rfl) ?_
        refine va_mmin hx hb (hml.trans hl.1.symm) hown (hts _ wq_741) (hts _ wq_285) (hts _ wq_9) (hts _ wq_286) (Nat.le_of_ble_eq_true rfl) (Nat.le_of_ble_eq_true rfl) (Nat.le_refl _) (Nat.le_refl _) dX7_bar_46 ?_
        obtain ⟨g6, E⟩ := gd_e E
        refine asti (wo := (wX7 cI cZ a v_pins v_bars v_taped v_lined v_at v_fault v_name (upd v_low v_bars.toNatClampNeg (if p2 < p1 then p2 else p1)) v_high v_tape v_line v_imagePins v_imageBars v_imageName v_imageLow v_imageHigh v_isKept v_to v_carries v_seen v_rank v_one v_other v_thought v_gone v_tied v_part v_lack v_down v_parts v_lacks v_downs v_sort v_items v_item v_carried v_first v_second)) hx hb hK hP hD hS 2 rfl rfl g6 rfl dX7_bar_49 (fun H locs hP hD hS => ?_)
        refine lv_aload_n hx hb dX7_bar_50 rfl (lv_at hl 0 rfl) ?_
        refine gf_X7_16 h0 hP 0 rfl rfl dX7_bar_51 ?_
        refine lv_aload_n hx hb dX7_bar_54 rfl (lv_at hl 0 rfl) ?_
        refine gf_X7_106 h0 hP 0 rfl rfl dX7_bar_55 ?_
        refine lv_iload_n hx hb dX7_bar_58 rfl (lv_at hl 1 rfl) ?_
        refine lv_iload_n hx hb dX7_bar_59 rfl (lv_at hl 2 rfl) ?_
        refine va_mmax hx hb (hml.trans hl.1.symm) hown (hts _ wq_742) (hts _ wq_288) (hts _ wq_9) (hts _ wq_289) (Nat.le_of_ble_eq_true rfl) (Nat.le_of_ble_eq_true rfl) (Nat.le_refl _) (Nat.le_refl _) dX7_bar_60 ?_
        obtain ⟨g7, E⟩ := gd_e E
        refine asti (wo := (wX7 cI cZ a v_pins v_bars v_taped v_lined v_at v_fault v_name (upd v_low v_bars.toNatClampNeg (if p2 < p1 then p2 else p1)) (upd v_high v_bars.toNatClampNeg (if p1 < p2 then p2 else p1)) v_tape v_line v_imagePins v_imageBars v_imageName v_imageLow v_imageHigh v_isKept v_to v_carries v_seen v_rank v_one v_other v_thought v_gone v_tied v_part v_lack v_down v_parts v_lacks v_downs v_sort v_items v_item v_carried v_first v_second)) hx hb hK hP hD hS 3 rfl rfl g7 rfl dX7_bar_63 (fun H locs hP hD hS => ?_)
        refine lv_aload_n hx hb dX7_bar_64 rfl (lv_at hl 0 rfl) ?_
        refine lv_dup hx hb dX7_bar_65 rfl ?_
        refine gf_X7_106 h0 hP 0 rfl rfl dX7_bar_66 ?_
        refine lv_iconst (v := 1) hx hb dX7_bar_69 (by decide) ?_
        refine lv_iadd hx hb dX7_bar_70 ?_
        refine pf_X7_106 (wo := (wX7 cI cZ a v_pins (v_bars + 1) v_taped v_lined v_at v_fault v_name (upd v_low v_bars.toNatClampNeg (if p2 < p1 then p2 else p1)) (upd v_high v_bars.toNatClampNeg (if p1 < p2 then p2 else p1)) v_tape v_line v_imagePins v_imageBars v_imageName v_imageLow v_imageHigh v_isKept v_to v_carries v_seen v_rank v_one v_other v_thought v_gone v_tied v_part v_lack v_down v_parts v_lacks v_downs v_sort v_items v_item v_carried v_first v_second)) h0 hP hD hS 0 rfl (Nat.le_of_ble_eq_true rfl) rfl dX7_bar_71 (fun H locs hP hD hS => ?_)
        refine lv_aload_n hx hb dX7_bar_74 rfl (lv_at hl 0 rfl) ?_
        refine gf_X7_106 h0 hP 0 rfl rfl dX7_bar_75 ?_
        refine lv_iconst (v := 1) hx hb dX7_bar_78 (by decide) ?_
        refine lv_isub hx hb dX7_bar_79 ?_
        exact hfin _ (Option.some.inj E) _ _ _ _ hP hD hS dX7_bar_80
      · have E := br_p E c5
        refine lv_bipush (v := (-4)) hx hb dX7_bar_33 (by decide) ?_
        exact hfin _ (Option.some.inj E) _ _ _ _ hP hD hS dX7_bar_35
    · have E := br_n E c4
      refine lv_bipush (v := (-3)) hx hb dX7_bar_21 (by decide) ?_
      exact hfin _ (Option.some.inj E) _ _ _ _ hP hD hS dX7_bar_23
  · have E := br_p E c2
    refine lv_bipush (v := (-2)) hx hb dX7_bar_9 (by decide) ?_
    exact hfin _ (Option.some.inj E) _ _ _ _ hP hD hS dX7_bar_11
theorem hdX7_off : yX7_off.cls = RX7 ∧ yX7_off.cls ≠ "java/lang/invoke/MethodHandle" ∧ yX7_off.cls ≠ "java/lang/invoke/VarHandle" ∧ (parseMethodDescriptor yX7_off.desc).map (fun d => d.parameters.length) = some 2 := by decide +kernel
noncomputable def FX7_off_b39 (p1 p2 v_pins : Int32)  (k39 : Int32 → Int32 → Int32 → (Nat → Int32) → (Nat → Int32) → Option (Int32 × Int32 × (Nat → Int32) × (Nat → Int32))) (l3 l4 v_bars : Int32) (v_low v_high : Nat → Int32) : Option (Int32 × Int32 × (Nat → Int32) × (Nat → Int32)) := (if v_bars ≤ l4 then (some (l3, v_bars, v_low, v_high)) else (gd (vp_in (l4 + 1) 24) (gd (vp_in l4 24) (gd (vp_in (l4 + 1) 24) (gd (vp_in l4 24) (k39 l3 (l4 + 1) v_bars (upd v_low l4.toNatClampNeg (v_low (l4 + 1).toNatClampNeg)) (upd v_high l4.toNatClampNeg (v_high (l4 + 1).toNatClampNeg))))))))
noncomputable def FX7_off_h39 (p1 p2 v_pins : Int32)  : Nat → Int32 → Int32 → Int32 → (Nat → Int32) → (Nat → Int32) → Option (Int32 × Int32 × (Nat → Int32) × (Nat → Int32))
  | 0 => fun _ _ _ _ _ => none
  | n + 1 => fun l3 l4 v_bars v_low v_high => FX7_off_b39 p1 p2 v_pins  (FX7_off_h39 p1 p2 v_pins  n) l3 l4 v_bars v_low v_high
noncomputable def FX7_off (p1 p2 : Int32) (v_pins v_bars : Int32) (v_low v_high : Nat → Int32) : Option (Int32 × Int32 × (Nat → Int32) × (Nat → Int32)) := ((FX7_areTwo p1 p2 v_pins).bind (fun r6 => (if r6 = 0 then (some ((-2), v_bars, v_low, v_high)) else ((FX7_placeOf p1 p2 v_bars v_low v_high).bind (fun r8 => (if 0 ≤ r8 then (FX7_off_h39 p1 p2 v_pins  5000 r8 r8 (v_bars - 1) v_low v_high) else (some ((-3), v_bars, v_low, v_high))))))))
set_option maxHeartbeats 4000000 in
set_option maxRecDepth 100000 in
theorem c_X7_off (l : Launch) (D : va_G) (cI cZ cS : ClassId) (a : Nat → Nat) (v_pins v_bars v_taped v_lined v_at v_fault : Int32) (v_name v_low v_high v_tape v_line : Nat → Int32) (v_imagePins v_imageBars : Int32) (v_imageName v_imageLow v_imageHigh : Nat → Int32) (v_isKept : Int32) (v_to v_carries : Nat → Int32) (v_seen v_rank : Int32) (v_one v_other : Nat → Int32) (v_thought v_gone : Int32) (v_tied v_part v_lack v_down : Nat → Int32) (v_parts v_lacks v_downs : Int32) (v_sort v_items v_item v_carried : Nat → Int32) (v_first v_second : Int32) (p1 p2 : Int32) (u : Int32 × Int32 × (Nat → Int32) × (Nat → Int32)) (hF : FX7_off p1 p2 v_pins v_bars v_low v_high = some u) : MCi l D (tyL cI cZ cS) yX7_off cX7_off 5 (some .int) 3 65 [.ref (a 0), .int p1, .int p2] (wX7 cI cZ a v_pins v_bars v_taped v_lined v_at v_fault v_name v_low v_high v_tape v_line v_imagePins v_imageBars v_imageName v_imageLow v_imageHigh v_isKept v_to v_carries v_seen v_rank v_one v_other v_thought v_gone v_tied v_part v_lack v_down v_parts v_lacks v_downs v_sort v_items v_item v_carried v_first v_second) (wX7 cI cZ a v_pins u.2.1 v_taped v_lined v_at v_fault v_name u.2.2.1 u.2.2.2 v_tape v_line v_imagePins v_imageBars v_imageName v_imageLow v_imageHigh v_isKept v_to v_carries v_seen v_rank v_one v_other v_thought v_gone v_tied v_part v_lack v_down v_parts v_lacks v_downs v_sort v_items v_item v_carried v_first v_second) u.1 := by
  refine MCi.mk (by decide) (Nat.le_of_ble_eq_true rfl) ?_
  intro p e s m args below meth c A ls Q h0 hP hD hA hS hl hfin0
  have hfin : ∀ (u' : Int32 × Int32 × (Nat → Int32) × (Nat → Int32)), u' = u → ∀ (H : Heap) (locs : List Loc) (ls : Array Slot) (pc : Nat), va_P D vwCl (wX7 cI cZ a v_pins u'.2.1 v_taped v_lined v_at v_fault v_name u'.2.2.1 u'.2.2.2 v_tape v_line v_imagePins v_imageBars v_imageName v_imageLow v_imageHigh v_isKept v_to v_carries v_seen v_rank v_one v_other v_thought v_gone v_tied v_part v_lack v_down v_parts v_lacks v_downs v_sort v_items v_item v_carried v_first v_second) H → va_D A (wX7 cI cZ a v_pins u'.2.1 v_taped v_lined v_at v_fault v_name u'.2.2.1 u'.2.2.2 v_tape v_line v_imagePins v_imageBars v_imageName v_imageLow v_imageHigh v_isKept v_to v_carries v_seen v_rank v_one v_other v_thought v_gone v_tied v_part v_lack v_down v_parts v_lacks v_downs v_sort v_items v_item v_carried v_first v_second) → va_S A s.heap H locs → decode cX7_off pc = .ok (.ireturn, 1) → W p l e (uR 3 65) s m args below meth c H locs 0 0 Q (F0 m pc ls [.int u'.1]) := by intro u' hu; subst hu; exact hfin0
  clear hfin0
  obtain ⟨hx, hb, hr, hlk, hml, hown, hts, hK⟩ := id h0
  have hl : lv_has ls 5 [(0, .ref (a 0)), (1, .int p1), (2, .int p2)] := hl
  have E := hF
  have J39 : ∀ (n39 : Nat) (l3 l4 v_bars : Int32) (v_low v_high : Nat → Int32) (H : Heap) (locs : List Loc) (ls : Array Slot), FX7_off_h39 p1 p2 v_pins  n39 l3 l4 v_bars v_low v_high = some u → va_P D vwCl (wX7 cI cZ a v_pins v_bars v_taped v_lined v_at v_fault v_name v_low v_high v_tape v_line v_imagePins v_imageBars v_imageName v_imageLow v_imageHigh v_isKept v_to v_carries v_seen v_rank v_one v_other v_thought v_gone v_tied v_part v_lack v_down v_parts v_lacks v_downs v_sort v_items v_item v_carried v_first v_second) H → va_D A (wX7 cI cZ a v_pins v_bars v_taped v_lined v_at v_fault v_name v_low v_high v_tape v_line v_imagePins v_imageBars v_imageName v_imageLow v_imageHigh v_isKept v_to v_carries v_seen v_rank v_one v_other v_thought v_gone v_tied v_part v_lack v_down v_parts v_lacks v_downs v_sort v_items v_item v_carried v_first v_second) → va_S A s.heap H locs → lv_has ls 5 [(0, .ref (a 0)), (3, .int l3), (4, .int l4)] → W p l e (uR 3 65) s m args below meth c H locs 0 0 Q (F0 m 39 ls []) := by
    intro n39
    induction n39 with
    | zero => intro l3 l4 v_bars v_low v_high H locs ls E; exact none_e E
    | succ n39 ih39 =>
      intro l3 l4 v_bars v_low v_high H locs ls E hP hD hS hl
      have E : FX7_off_b39 p1 p2 v_pins  (FX7_off_h39 p1 p2 v_pins  n39) l3 l4 v_bars v_low v_high = some u := E
      refine lv_iload hx hb dX7_off_39 (lv_at hl 2 rfl) ?_
      refine lv_aload_n hx hb dX7_off_41 rfl (lv_at hl 0 rfl) ?_
      refine gf_X7_106 h0 hP 0 rfl rfl dX7_off_42 ?_
      refine lv_icmp_ge (tgt := 86) hx hb dX7_off_45 (by decide) (fun c1 => ?_) (fun c1 => ?_)
      · have E := br_p E c1
        refine lv_iload_n hx hb dX7_off_86 rfl (lv_at hl 1 rfl) ?_
        exact hfin _ (Option.some.inj E) _ _ _ _ hP hD hS dX7_off_87
      · have E := br_n E c1
        refine lv_aload_n hx hb dX7_off_48 rfl (lv_at hl 0 rfl) ?_
        refine gf_X7_13 h0 hP 0 rfl rfl dX7_off_49 ?_
        refine lv_iload hx hb dX7_off_52 (lv_at hl 2 rfl) ?_
        refine lv_aload_n hx hb dX7_off_54 rfl (lv_at hl 0 rfl) ?_
        refine gf_X7_13 h0 hP 0 rfl rfl dX7_off_55 ?_
        refine lv_iload hx hb dX7_off_58 (lv_at hl 2 rfl) ?_
        refine lv_iconst (v := 1) hx hb dX7_off_60 (by decide) ?_
        refine lv_iadd hx hb dX7_off_61 ?_
        obtain ⟨g2, E⟩ := gd_e E
        refine aldi hx hb hK hP 2 rfl rfl g2 dX7_off_62 ?_
        obtain ⟨g3, E⟩ := gd_e E
        refine asti (wo := (wX7 cI cZ a v_pins v_bars v_taped v_lined v_at v_fault v_name (upd v_low l4.toNatClampNeg (v_low (l4 + 1).toNatClampNeg)) v_high v_tape v_line v_imagePins v_imageBars v_imageName v_imageLow v_imageHigh v_isKept v_to v_carries v_seen v_rank v_one v_other v_thought v_gone v_tied v_part v_lack v_down v_parts v_lacks v_downs v_sort v_items v_item v_carried v_first v_second)) hx hb hK hP hD hS 2 rfl rfl g3 rfl dX7_off_63 (fun H locs hP hD hS => ?_)
        refine lv_aload_n hx hb dX7_off_64 rfl (lv_at hl 0 rfl) ?_
        refine gf_X7_16 h0 hP 0 rfl rfl dX7_off_65 ?_
        refine lv_iload hx hb dX7_off_68 (lv_at hl 2 rfl) ?_
        refine lv_aload_n hx hb dX7_off_70 rfl (lv_at hl 0 rfl) ?_
        refine gf_X7_16 h0 hP 0 rfl rfl dX7_off_71 ?_
        refine lv_iload hx hb dX7_off_74 (lv_at hl 2 rfl) ?_
        refine lv_iconst (v := 1) hx hb dX7_off_76 (by decide) ?_
        refine lv_iadd hx hb dX7_off_77 ?_
        obtain ⟨g4, E⟩ := gd_e E
        refine aldi hx hb hK hP 3 rfl rfl g4 dX7_off_78 ?_
        obtain ⟨g5, E⟩ := gd_e E
        refine asti (wo := (wX7 cI cZ a v_pins v_bars v_taped v_lined v_at v_fault v_name (upd v_low l4.toNatClampNeg (v_low (l4 + 1).toNatClampNeg)) (upd v_high l4.toNatClampNeg (v_high (l4 + 1).toNatClampNeg)) v_tape v_line v_imagePins v_imageBars v_imageName v_imageLow v_imageHigh v_isKept v_to v_carries v_seen v_rank v_one v_other v_thought v_gone v_tied v_part v_lack v_down v_parts v_lacks v_downs v_sort v_items v_item v_carried v_first v_second)) hx hb hK hP hD hS 3 rfl rfl g5 rfl dX7_off_79 (fun H locs hP hD hS => ?_)
        refine lv_iinc (v := (l4 + 1)) (lv' := [(4, .int (l4 + 1)), (0, .ref (a 0)), (3, .int l3)]) hx hb dX7_off_80 hl (k := 2) rfl rfl (by decide) rfl (fun ls hl => ?_)
        refine lv_goto (tgt := 39) hx hb dX7_off_83 (by decide) ?_
        exact ih39 _ _ _ _ _ _ _ _ E hP hD hS (lv_sub hl [1, 2, 0] rfl)
  refine lv_aload_n hx hb dX7_off_0 rfl (lv_at hl 0 rfl) ?_
  refine lv_iload_n hx hb dX7_off_1 rfl (lv_at hl 1 rfl) ?_
  refine lv_iload_n hx hb dX7_off_2 rfl (lv_at hl 2 rfl) ?_
  obtain ⟨r6, hF, E⟩ := bn_e E
  refine callVfi (wo := (wX7 cI cZ a v_pins v_bars v_taped v_lined v_at v_fault v_name v_low v_high v_tape v_line v_imagePins v_imageBars v_imageName v_imageLow v_imageHigh v_isKept v_to v_carries v_seen v_rank v_one v_other v_thought v_gone v_tied v_part v_lack v_down v_parts v_lacks v_downs v_sort v_items v_item v_carried v_first v_second)) h0 (c_X7_areTwo l D cI cZ cS a v_pins v_bars v_taped v_lined v_at v_fault v_name v_low v_high v_tape v_line v_imagePins v_imageBars v_imageName v_imageLow v_imageHigh v_isKept v_to v_carries v_seen v_rank v_one v_other v_thought v_gone v_tied v_part v_lack v_down v_parts v_lacks v_downs v_sort v_items v_item v_carried v_first v_second p1 p2 r6 hF) (gV wq_726 wq_728 wp_21 wq_8 wq_729) hdX7_areTwo ⟨Nat.le_of_ble_eq_true rfl, Nat.le_of_ble_eq_true rfl⟩ ⟨Nat.le_refl _, Nat.le_refl _⟩ hP hD hS hA 0 7 rfl rfl rfl hl.1 rfl (Nat.le_of_ble_eq_true rfl) dX7_off_3 (fun H locs hP hD hS => ?_)
  refine lv_if_ne (tgt := 12) hx hb dX7_off_6 (by decide) (fun c7 => ?_) (fun c7 => ?_)
  · have E := br_n E c7
    refine lv_aload_n hx hb dX7_off_12 rfl (lv_at hl 0 rfl) ?_
    refine lv_iload_n hx hb dX7_off_13 rfl (lv_at hl 1 rfl) ?_
    refine lv_iload_n hx hb dX7_off_14 rfl (lv_at hl 2 rfl) ?_
    obtain ⟨r8, hF, E⟩ := bn_e E
    refine callVfi (wo := (wX7 cI cZ a v_pins v_bars v_taped v_lined v_at v_fault v_name v_low v_high v_tape v_line v_imagePins v_imageBars v_imageName v_imageLow v_imageHigh v_isKept v_to v_carries v_seen v_rank v_one v_other v_thought v_gone v_tied v_part v_lack v_down v_parts v_lacks v_downs v_sort v_items v_item v_carried v_first v_second)) h0 (c_X7_placeOf l D cI cZ cS a v_pins v_bars v_taped v_lined v_at v_fault v_name v_low v_high v_tape v_line v_imagePins v_imageBars v_imageName v_imageLow v_imageHigh v_isKept v_to v_carries v_seen v_rank v_one v_other v_thought v_gone v_tied v_part v_lack v_down v_parts v_lacks v_downs v_sort v_items v_item v_carried v_first v_second p1 p2 r8 hF) (gV wq_737 wq_739 wp_23 wq_8 wq_740) hdX7_placeOf ⟨Nat.le_of_ble_eq_true rfl, Nat.le_of_ble_eq_true rfl⟩ ⟨Nat.le_refl _, Nat.le_refl _⟩ hP hD hS hA 0 7 rfl rfl rfl hl.1 rfl (Nat.le_of_ble_eq_true rfl) dX7_off_15 (fun H locs hP hD hS => ?_)
    refine lv_istore_n (lv' := [(3, .int r8), (0, .ref (a 0)), (1, .int p1), (2, .int p2)]) hx hb dX7_off_18 rfl hl (by decide) rfl (fun ls hl => ?_)
    refine lv_iload_n hx hb dX7_off_19 rfl (lv_at hl 0 rfl) ?_
    refine lv_if_ge (tgt := 26) hx hb dX7_off_20 (by decide) (fun c9 => ?_) (fun c9 => ?_)
    · have E := br_p E c9
      refine lv_aload_n hx hb dX7_off_26 rfl (lv_at hl 1 rfl) ?_
      refine lv_dup hx hb dX7_off_27 rfl ?_
      refine gf_X7_106 h0 hP 0 rfl rfl dX7_off_28 ?_
      refine lv_iconst (v := 1) hx hb dX7_off_31 (by decide) ?_
      refine lv_isub hx hb dX7_off_32 ?_
      refine pf_X7_106 (wo := (wX7 cI cZ a v_pins (v_bars - 1) v_taped v_lined v_at v_fault v_name v_low v_high v_tape v_line v_imagePins v_imageBars v_imageName v_imageLow v_imageHigh v_isKept v_to v_carries v_seen v_rank v_one v_other v_thought v_gone v_tied v_part v_lack v_down v_parts v_lacks v_downs v_sort v_items v_item v_carried v_first v_second)) h0 hP hD hS 0 rfl (Nat.le_of_ble_eq_true rfl) rfl dX7_off_33 (fun H locs hP hD hS => ?_)
      refine lv_iload_n hx hb dX7_off_36 rfl (lv_at hl 0 rfl) ?_
      refine lv_istore (lv' := [(4, .int r8), (3, .int r8), (0, .ref (a 0)), (1, .int p1), (2, .int p2)]) hx hb dX7_off_37 hl (by decide) rfl (fun ls hl => ?_)
      exact J39 5000 _ _ _ _ _ _ _ _ E hP hD hS (lv_sub hl [2, 1, 0] rfl)
    · have E := br_n E c9
      refine lv_bipush (v := (-3)) hx hb dX7_off_23 (by decide) ?_
      exact hfin _ (Option.some.inj E) _ _ _ _ hP hD hS dX7_off_25
  · have E := br_p E c7
    refine lv_bipush (v := (-2)) hx hb dX7_off_9 (by decide) ?_
    exact hfin _ (Option.some.inj E) _ _ _ _ hP hD hS dX7_off_11
theorem hdX7_between : yX7_between.cls = RX7 ∧ yX7_between.cls ≠ "java/lang/invoke/MethodHandle" ∧ yX7_between.cls ≠ "java/lang/invoke/VarHandle" ∧ (parseMethodDescriptor yX7_between.desc).map (fun d => d.parameters.length) = some 2 := by decide +kernel
noncomputable def FX7_between (p1 p2 : Int32) (v_pins v_bars : Int32) (v_low v_high : Nat → Int32) : Option (Int32) := ((FX7_areTwo p1 p2 v_pins).bind (fun r1 => (if r1 = 0 then (some (-2)) else ((FX7_placeOf p1 p2 v_bars v_low v_high).bind (fun r3 => (some r3))))))
set_option maxHeartbeats 4000000 in
set_option maxRecDepth 100000 in
theorem c_X7_between (l : Launch) (D : va_G) (cI cZ cS : ClassId) (a : Nat → Nat) (v_pins v_bars v_taped v_lined v_at v_fault : Int32) (v_name v_low v_high v_tape v_line : Nat → Int32) (v_imagePins v_imageBars : Int32) (v_imageName v_imageLow v_imageHigh : Nat → Int32) (v_isKept : Int32) (v_to v_carries : Nat → Int32) (v_seen v_rank : Int32) (v_one v_other : Nat → Int32) (v_thought v_gone : Int32) (v_tied v_part v_lack v_down : Nat → Int32) (v_parts v_lacks v_downs : Int32) (v_sort v_items v_item v_carried : Nat → Int32) (v_first v_second : Int32) (p1 p2 : Int32) (u : Int32) (hF : FX7_between p1 p2 v_pins v_bars v_low v_high = some u) : MCi l D (tyL cI cZ cS) yX7_between cX7_between 3 (some .int) 3 65 [.ref (a 0), .int p1, .int p2] (wX7 cI cZ a v_pins v_bars v_taped v_lined v_at v_fault v_name v_low v_high v_tape v_line v_imagePins v_imageBars v_imageName v_imageLow v_imageHigh v_isKept v_to v_carries v_seen v_rank v_one v_other v_thought v_gone v_tied v_part v_lack v_down v_parts v_lacks v_downs v_sort v_items v_item v_carried v_first v_second) (wX7 cI cZ a v_pins v_bars v_taped v_lined v_at v_fault v_name v_low v_high v_tape v_line v_imagePins v_imageBars v_imageName v_imageLow v_imageHigh v_isKept v_to v_carries v_seen v_rank v_one v_other v_thought v_gone v_tied v_part v_lack v_down v_parts v_lacks v_downs v_sort v_items v_item v_carried v_first v_second) u := by
  refine MCi.mk (by decide) (Nat.le_of_ble_eq_true rfl) ?_
  intro p e s m args below meth c A ls Q h0 hP hD hA hS hl hfin0
  have hfin : ∀ (u' : Int32), u' = u → ∀ (H : Heap) (locs : List Loc) (ls : Array Slot) (pc : Nat), va_P D vwCl (wX7 cI cZ a v_pins v_bars v_taped v_lined v_at v_fault v_name v_low v_high v_tape v_line v_imagePins v_imageBars v_imageName v_imageLow v_imageHigh v_isKept v_to v_carries v_seen v_rank v_one v_other v_thought v_gone v_tied v_part v_lack v_down v_parts v_lacks v_downs v_sort v_items v_item v_carried v_first v_second) H → va_D A (wX7 cI cZ a v_pins v_bars v_taped v_lined v_at v_fault v_name v_low v_high v_tape v_line v_imagePins v_imageBars v_imageName v_imageLow v_imageHigh v_isKept v_to v_carries v_seen v_rank v_one v_other v_thought v_gone v_tied v_part v_lack v_down v_parts v_lacks v_downs v_sort v_items v_item v_carried v_first v_second) → va_S A s.heap H locs → decode cX7_between pc = .ok (.ireturn, 1) → W p l e (uR 3 65) s m args below meth c H locs 0 0 Q (F0 m pc ls [.int u']) := by intro u' hu; subst hu; exact hfin0
  clear hfin0
  obtain ⟨hx, hb, hr, hlk, hml, hown, hts, hK⟩ := id h0
  have hl : lv_has ls 3 [(0, .ref (a 0)), (1, .int p1), (2, .int p2)] := hl
  have E := hF
  refine lv_aload_n hx hb dX7_between_0 rfl (lv_at hl 0 rfl) ?_
  refine lv_iload_n hx hb dX7_between_1 rfl (lv_at hl 1 rfl) ?_
  refine lv_iload_n hx hb dX7_between_2 rfl (lv_at hl 2 rfl) ?_
  obtain ⟨r1, hF, E⟩ := bn_e E
  refine callVfi (wo := (wX7 cI cZ a v_pins v_bars v_taped v_lined v_at v_fault v_name v_low v_high v_tape v_line v_imagePins v_imageBars v_imageName v_imageLow v_imageHigh v_isKept v_to v_carries v_seen v_rank v_one v_other v_thought v_gone v_tied v_part v_lack v_down v_parts v_lacks v_downs v_sort v_items v_item v_carried v_first v_second)) h0 (c_X7_areTwo l D cI cZ cS a v_pins v_bars v_taped v_lined v_at v_fault v_name v_low v_high v_tape v_line v_imagePins v_imageBars v_imageName v_imageLow v_imageHigh v_isKept v_to v_carries v_seen v_rank v_one v_other v_thought v_gone v_tied v_part v_lack v_down v_parts v_lacks v_downs v_sort v_items v_item v_carried v_first v_second p1 p2 r1 hF) (gV wq_726 wq_728 wp_21 wq_8 wq_729) hdX7_areTwo ⟨Nat.le_of_ble_eq_true rfl, Nat.le_of_ble_eq_true rfl⟩ ⟨Nat.le_refl _, Nat.le_refl _⟩ hP hD hS hA 0 7 rfl rfl rfl hl.1 rfl (Nat.le_of_ble_eq_true rfl) dX7_between_3 (fun H locs hP hD hS => ?_)
  refine lv_if_eq (tgt := 18) hx hb dX7_between_6 (by decide) (fun c2 => ?_) (fun c2 => ?_)
  · have E := br_p E c2
    refine lv_bipush (v := (-2)) hx hb dX7_between_18 (by decide) ?_
    exact hfin _ (Option.some.inj E) _ _ _ _ hP hD hS dX7_between_20
  · have E := br_n E c2
    refine lv_aload_n hx hb dX7_between_9 rfl (lv_at hl 0 rfl) ?_
    refine lv_iload_n hx hb dX7_between_10 rfl (lv_at hl 1 rfl) ?_
    refine lv_iload_n hx hb dX7_between_11 rfl (lv_at hl 2 rfl) ?_
    obtain ⟨r3, hF, E⟩ := bn_e E
    refine callVfi (wo := (wX7 cI cZ a v_pins v_bars v_taped v_lined v_at v_fault v_name v_low v_high v_tape v_line v_imagePins v_imageBars v_imageName v_imageLow v_imageHigh v_isKept v_to v_carries v_seen v_rank v_one v_other v_thought v_gone v_tied v_part v_lack v_down v_parts v_lacks v_downs v_sort v_items v_item v_carried v_first v_second)) h0 (c_X7_placeOf l D cI cZ cS a v_pins v_bars v_taped v_lined v_at v_fault v_name v_low v_high v_tape v_line v_imagePins v_imageBars v_imageName v_imageLow v_imageHigh v_isKept v_to v_carries v_seen v_rank v_one v_other v_thought v_gone v_tied v_part v_lack v_down v_parts v_lacks v_downs v_sort v_items v_item v_carried v_first v_second p1 p2 r3 hF) (gV wq_737 wq_739 wp_23 wq_8 wq_740) hdX7_placeOf ⟨Nat.le_of_ble_eq_true rfl, Nat.le_of_ble_eq_true rfl⟩ ⟨Nat.le_refl _, Nat.le_refl _⟩ hP hD hS hA 0 7 rfl rfl rfl hl.1 rfl (Nat.le_of_ble_eq_true rfl) dX7_between_12 (fun H locs hP hD hS => ?_)
    refine lv_goto (tgt := 20) hx hb dX7_between_15 (by decide) ?_
    exact hfin _ (Option.some.inj E) _ _ _ _ hP hD hS dX7_between_20
theorem hdX7_ties : yX7_ties.cls = RX7 ∧ yX7_ties.cls ≠ "java/lang/invoke/MethodHandle" ∧ yX7_ties.cls ≠ "java/lang/invoke/VarHandle" ∧ (parseMethodDescriptor yX7_ties.desc).map (fun d => d.parameters.length) = some 0 := by decide +kernel
noncomputable def FX7_ties_b85 (v_pins v_bars : Int32) (v_low v_high : Nat → Int32) (k29 : Int32 → (Nat → Int32) → (Nat → Int32) → Int32 → Int32 → (Nat → Int32) → Option ((Nat → Int32) × (Nat → Int32) × Int32 × Int32 × (Nat → Int32))) (k41 : Int32 → Int32 → (Nat → Int32) → (Nat → Int32) → Int32 → Int32 → (Nat → Int32) → Option ((Nat → Int32) × (Nat → Int32) × Int32 × Int32 × (Nat → Int32))) (l1 l2 : Int32) (v_to v_carries : Nat → Int32) (v_seen v_rank : Int32) (v_tied : Nat → Int32) : Option ((Nat → Int32) × (Nat → Int32) × Int32 × Int32 × (Nat → Int32)) := (k41 l1 (l2 + 1) v_to v_carries v_seen v_rank v_tied)
noncomputable def FX7_ties_b41 (v_pins v_bars : Int32) (v_low v_high : Nat → Int32) (k29 : Int32 → (Nat → Int32) → (Nat → Int32) → Int32 → Int32 → (Nat → Int32) → Option ((Nat → Int32) × (Nat → Int32) × Int32 × Int32 × (Nat → Int32))) (k41 : Int32 → Int32 → (Nat → Int32) → (Nat → Int32) → Int32 → Int32 → (Nat → Int32) → Option ((Nat → Int32) × (Nat → Int32) × Int32 × Int32 × (Nat → Int32))) (l1 l2 : Int32) (v_to v_carries : Nat → Int32) (v_seen v_rank : Int32) (v_tied : Nat → Int32) : Option ((Nat → Int32) × (Nat → Int32) × Int32 × Int32 × (Nat → Int32)) := (if v_pins ≤ l2 then (k29 (l1 + 1) v_to v_carries v_seen v_rank v_tied) else ((FX7_brings l1 l2 v_to v_seen).bind (fun r2 => (if r2.1 = 0 then (gd (vp_in l1 12) (gd (vp_in l1 12) (gd (vp_in l2 12) (gd (vp_in l2 12) (FX7_ties_b85 v_pins v_bars v_low v_high k29 k41 l1 l2 r2.2.1 v_carries r2.2.2 v_rank (upd (upd v_tied l1.toNatClampNeg ((v_tied l1.toNatClampNeg) ||| ((1 : Int32) <<< (l2 &&& 31)))) l2.toNatClampNeg (((upd v_tied l1.toNatClampNeg ((v_tied l1.toNatClampNeg) ||| ((1 : Int32) <<< (l2 &&& 31)))) l2.toNatClampNeg) ||| ((1 : Int32) <<< (l1 &&& 31))))))))) else (FX7_ties_b85 v_pins v_bars v_low v_high k29 k41 l1 l2 r2.2.1 v_carries r2.2.2 v_rank v_tied)))))
noncomputable def FX7_ties_h41 (v_pins v_bars : Int32) (v_low v_high : Nat → Int32) (k29 : Int32 → (Nat → Int32) → (Nat → Int32) → Int32 → Int32 → (Nat → Int32) → Option ((Nat → Int32) × (Nat → Int32) × Int32 × Int32 × (Nat → Int32))) : Nat → Int32 → Int32 → (Nat → Int32) → (Nat → Int32) → Int32 → Int32 → (Nat → Int32) → Option ((Nat → Int32) × (Nat → Int32) × Int32 × Int32 × (Nat → Int32))
  | 0 => fun _ _ _ _ _ _ _ => none
  | n + 1 => fun l1 l2 v_to v_carries v_seen v_rank v_tied => FX7_ties_b41 v_pins v_bars v_low v_high k29 (FX7_ties_h41 v_pins v_bars v_low v_high k29 n) l1 l2 v_to v_carries v_seen v_rank v_tied
noncomputable def FX7_ties_b29 (v_pins v_bars : Int32) (v_low v_high : Nat → Int32)  (k29 : Int32 → (Nat → Int32) → (Nat → Int32) → Int32 → Int32 → (Nat → Int32) → Option ((Nat → Int32) × (Nat → Int32) × Int32 × Int32 × (Nat → Int32))) (l1 : Int32) (v_to v_carries : Nat → Int32) (v_seen v_rank : Int32) (v_tied : Nat → Int32) : Option ((Nat → Int32) × (Nat → Int32) × Int32 × Int32 × (Nat → Int32)) := (if v_pins ≤ l1 then (some (v_to, v_carries, v_seen, v_rank, v_tied)) else (FX7_ties_h41 v_pins v_bars v_low v_high k29 5000 l1 (l1 + 1) v_to v_carries v_seen v_rank v_tied))
noncomputable def FX7_ties_h29 (v_pins v_bars : Int32) (v_low v_high : Nat → Int32)  : Nat → Int32 → (Nat → Int32) → (Nat → Int32) → Int32 → Int32 → (Nat → Int32) → Option ((Nat → Int32) × (Nat → Int32) × Int32 × Int32 × (Nat → Int32))
  | 0 => fun _ _ _ _ _ _ => none
  | n + 1 => fun l1 v_to v_carries v_seen v_rank v_tied => FX7_ties_b29 v_pins v_bars v_low v_high  (FX7_ties_h29 v_pins v_bars v_low v_high  n) l1 v_to v_carries v_seen v_rank v_tied
noncomputable def FX7_ties_b6 (v_pins v_bars : Int32) (v_low v_high : Nat → Int32)  (k6 : Int32 → (Nat → Int32) → (Nat → Int32) → Int32 → Int32 → (Nat → Int32) → Option ((Nat → Int32) × (Nat → Int32) × Int32 × Int32 × (Nat → Int32))) (l1 : Int32) (v_to v_carries : Nat → Int32) (v_seen v_rank : Int32) (v_tied : Nat → Int32) : Option ((Nat → Int32) × (Nat → Int32) × Int32 × Int32 × (Nat → Int32)) := (if v_pins ≤ l1 then (FX7_ties_h29 v_pins v_bars v_low v_high  5000 0 v_to v_carries v_seen v_rank v_tied) else (gd (vp_in l1 12) (k6 (l1 + 1) v_to v_carries v_seen v_rank (upd v_tied l1.toNatClampNeg 0))))
noncomputable def FX7_ties_h6 (v_pins v_bars : Int32) (v_low v_high : Nat → Int32)  : Nat → Int32 → (Nat → Int32) → (Nat → Int32) → Int32 → Int32 → (Nat → Int32) → Option ((Nat → Int32) × (Nat → Int32) × Int32 × Int32 × (Nat → Int32))
  | 0 => fun _ _ _ _ _ _ => none
  | n + 1 => fun l1 v_to v_carries v_seen v_rank v_tied => FX7_ties_b6 v_pins v_bars v_low v_high  (FX7_ties_h6 v_pins v_bars v_low v_high  n) l1 v_to v_carries v_seen v_rank v_tied
noncomputable def FX7_ties (v_pins v_bars : Int32) (v_low v_high v_to v_carries : Nat → Int32) (v_seen v_rank : Int32) (v_tied : Nat → Int32) : Option ((Nat → Int32) × (Nat → Int32) × Int32 × Int32 × (Nat → Int32)) := ((FX7_carriesAll v_bars v_low v_high v_to v_carries v_seen v_rank).bind (fun r11 => (FX7_ties_h6 v_pins v_bars v_low v_high  5000 0 r11.1 r11.2.1 r11.2.2.1 r11.2.2.2 v_tied)))
set_option maxHeartbeats 4000000 in
set_option maxRecDepth 100000 in
theorem c_X7_ties (l : Launch) (D : va_G) (cI cZ cS : ClassId) (a : Nat → Nat) (v_pins v_bars v_taped v_lined v_at v_fault : Int32) (v_name v_low v_high v_tape v_line : Nat → Int32) (v_imagePins v_imageBars : Int32) (v_imageName v_imageLow v_imageHigh : Nat → Int32) (v_isKept : Int32) (v_to v_carries : Nat → Int32) (v_seen v_rank : Int32) (v_one v_other : Nat → Int32) (v_thought v_gone : Int32) (v_tied v_part v_lack v_down : Nat → Int32) (v_parts v_lacks v_downs : Int32) (v_sort v_items v_item v_carried : Nat → Int32) (v_first v_second : Int32)  (u : (Nat → Int32) × (Nat → Int32) × Int32 × Int32 × (Nat → Int32)) (hF : FX7_ties v_pins v_bars v_low v_high v_to v_carries v_seen v_rank v_tied = some u) : MCv l D (tyL cI cZ cS) yX7_ties cX7_ties 3 none 18 408 [.ref (a 0)] (wX7 cI cZ a v_pins v_bars v_taped v_lined v_at v_fault v_name v_low v_high v_tape v_line v_imagePins v_imageBars v_imageName v_imageLow v_imageHigh v_isKept v_to v_carries v_seen v_rank v_one v_other v_thought v_gone v_tied v_part v_lack v_down v_parts v_lacks v_downs v_sort v_items v_item v_carried v_first v_second) (wX7 cI cZ a v_pins v_bars v_taped v_lined v_at v_fault v_name v_low v_high v_tape v_line v_imagePins v_imageBars v_imageName v_imageLow v_imageHigh v_isKept u.1 u.2.1 u.2.2.1 u.2.2.2.1 v_one v_other v_thought v_gone u.2.2.2.2 v_part v_lack v_down v_parts v_lacks v_downs v_sort v_items v_item v_carried v_first v_second) := by
  refine MCv.mk (by decide) (Nat.le_of_ble_eq_true rfl) ?_
  intro p e s m args below meth c A ls Q h0 hP hD hA hS hl hfin0
  have hfin : ∀ (u' : (Nat → Int32) × (Nat → Int32) × Int32 × Int32 × (Nat → Int32)), u' = u → ∀ (H : Heap) (locs : List Loc) (ls : Array Slot) (pc : Nat), va_P D vwCl (wX7 cI cZ a v_pins v_bars v_taped v_lined v_at v_fault v_name v_low v_high v_tape v_line v_imagePins v_imageBars v_imageName v_imageLow v_imageHigh v_isKept u'.1 u'.2.1 u'.2.2.1 u'.2.2.2.1 v_one v_other v_thought v_gone u'.2.2.2.2 v_part v_lack v_down v_parts v_lacks v_downs v_sort v_items v_item v_carried v_first v_second) H → va_D A (wX7 cI cZ a v_pins v_bars v_taped v_lined v_at v_fault v_name v_low v_high v_tape v_line v_imagePins v_imageBars v_imageName v_imageLow v_imageHigh v_isKept u'.1 u'.2.1 u'.2.2.1 u'.2.2.2.1 v_one v_other v_thought v_gone u'.2.2.2.2 v_part v_lack v_down v_parts v_lacks v_downs v_sort v_items v_item v_carried v_first v_second) → va_S A s.heap H locs → decode cX7_ties pc = .ok (.return_, 1) → W p l e (uR 18 408) s m args below meth c H locs 0 0 Q (F0 m pc ls []) := by intro u' hu; subst hu; exact hfin0
  clear hfin0
  obtain ⟨hx, hb, hr, hlk, hml, hown, hts, hK⟩ := id h0
  have hl : lv_has ls 3 [(0, .ref (a 0))] := hl
  have E := hF
  have J29 : ∀ (n29 : Nat) (l1 : Int32) (v_to v_carries : Nat → Int32) (v_seen v_rank : Int32) (v_tied : Nat → Int32) (H : Heap) (locs : List Loc) (ls : Array Slot), FX7_ties_h29 v_pins v_bars v_low v_high  n29 l1 v_to v_carries v_seen v_rank v_tied = some u → va_P D vwCl (wX7 cI cZ a v_pins v_bars v_taped v_lined v_at v_fault v_name v_low v_high v_tape v_line v_imagePins v_imageBars v_imageName v_imageLow v_imageHigh v_isKept v_to v_carries v_seen v_rank v_one v_other v_thought v_gone v_tied v_part v_lack v_down v_parts v_lacks v_downs v_sort v_items v_item v_carried v_first v_second) H → va_D A (wX7 cI cZ a v_pins v_bars v_taped v_lined v_at v_fault v_name v_low v_high v_tape v_line v_imagePins v_imageBars v_imageName v_imageLow v_imageHigh v_isKept v_to v_carries v_seen v_rank v_one v_other v_thought v_gone v_tied v_part v_lack v_down v_parts v_lacks v_downs v_sort v_items v_item v_carried v_first v_second) → va_S A s.heap H locs → lv_has ls 3 [(0, .ref (a 0)), (1, .int l1)] → W p l e (uR 18 408) s m args below meth c H locs 0 0 Q (F0 m 29 ls []) := by
    intro n29
    induction n29 with
    | zero => intro l1 v_to v_carries v_seen v_rank v_tied H locs ls E; exact none_e E
    | succ n29 ih29 =>
      intro l1 v_to v_carries v_seen v_rank v_tied H locs ls E hP hD hS hl
      have E : FX7_ties_b29 v_pins v_bars v_low v_high  (FX7_ties_h29 v_pins v_bars v_low v_high  n29) l1 v_to v_carries v_seen v_rank v_tied = some u := E
      have J41 : ∀ (n41 : Nat) (l1 l2 : Int32) (v_to v_carries : Nat → Int32) (v_seen v_rank : Int32) (v_tied : Nat → Int32) (H : Heap) (locs : List Loc) (ls : Array Slot), FX7_ties_h41 v_pins v_bars v_low v_high (FX7_ties_h29 v_pins v_bars v_low v_high  n29) n41 l1 l2 v_to v_carries v_seen v_rank v_tied = some u → va_P D vwCl (wX7 cI cZ a v_pins v_bars v_taped v_lined v_at v_fault v_name v_low v_high v_tape v_line v_imagePins v_imageBars v_imageName v_imageLow v_imageHigh v_isKept v_to v_carries v_seen v_rank v_one v_other v_thought v_gone v_tied v_part v_lack v_down v_parts v_lacks v_downs v_sort v_items v_item v_carried v_first v_second) H → va_D A (wX7 cI cZ a v_pins v_bars v_taped v_lined v_at v_fault v_name v_low v_high v_tape v_line v_imagePins v_imageBars v_imageName v_imageLow v_imageHigh v_isKept v_to v_carries v_seen v_rank v_one v_other v_thought v_gone v_tied v_part v_lack v_down v_parts v_lacks v_downs v_sort v_items v_item v_carried v_first v_second) → va_S A s.heap H locs → lv_has ls 3 [(0, .ref (a 0)), (1, .int l1), (2, .int l2)] → W p l e (uR 18 408) s m args below meth c H locs 0 0 Q (F0 m 41 ls []) := by
        intro n41
        induction n41 with
        | zero => intro l1 l2 v_to v_carries v_seen v_rank v_tied H locs ls E; exact none_e E
        | succ n41 ih41 =>
          intro l1 l2 v_to v_carries v_seen v_rank v_tied H locs ls E hP hD hS hl
          have E : FX7_ties_b41 v_pins v_bars v_low v_high (FX7_ties_h29 v_pins v_bars v_low v_high  n29) (FX7_ties_h41 v_pins v_bars v_low v_high (FX7_ties_h29 v_pins v_bars v_low v_high  n29) n41) l1 l2 v_to v_carries v_seen v_rank v_tied = some u := E
          have J85 : ∀ (l1 l2 : Int32) (v_to v_carries : Nat → Int32) (v_seen v_rank : Int32) (v_tied : Nat → Int32) (H : Heap) (locs : List Loc) (ls : Array Slot), FX7_ties_b85 v_pins v_bars v_low v_high (FX7_ties_h29 v_pins v_bars v_low v_high  n29) (FX7_ties_h41 v_pins v_bars v_low v_high (FX7_ties_h29 v_pins v_bars v_low v_high  n29) n41) l1 l2 v_to v_carries v_seen v_rank v_tied = some u → va_P D vwCl (wX7 cI cZ a v_pins v_bars v_taped v_lined v_at v_fault v_name v_low v_high v_tape v_line v_imagePins v_imageBars v_imageName v_imageLow v_imageHigh v_isKept v_to v_carries v_seen v_rank v_one v_other v_thought v_gone v_tied v_part v_lack v_down v_parts v_lacks v_downs v_sort v_items v_item v_carried v_first v_second) H → va_D A (wX7 cI cZ a v_pins v_bars v_taped v_lined v_at v_fault v_name v_low v_high v_tape v_line v_imagePins v_imageBars v_imageName v_imageLow v_imageHigh v_isKept v_to v_carries v_seen v_rank v_one v_other v_thought v_gone v_tied v_part v_lack v_down v_parts v_lacks v_downs v_sort v_items v_item v_carried v_first v_second) → va_S A s.heap H locs → lv_has ls 3 [(0, .ref (a 0)), (1, .int l1), (2, .int l2)] → W p l e (uR 18 408) s m args below meth c H locs 0 0 Q (F0 m 85 ls []) := by
            intro l1 l2 v_to v_carries v_seen v_rank v_tied H locs ls E hP hD hS hl
            refine lv_iinc (v := (l2 + 1)) (lv' := [(2, .int (l2 + 1)), (0, .ref (a 0)), (1, .int l1)]) hx hb dX7_ties_85 hl (k := 2) rfl rfl (by decide) rfl (fun ls hl => ?_)
            refine lv_goto (tgt := 41) hx hb dX7_ties_88 (by decide) ?_
            exact ih41 _ _ _ _ _ _ _ _ _ _ E hP hD hS (lv_sub hl [1, 2, 0] rfl)
          refine lv_iload_n hx hb dX7_ties_41 rfl (lv_at hl 2 rfl) ?_
          refine lv_aload_n hx hb dX7_ties_42 rfl (lv_at hl 0 rfl) ?_
          refine gf_X7_71 h0 hP 0 rfl rfl dX7_ties_43 ?_
          refine lv_icmp_ge (tgt := 91) hx hb dX7_ties_46 (by decide) (fun c1 => ?_) (fun c1 => ?_)
          · have E := br_p E c1
            refine lv_iinc (v := (l1 + 1)) (lv' := [(1, .int (l1 + 1)), (0, .ref (a 0)), (2, .int l2)]) hx hb dX7_ties_91 hl (k := 1) rfl rfl (by decide) rfl (fun ls hl => ?_)
            refine lv_goto (tgt := 29) hx hb dX7_ties_94 (by decide) ?_
            exact ih29 _ _ _ _ _ _ _ _ _ E hP hD hS (lv_sub hl [1, 0] rfl)
          · have E := br_n E c1
            refine lv_aload_n hx hb dX7_ties_49 rfl (lv_at hl 0 rfl) ?_
            refine lv_iload_n hx hb dX7_ties_50 rfl (lv_at hl 1 rfl) ?_
            refine lv_iload_n hx hb dX7_ties_51 rfl (lv_at hl 2 rfl) ?_
            obtain ⟨r2, hF, E⟩ := bn_e E
            refine callVfi (wo := (wX7 cI cZ a v_pins v_bars v_taped v_lined v_at v_fault v_name v_low v_high v_tape v_line v_imagePins v_imageBars v_imageName v_imageLow v_imageHigh v_isKept r2.2.1 v_carries r2.2.2 v_rank v_one v_other v_thought v_gone v_tied v_part v_lack v_down v_parts v_lacks v_downs v_sort v_items v_item v_carried v_first v_second)) h0 (c_X7_brings l D cI cZ cS a v_pins v_bars v_taped v_lined v_at v_fault v_name v_low v_high v_tape v_line v_imagePins v_imageBars v_imageName v_imageLow v_imageHigh v_isKept v_to v_carries v_seen v_rank v_one v_other v_thought v_gone v_tied v_part v_lack v_down v_parts v_lacks v_downs v_sort v_items v_item v_carried v_first v_second l1 l2 r2 hF) (gV wq_771 wq_773 wp_28 wq_8 wq_774) hdX7_brings ⟨Nat.le_of_ble_eq_true rfl, Nat.le_of_ble_eq_true rfl⟩ ⟨Nat.le_refl _, Nat.le_refl _⟩ hP hD hS hA 0 7 rfl rfl rfl hl.1 rfl (Nat.le_of_ble_eq_true rfl) dX7_ties_52 (fun H locs hP hD hS => ?_)
            refine lv_if_eq (tgt := 61) hx hb dX7_ties_55 (by decide) (fun c3 => ?_) (fun c3 => ?_)
            · have E := br_p E c3
              refine lv_aload_n hx hb dX7_ties_61 rfl (lv_at hl 0 rfl) ?_
              refine gf_X7_47 h0 hP 0 rfl rfl dX7_ties_62 ?_
              refine lv_iload_n hx hb dX7_ties_65 rfl (lv_at hl 1 rfl) ?_
              refine lv_dup2_11 hx hb dX7_ties_66 rfl rfl ?_
              obtain ⟨g4, E⟩ := gd_e E
              refine aldi hx hb hK hP 13 rfl rfl g4 dX7_ties_67 ?_
              refine lv_iconst (v := 1) hx hb dX7_ties_68 (by decide) ?_
              refine lv_iload_n hx hb dX7_ties_69 rfl (lv_at hl 2 rfl) ?_
              refine lv_ishl hx hb dX7_ties_70 ?_
              refine lv_ior hx hb dX7_ties_71 ?_
              obtain ⟨g5, E⟩ := gd_e E
              refine asti (wo := (wX7 cI cZ a v_pins v_bars v_taped v_lined v_at v_fault v_name v_low v_high v_tape v_line v_imagePins v_imageBars v_imageName v_imageLow v_imageHigh v_isKept r2.2.1 v_carries r2.2.2 v_rank v_one v_other v_thought v_gone (upd v_tied l1.toNatClampNeg ((v_tied l1.toNatClampNeg) ||| ((1 : Int32) <<< (l2 &&& 31)))) v_part v_lack v_down v_parts v_lacks v_downs v_sort v_items v_item v_carried v_first v_second)) hx hb hK hP hD hS 13 rfl rfl g5 rfl dX7_ties_72 (fun H locs hP hD hS => ?_)
              refine lv_aload_n hx hb dX7_ties_73 rfl (lv_at hl 0 rfl) ?_
              refine gf_X7_47 h0 hP 0 rfl rfl dX7_ties_74 ?_
              refine lv_iload_n hx hb dX7_ties_77 rfl (lv_at hl 2 rfl) ?_
              refine lv_dup2_11 hx hb dX7_ties_78 rfl rfl ?_
              obtain ⟨g6, E⟩ := gd_e E
              refine aldi hx hb hK hP 13 rfl rfl g6 dX7_ties_79 ?_
              refine lv_iconst (v := 1) hx hb dX7_ties_80 (by decide) ?_
              refine lv_iload_n hx hb dX7_ties_81 rfl (lv_at hl 1 rfl) ?_
              refine lv_ishl hx hb dX7_ties_82 ?_
              refine lv_ior hx hb dX7_ties_83 ?_
              obtain ⟨g7, E⟩ := gd_e E
              refine asti (wo := (wX7 cI cZ a v_pins v_bars v_taped v_lined v_at v_fault v_name v_low v_high v_tape v_line v_imagePins v_imageBars v_imageName v_imageLow v_imageHigh v_isKept r2.2.1 v_carries r2.2.2 v_rank v_one v_other v_thought v_gone (upd (upd v_tied l1.toNatClampNeg ((v_tied l1.toNatClampNeg) ||| ((1 : Int32) <<< (l2 &&& 31)))) l2.toNatClampNeg (((upd v_tied l1.toNatClampNeg ((v_tied l1.toNatClampNeg) ||| ((1 : Int32) <<< (l2 &&& 31)))) l2.toNatClampNeg) ||| ((1 : Int32) <<< (l1 &&& 31)))) v_part v_lack v_down v_parts v_lacks v_downs v_sort v_items v_item v_carried v_first v_second)) hx hb hK hP hD hS 13 rfl rfl g7 rfl dX7_ties_84 (fun H locs hP hD hS => ?_)
              exact J85 _ _ _ _ _ _ _ _ _ _ E hP hD hS (lv_sub hl [0, 1, 2] rfl)
            · have E := br_n E c3
              refine lv_goto (tgt := 85) hx hb dX7_ties_58 (by decide) ?_
              exact J85 _ _ _ _ _ _ _ _ _ _ E hP hD hS (lv_sub hl [0, 1, 2] rfl)
      refine lv_iload_n hx hb dX7_ties_29 rfl (lv_at hl 1 rfl) ?_
      refine lv_aload_n hx hb dX7_ties_30 rfl (lv_at hl 0 rfl) ?_
      refine gf_X7_71 h0 hP 0 rfl rfl dX7_ties_31 ?_
      refine lv_icmp_ge (tgt := 97) hx hb dX7_ties_34 (by decide) (fun c8 => ?_) (fun c8 => ?_)
      · have E := br_p E c8
        exact hfin _ (Option.some.inj E) _ _ _ _ hP hD hS dX7_ties_97
      · have E := br_n E c8
        refine lv_iload_n hx hb dX7_ties_37 rfl (lv_at hl 1 rfl) ?_
        refine lv_iconst (v := 1) hx hb dX7_ties_38 (by decide) ?_
        refine lv_iadd hx hb dX7_ties_39 ?_
        refine lv_istore_n (lv' := [(2, .int (l1 + 1)), (0, .ref (a 0)), (1, .int l1)]) hx hb dX7_ties_40 rfl hl (by decide) rfl (fun ls hl => ?_)
        exact J41 5000 _ _ _ _ _ _ _ _ _ _ E hP hD hS (lv_sub hl [1, 2, 0] rfl)
  have J6 : ∀ (n6 : Nat) (l1 : Int32) (v_to v_carries : Nat → Int32) (v_seen v_rank : Int32) (v_tied : Nat → Int32) (H : Heap) (locs : List Loc) (ls : Array Slot), FX7_ties_h6 v_pins v_bars v_low v_high  n6 l1 v_to v_carries v_seen v_rank v_tied = some u → va_P D vwCl (wX7 cI cZ a v_pins v_bars v_taped v_lined v_at v_fault v_name v_low v_high v_tape v_line v_imagePins v_imageBars v_imageName v_imageLow v_imageHigh v_isKept v_to v_carries v_seen v_rank v_one v_other v_thought v_gone v_tied v_part v_lack v_down v_parts v_lacks v_downs v_sort v_items v_item v_carried v_first v_second) H → va_D A (wX7 cI cZ a v_pins v_bars v_taped v_lined v_at v_fault v_name v_low v_high v_tape v_line v_imagePins v_imageBars v_imageName v_imageLow v_imageHigh v_isKept v_to v_carries v_seen v_rank v_one v_other v_thought v_gone v_tied v_part v_lack v_down v_parts v_lacks v_downs v_sort v_items v_item v_carried v_first v_second) → va_S A s.heap H locs → lv_has ls 3 [(0, .ref (a 0)), (1, .int l1)] → W p l e (uR 18 408) s m args below meth c H locs 0 0 Q (F0 m 6 ls []) := by
    intro n6
    induction n6 with
    | zero => intro l1 v_to v_carries v_seen v_rank v_tied H locs ls E; exact none_e E
    | succ n6 ih6 =>
      intro l1 v_to v_carries v_seen v_rank v_tied H locs ls E hP hD hS hl
      have E : FX7_ties_b6 v_pins v_bars v_low v_high  (FX7_ties_h6 v_pins v_bars v_low v_high  n6) l1 v_to v_carries v_seen v_rank v_tied = some u := E
      refine lv_iload_n hx hb dX7_ties_6 rfl (lv_at hl 1 rfl) ?_
      refine lv_aload_n hx hb dX7_ties_7 rfl (lv_at hl 0 rfl) ?_
      refine gf_X7_71 h0 hP 0 rfl rfl dX7_ties_8 ?_
      refine lv_icmp_ge (tgt := 27) hx hb dX7_ties_11 (by decide) (fun c9 => ?_) (fun c9 => ?_)
      · have E := br_p E c9
        refine lv_iconst (v := 0) hx hb dX7_ties_27 (by decide) ?_
        refine lv_istore_n (lv' := [(1, .int 0), (0, .ref (a 0))]) hx hb dX7_ties_28 rfl hl (by decide) rfl (fun ls hl => ?_)
        exact J29 5000 _ _ _ _ _ _ _ _ _ E hP hD hS (lv_sub hl [1, 0] rfl)
      · have E := br_n E c9
        refine lv_aload_n hx hb dX7_ties_14 rfl (lv_at hl 0 rfl) ?_
        refine gf_X7_47 h0 hP 0 rfl rfl dX7_ties_15 ?_
        refine lv_iload_n hx hb dX7_ties_18 rfl (lv_at hl 1 rfl) ?_
        refine lv_iconst (v := 0) hx hb dX7_ties_19 (by decide) ?_
        obtain ⟨g10, E⟩ := gd_e E
        refine asti (wo := (wX7 cI cZ a v_pins v_bars v_taped v_lined v_at v_fault v_name v_low v_high v_tape v_line v_imagePins v_imageBars v_imageName v_imageLow v_imageHigh v_isKept v_to v_carries v_seen v_rank v_one v_other v_thought v_gone (upd v_tied l1.toNatClampNeg 0) v_part v_lack v_down v_parts v_lacks v_downs v_sort v_items v_item v_carried v_first v_second)) hx hb hK hP hD hS 13 rfl rfl g10 rfl dX7_ties_20 (fun H locs hP hD hS => ?_)
        refine lv_iinc (v := (l1 + 1)) (lv' := [(1, .int (l1 + 1)), (0, .ref (a 0))]) hx hb dX7_ties_21 hl (k := 1) rfl rfl (by decide) rfl (fun ls hl => ?_)
        refine lv_goto (tgt := 6) hx hb dX7_ties_24 (by decide) ?_
        exact ih6 _ _ _ _ _ _ _ _ _ E hP hD hS (lv_sub hl [1, 0] rfl)
  refine lv_aload_n hx hb dX7_ties_0 rfl (lv_at hl 0 rfl) ?_
  obtain ⟨r11, hF, E⟩ := bn_e E
  refine callVfv (wo := (wX7 cI cZ a v_pins v_bars v_taped v_lined v_at v_fault v_name v_low v_high v_tape v_line v_imagePins v_imageBars v_imageName v_imageLow v_imageHigh v_isKept r11.1 r11.2.1 r11.2.2.1 r11.2.2.2 v_one v_other v_thought v_gone v_tied v_part v_lack v_down v_parts v_lacks v_downs v_sort v_items v_item v_carried v_first v_second)) h0 (c_X7_carriesAll l D cI cZ cS a v_pins v_bars v_taped v_lined v_at v_fault v_name v_low v_high v_tape v_line v_imagePins v_imageBars v_imageName v_imageLow v_imageHigh v_isKept v_to v_carries v_seen v_rank v_one v_other v_thought v_gone v_tied v_part v_lack v_down v_parts v_lacks v_downs v_sort v_items v_item v_carried v_first v_second r11 hF) (gV wq_759 wq_761 wp_25 wq_8 wq_762) hdX7_carriesAll ⟨Nat.le_of_ble_eq_true rfl, Nat.le_of_ble_eq_true rfl⟩ ⟨Nat.le_refl _, Nat.le_refl _⟩ hP hD hS hA 0 7 rfl rfl rfl hl.1 rfl (Nat.le_of_ble_eq_true rfl) dX7_ties_1 (fun H locs hP hD hS => ?_)
  refine lv_iconst (v := 0) hx hb dX7_ties_4 (by decide) ?_
  refine lv_istore_n (lv' := [(1, .int 0), (0, .ref (a 0))]) hx hb dX7_ties_5 rfl hl (by decide) rfl (fun ls hl => ?_)
  exact J6 5000 _ _ _ _ _ _ _ _ _ E hP hD hS (lv_sub hl [1, 0] rfl)
theorem hdX7_finds : yX7_finds.cls = RX7 ∧ yX7_finds.cls ≠ "java/lang/invoke/MethodHandle" ∧ yX7_finds.cls ≠ "java/lang/invoke/VarHandle" ∧ (parseMethodDescriptor yX7_finds.desc).map (fun d => d.parameters.length) = some 0 := by decide +kernel
noncomputable def FX7_finds_b177 (v_pins v_bars : Int32) (v_low v_high : Nat → Int32) (k11 : Int32 → (Nat → Int32) → (Nat → Int32) → Int32 → Int32 → (Nat → Int32) → (Nat → Int32) → Int32 → Option ((Nat → Int32) × (Nat → Int32) × Int32 × Int32 × (Nat → Int32) × (Nat → Int32) × Int32)) (k23 : Int32 → Int32 → (Nat → Int32) → (Nat → Int32) → Int32 → Int32 → (Nat → Int32) → (Nat → Int32) → Int32 → Option ((Nat → Int32) × (Nat → Int32) × Int32 × Int32 × (Nat → Int32) × (Nat → Int32) × Int32)) (l1 l2 : Int32) (v_to v_carries : Nat → Int32) (v_seen v_rank : Int32) (v_tied v_part : Nat → Int32) (v_parts : Int32) : Option ((Nat → Int32) × (Nat → Int32) × Int32 × Int32 × (Nat → Int32) × (Nat → Int32) × Int32) := (k23 l1 (l2 + 1) v_to v_carries v_seen v_rank v_tied v_part v_parts)
noncomputable def FX7_finds_b142 (v_pins v_bars : Int32) (v_low v_high : Nat → Int32) (k11 : Int32 → (Nat → Int32) → (Nat → Int32) → Int32 → Int32 → (Nat → Int32) → (Nat → Int32) → Int32 → Option ((Nat → Int32) × (Nat → Int32) × Int32 × Int32 × (Nat → Int32) × (Nat → Int32) × Int32)) (k23 : Int32 → Int32 → (Nat → Int32) → (Nat → Int32) → Int32 → Int32 → (Nat → Int32) → (Nat → Int32) → Int32 → Option ((Nat → Int32) × (Nat → Int32) × Int32 × Int32 × (Nat → Int32) × (Nat → Int32) × Int32)) (k76 : Int32 → Int32 → Int32 → Int32 → Int32 → Int32 → (Nat → Int32) → (Nat → Int32) → Int32 → Int32 → (Nat → Int32) → (Nat → Int32) → Int32 → Option ((Nat → Int32) × (Nat → Int32) × Int32 × Int32 × (Nat → Int32) × (Nat → Int32) × Int32)) (l1 l2 l3 l4 l5 l6 : Int32) (v_to v_carries : Nat → Int32) (v_seen v_rank : Int32) (v_tied v_part : Nat → Int32) (v_parts : Int32) : Option ((Nat → Int32) × (Nat → Int32) × Int32 × Int32 × (Nat → Int32) × (Nat → Int32) × Int32) := (k76 l1 l2 l3 l4 l5 (l6 + 1) v_to v_carries v_seen v_rank v_tied v_part v_parts)
noncomputable def FX7_finds_b139 (v_pins v_bars : Int32) (v_low v_high : Nat → Int32) (k11 : Int32 → (Nat → Int32) → (Nat → Int32) → Int32 → Int32 → (Nat → Int32) → (Nat → Int32) → Int32 → Option ((Nat → Int32) × (Nat → Int32) × Int32 × Int32 × (Nat → Int32) × (Nat → Int32) × Int32)) (k23 : Int32 → Int32 → (Nat → Int32) → (Nat → Int32) → Int32 → Int32 → (Nat → Int32) → (Nat → Int32) → Int32 → Option ((Nat → Int32) × (Nat → Int32) × Int32 × Int32 × (Nat → Int32) × (Nat → Int32) × Int32)) (k76 : Int32 → Int32 → Int32 → Int32 → Int32 → Int32 → (Nat → Int32) → (Nat → Int32) → Int32 → Int32 → (Nat → Int32) → (Nat → Int32) → Int32 → Option ((Nat → Int32) × (Nat → Int32) × Int32 × Int32 × (Nat → Int32) × (Nat → Int32) × Int32)) (l1 l2 l3 l4 l6 t0 t1 : Int32) (v_to v_carries : Nat → Int32) (v_seen v_rank : Int32) (v_tied v_part : Nat → Int32) (v_parts : Int32) : Option ((Nat → Int32) × (Nat → Int32) × Int32 × Int32 × (Nat → Int32) × (Nat → Int32) × Int32) := (FX7_finds_b142 v_pins v_bars v_low v_high k11 k23 k76 l1 l2 l3 l4 (t0 &&& t1) l6 v_to v_carries v_seen v_rank v_tied v_part v_parts)
noncomputable def FX7_finds_b76 (v_pins v_bars : Int32) (v_low v_high : Nat → Int32) (k11 : Int32 → (Nat → Int32) → (Nat → Int32) → Int32 → Int32 → (Nat → Int32) → (Nat → Int32) → Int32 → Option ((Nat → Int32) × (Nat → Int32) × Int32 × Int32 × (Nat → Int32) × (Nat → Int32) × Int32)) (k23 : Int32 → Int32 → (Nat → Int32) → (Nat → Int32) → Int32 → Int32 → (Nat → Int32) → (Nat → Int32) → Int32 → Option ((Nat → Int32) × (Nat → Int32) × Int32 × Int32 × (Nat → Int32) × (Nat → Int32) × Int32)) (k76 : Int32 → Int32 → Int32 → Int32 → Int32 → Int32 → (Nat → Int32) → (Nat → Int32) → Int32 → Int32 → (Nat → Int32) → (Nat → Int32) → Int32 → Option ((Nat → Int32) × (Nat → Int32) × Int32 × Int32 × (Nat → Int32) × (Nat → Int32) × Int32)) (l1 l2 l3 l4 l5 l6 : Int32) (v_to v_carries : Nat → Int32) (v_seen v_rank : Int32) (v_tied v_part : Nat → Int32) (v_parts : Int32) : Option ((Nat → Int32) × (Nat → Int32) × Int32 × Int32 × (Nat → Int32) × (Nat → Int32) × Int32) := (if v_pins ≤ l6 then (if l5 = 0 then (FX7_finds_b177 v_pins v_bars v_low v_high k11 k23 l1 l2 v_to v_carries v_seen v_rank v_tied v_part v_parts) else (gd (vp_in v_parts 144) (FX7_finds_b177 v_pins v_bars v_low v_high k11 k23 l1 l2 v_to v_carries v_seen v_rank v_tied (upd v_part v_parts.toNatClampNeg l4) (v_parts + 1)))) else (if ((l3 >>> (l6 &&& 31)) &&& 1) = 0 then (FX7_finds_b142 v_pins v_bars v_low v_high k11 k23 k76 l1 l2 l3 l4 l5 l6 v_to v_carries v_seen v_rank v_tied v_part v_parts) else (gd (vp_in l6 12) (if (l4 &&& (((v_tied l6.toNatClampNeg) ||| ((1 : Int32) <<< (l6 &&& 31))) ^^^ (-1))) = 0 then (if l6 ≤ l2 then (FX7_finds_b139 v_pins v_bars v_low v_high k11 k23 k76 l1 l2 l3 (l4 ||| ((1 : Int32) <<< (l6 &&& 31))) l6 l5 0 v_to v_carries v_seen v_rank v_tied v_part v_parts) else (FX7_finds_b139 v_pins v_bars v_low v_high k11 k23 k76 l1 l2 l3 (l4 ||| ((1 : Int32) <<< (l6 &&& 31))) l6 l5 1 v_to v_carries v_seen v_rank v_tied v_part v_parts)) else (FX7_finds_b142 v_pins v_bars v_low v_high k11 k23 k76 l1 l2 l3 l4 l5 l6 v_to v_carries v_seen v_rank v_tied v_part v_parts)))))
noncomputable def FX7_finds_h76 (v_pins v_bars : Int32) (v_low v_high : Nat → Int32) (k11 : Int32 → (Nat → Int32) → (Nat → Int32) → Int32 → Int32 → (Nat → Int32) → (Nat → Int32) → Int32 → Option ((Nat → Int32) × (Nat → Int32) × Int32 × Int32 × (Nat → Int32) × (Nat → Int32) × Int32)) (k23 : Int32 → Int32 → (Nat → Int32) → (Nat → Int32) → Int32 → Int32 → (Nat → Int32) → (Nat → Int32) → Int32 → Option ((Nat → Int32) × (Nat → Int32) × Int32 × Int32 × (Nat → Int32) × (Nat → Int32) × Int32)) : Nat → Int32 → Int32 → Int32 → Int32 → Int32 → Int32 → (Nat → Int32) → (Nat → Int32) → Int32 → Int32 → (Nat → Int32) → (Nat → Int32) → Int32 → Option ((Nat → Int32) × (Nat → Int32) × Int32 × Int32 × (Nat → Int32) × (Nat → Int32) × Int32)
  | 0 => fun _ _ _ _ _ _ _ _ _ _ _ _ _ => none
  | n + 1 => fun l1 l2 l3 l4 l5 l6 v_to v_carries v_seen v_rank v_tied v_part v_parts => FX7_finds_b76 v_pins v_bars v_low v_high k11 k23 (FX7_finds_h76 v_pins v_bars v_low v_high k11 k23 n) l1 l2 l3 l4 l5 l6 v_to v_carries v_seen v_rank v_tied v_part v_parts
noncomputable def FX7_finds_b23 (v_pins v_bars : Int32) (v_low v_high : Nat → Int32) (k11 : Int32 → (Nat → Int32) → (Nat → Int32) → Int32 → Int32 → (Nat → Int32) → (Nat → Int32) → Int32 → Option ((Nat → Int32) × (Nat → Int32) × Int32 × Int32 × (Nat → Int32) × (Nat → Int32) × Int32)) (k23 : Int32 → Int32 → (Nat → Int32) → (Nat → Int32) → Int32 → Int32 → (Nat → Int32) → (Nat → Int32) → Int32 → Option ((Nat → Int32) × (Nat → Int32) × Int32 × Int32 × (Nat → Int32) × (Nat → Int32) × Int32)) (l1 l2 : Int32) (v_to v_carries : Nat → Int32) (v_seen v_rank : Int32) (v_tied v_part : Nat → Int32) (v_parts : Int32) : Option ((Nat → Int32) × (Nat → Int32) × Int32 × Int32 × (Nat → Int32) × (Nat → Int32) × Int32) := (if v_pins ≤ l2 then (k11 (l1 + 1) v_to v_carries v_seen v_rank v_tied v_part v_parts) else (gd (vp_in l1 12) (if (((v_tied l1.toNatClampNeg) >>> (l2 &&& 31)) &&& 1) = 0 then (FX7_finds_b177 v_pins v_bars v_low v_high k11 k23 l1 l2 v_to v_carries v_seen v_rank v_tied v_part v_parts) else (gd (vp_in l1 12) (gd (vp_in l2 12) (FX7_finds_h76 v_pins v_bars v_low v_high k11 k23 5000 l1 l2 ((v_tied l1.toNatClampNeg) &&& (v_tied l2.toNatClampNeg)) (((1 : Int32) <<< (l1 &&& 31)) ||| ((1 : Int32) <<< (l2 &&& 31))) 1 0 v_to v_carries v_seen v_rank v_tied v_part v_parts))))))
noncomputable def FX7_finds_h23 (v_pins v_bars : Int32) (v_low v_high : Nat → Int32) (k11 : Int32 → (Nat → Int32) → (Nat → Int32) → Int32 → Int32 → (Nat → Int32) → (Nat → Int32) → Int32 → Option ((Nat → Int32) × (Nat → Int32) × Int32 × Int32 × (Nat → Int32) × (Nat → Int32) × Int32)) : Nat → Int32 → Int32 → (Nat → Int32) → (Nat → Int32) → Int32 → Int32 → (Nat → Int32) → (Nat → Int32) → Int32 → Option ((Nat → Int32) × (Nat → Int32) × Int32 × Int32 × (Nat → Int32) × (Nat → Int32) × Int32)
  | 0 => fun _ _ _ _ _ _ _ _ _ => none
  | n + 1 => fun l1 l2 v_to v_carries v_seen v_rank v_tied v_part v_parts => FX7_finds_b23 v_pins v_bars v_low v_high k11 (FX7_finds_h23 v_pins v_bars v_low v_high k11 n) l1 l2 v_to v_carries v_seen v_rank v_tied v_part v_parts
noncomputable def FX7_finds_b11 (v_pins v_bars : Int32) (v_low v_high : Nat → Int32)  (k11 : Int32 → (Nat → Int32) → (Nat → Int32) → Int32 → Int32 → (Nat → Int32) → (Nat → Int32) → Int32 → Option ((Nat → Int32) × (Nat → Int32) × Int32 × Int32 × (Nat → Int32) × (Nat → Int32) × Int32)) (l1 : Int32) (v_to v_carries : Nat → Int32) (v_seen v_rank : Int32) (v_tied v_part : Nat → Int32) (v_parts : Int32) : Option ((Nat → Int32) × (Nat → Int32) × Int32 × Int32 × (Nat → Int32) × (Nat → Int32) × Int32) := (if v_pins ≤ l1 then (some (v_to, v_carries, v_seen, v_rank, v_tied, v_part, v_parts)) else (FX7_finds_h23 v_pins v_bars v_low v_high k11 5000 l1 (l1 + 1) v_to v_carries v_seen v_rank v_tied v_part v_parts))
noncomputable def FX7_finds_h11 (v_pins v_bars : Int32) (v_low v_high : Nat → Int32)  : Nat → Int32 → (Nat → Int32) → (Nat → Int32) → Int32 → Int32 → (Nat → Int32) → (Nat → Int32) → Int32 → Option ((Nat → Int32) × (Nat → Int32) × Int32 × Int32 × (Nat → Int32) × (Nat → Int32) × Int32)
  | 0 => fun _ _ _ _ _ _ _ _ => none
  | n + 1 => fun l1 v_to v_carries v_seen v_rank v_tied v_part v_parts => FX7_finds_b11 v_pins v_bars v_low v_high  (FX7_finds_h11 v_pins v_bars v_low v_high  n) l1 v_to v_carries v_seen v_rank v_tied v_part v_parts
noncomputable def FX7_finds (v_pins v_bars : Int32) (v_low v_high v_to v_carries : Nat → Int32) (v_seen v_rank : Int32) (v_tied v_part : Nat → Int32) (v_parts : Int32) : Option ((Nat → Int32) × (Nat → Int32) × Int32 × Int32 × (Nat → Int32) × (Nat → Int32) × Int32) := ((FX7_ties v_pins v_bars v_low v_high v_to v_carries v_seen v_rank v_tied).bind (fun r14 => (FX7_finds_h11 v_pins v_bars v_low v_high  5000 0 r14.1 r14.2.1 r14.2.2.1 r14.2.2.2.1 r14.2.2.2.2 v_part 0)))
set_option maxHeartbeats 4000000 in
set_option maxRecDepth 100000 in
theorem c_X7_finds (l : Launch) (D : va_G) (cI cZ cS : ClassId) (a : Nat → Nat) (v_pins v_bars v_taped v_lined v_at v_fault : Int32) (v_name v_low v_high v_tape v_line : Nat → Int32) (v_imagePins v_imageBars : Int32) (v_imageName v_imageLow v_imageHigh : Nat → Int32) (v_isKept : Int32) (v_to v_carries : Nat → Int32) (v_seen v_rank : Int32) (v_one v_other : Nat → Int32) (v_thought v_gone : Int32) (v_tied v_part v_lack v_down : Nat → Int32) (v_parts v_lacks v_downs : Int32) (v_sort v_items v_item v_carried : Nat → Int32) (v_first v_second : Int32)  (u : (Nat → Int32) × (Nat → Int32) × Int32 × Int32 × (Nat → Int32) × (Nat → Int32) × Int32) (hF : FX7_finds v_pins v_bars v_low v_high v_to v_carries v_seen v_rank v_tied v_part v_parts = some u) : MCv l D (tyL cI cZ cS) yX7_finds cX7_finds 7 none 19 430 [.ref (a 0)] (wX7 cI cZ a v_pins v_bars v_taped v_lined v_at v_fault v_name v_low v_high v_tape v_line v_imagePins v_imageBars v_imageName v_imageLow v_imageHigh v_isKept v_to v_carries v_seen v_rank v_one v_other v_thought v_gone v_tied v_part v_lack v_down v_parts v_lacks v_downs v_sort v_items v_item v_carried v_first v_second) (wX7 cI cZ a v_pins v_bars v_taped v_lined v_at v_fault v_name v_low v_high v_tape v_line v_imagePins v_imageBars v_imageName v_imageLow v_imageHigh v_isKept u.1 u.2.1 u.2.2.1 u.2.2.2.1 v_one v_other v_thought v_gone u.2.2.2.2.1 u.2.2.2.2.2.1 v_lack v_down u.2.2.2.2.2.2 v_lacks v_downs v_sort v_items v_item v_carried v_first v_second) := by
  refine MCv.mk (by decide) (Nat.le_of_ble_eq_true rfl) ?_
  intro p e s m args below meth c A ls Q h0 hP hD hA hS hl hfin0
  have hfin : ∀ (u' : (Nat → Int32) × (Nat → Int32) × Int32 × Int32 × (Nat → Int32) × (Nat → Int32) × Int32), u' = u → ∀ (H : Heap) (locs : List Loc) (ls : Array Slot) (pc : Nat), va_P D vwCl (wX7 cI cZ a v_pins v_bars v_taped v_lined v_at v_fault v_name v_low v_high v_tape v_line v_imagePins v_imageBars v_imageName v_imageLow v_imageHigh v_isKept u'.1 u'.2.1 u'.2.2.1 u'.2.2.2.1 v_one v_other v_thought v_gone u'.2.2.2.2.1 u'.2.2.2.2.2.1 v_lack v_down u'.2.2.2.2.2.2 v_lacks v_downs v_sort v_items v_item v_carried v_first v_second) H → va_D A (wX7 cI cZ a v_pins v_bars v_taped v_lined v_at v_fault v_name v_low v_high v_tape v_line v_imagePins v_imageBars v_imageName v_imageLow v_imageHigh v_isKept u'.1 u'.2.1 u'.2.2.1 u'.2.2.2.1 v_one v_other v_thought v_gone u'.2.2.2.2.1 u'.2.2.2.2.2.1 v_lack v_down u'.2.2.2.2.2.2 v_lacks v_downs v_sort v_items v_item v_carried v_first v_second) → va_S A s.heap H locs → decode cX7_finds pc = .ok (.return_, 1) → W p l e (uR 19 430) s m args below meth c H locs 0 0 Q (F0 m pc ls []) := by intro u' hu; subst hu; exact hfin0
  clear hfin0
  obtain ⟨hx, hb, hr, hlk, hml, hown, hts, hK⟩ := id h0
  have hl : lv_has ls 7 [(0, .ref (a 0))] := hl
  have E := hF
  have J11 : ∀ (n11 : Nat) (l1 : Int32) (v_to v_carries : Nat → Int32) (v_seen v_rank : Int32) (v_tied v_part : Nat → Int32) (v_parts : Int32) (H : Heap) (locs : List Loc) (ls : Array Slot), FX7_finds_h11 v_pins v_bars v_low v_high  n11 l1 v_to v_carries v_seen v_rank v_tied v_part v_parts = some u → va_P D vwCl (wX7 cI cZ a v_pins v_bars v_taped v_lined v_at v_fault v_name v_low v_high v_tape v_line v_imagePins v_imageBars v_imageName v_imageLow v_imageHigh v_isKept v_to v_carries v_seen v_rank v_one v_other v_thought v_gone v_tied v_part v_lack v_down v_parts v_lacks v_downs v_sort v_items v_item v_carried v_first v_second) H → va_D A (wX7 cI cZ a v_pins v_bars v_taped v_lined v_at v_fault v_name v_low v_high v_tape v_line v_imagePins v_imageBars v_imageName v_imageLow v_imageHigh v_isKept v_to v_carries v_seen v_rank v_one v_other v_thought v_gone v_tied v_part v_lack v_down v_parts v_lacks v_downs v_sort v_items v_item v_carried v_first v_second) → va_S A s.heap H locs → lv_has ls 7 [(0, .ref (a 0)), (1, .int l1)] → W p l e (uR 19 430) s m args below meth c H locs 0 0 Q (F0 m 11 ls []) := by
    intro n11
    induction n11 with
    | zero => intro l1 v_to v_carries v_seen v_rank v_tied v_part v_parts H locs ls E; exact none_e E
    | succ n11 ih11 =>
      intro l1 v_to v_carries v_seen v_rank v_tied v_part v_parts H locs ls E hP hD hS hl
      have E : FX7_finds_b11 v_pins v_bars v_low v_high  (FX7_finds_h11 v_pins v_bars v_low v_high  n11) l1 v_to v_carries v_seen v_rank v_tied v_part v_parts = some u := E
      have J23 : ∀ (n23 : Nat) (l1 l2 : Int32) (v_to v_carries : Nat → Int32) (v_seen v_rank : Int32) (v_tied v_part : Nat → Int32) (v_parts : Int32) (H : Heap) (locs : List Loc) (ls : Array Slot), FX7_finds_h23 v_pins v_bars v_low v_high (FX7_finds_h11 v_pins v_bars v_low v_high  n11) n23 l1 l2 v_to v_carries v_seen v_rank v_tied v_part v_parts = some u → va_P D vwCl (wX7 cI cZ a v_pins v_bars v_taped v_lined v_at v_fault v_name v_low v_high v_tape v_line v_imagePins v_imageBars v_imageName v_imageLow v_imageHigh v_isKept v_to v_carries v_seen v_rank v_one v_other v_thought v_gone v_tied v_part v_lack v_down v_parts v_lacks v_downs v_sort v_items v_item v_carried v_first v_second) H → va_D A (wX7 cI cZ a v_pins v_bars v_taped v_lined v_at v_fault v_name v_low v_high v_tape v_line v_imagePins v_imageBars v_imageName v_imageLow v_imageHigh v_isKept v_to v_carries v_seen v_rank v_one v_other v_thought v_gone v_tied v_part v_lack v_down v_parts v_lacks v_downs v_sort v_items v_item v_carried v_first v_second) → va_S A s.heap H locs → lv_has ls 7 [(0, .ref (a 0)), (1, .int l1), (2, .int l2)] → W p l e (uR 19 430) s m args below meth c H locs 0 0 Q (F0 m 23 ls []) := by
        intro n23
        induction n23 with
        | zero => intro l1 l2 v_to v_carries v_seen v_rank v_tied v_part v_parts H locs ls E; exact none_e E
        | succ n23 ih23 =>
          intro l1 l2 v_to v_carries v_seen v_rank v_tied v_part v_parts H locs ls E hP hD hS hl
          have E : FX7_finds_b23 v_pins v_bars v_low v_high (FX7_finds_h11 v_pins v_bars v_low v_high  n11) (FX7_finds_h23 v_pins v_bars v_low v_high (FX7_finds_h11 v_pins v_bars v_low v_high  n11) n23) l1 l2 v_to v_carries v_seen v_rank v_tied v_part v_parts = some u := E
          have J177 : ∀ (l1 l2 : Int32) (v_to v_carries : Nat → Int32) (v_seen v_rank : Int32) (v_tied v_part : Nat → Int32) (v_parts : Int32) (H : Heap) (locs : List Loc) (ls : Array Slot), FX7_finds_b177 v_pins v_bars v_low v_high (FX7_finds_h11 v_pins v_bars v_low v_high  n11) (FX7_finds_h23 v_pins v_bars v_low v_high (FX7_finds_h11 v_pins v_bars v_low v_high  n11) n23) l1 l2 v_to v_carries v_seen v_rank v_tied v_part v_parts = some u → va_P D vwCl (wX7 cI cZ a v_pins v_bars v_taped v_lined v_at v_fault v_name v_low v_high v_tape v_line v_imagePins v_imageBars v_imageName v_imageLow v_imageHigh v_isKept v_to v_carries v_seen v_rank v_one v_other v_thought v_gone v_tied v_part v_lack v_down v_parts v_lacks v_downs v_sort v_items v_item v_carried v_first v_second) H → va_D A (wX7 cI cZ a v_pins v_bars v_taped v_lined v_at v_fault v_name v_low v_high v_tape v_line v_imagePins v_imageBars v_imageName v_imageLow v_imageHigh v_isKept v_to v_carries v_seen v_rank v_one v_other v_thought v_gone v_tied v_part v_lack v_down v_parts v_lacks v_downs v_sort v_items v_item v_carried v_first v_second) → va_S A s.heap H locs → lv_has ls 7 [(0, .ref (a 0)), (1, .int l1), (2, .int l2)] → W p l e (uR 19 430) s m args below meth c H locs 0 0 Q (F0 m 177 ls []) := by
            intro l1 l2 v_to v_carries v_seen v_rank v_tied v_part v_parts H locs ls E hP hD hS hl
            refine lv_iinc (v := (l2 + 1)) (lv' := [(2, .int (l2 + 1)), (0, .ref (a 0)), (1, .int l1)]) hx hb dX7_finds_177 hl (k := 2) rfl rfl (by decide) rfl (fun ls hl => ?_)
            refine lv_goto (tgt := 23) hx hb dX7_finds_180 (by decide) ?_
            exact ih23 _ _ _ _ _ _ _ _ _ _ _ _ E hP hD hS (lv_sub hl [1, 2, 0] rfl)
          have J76 : ∀ (n76 : Nat) (l1 l2 l3 l4 l5 l6 : Int32) (v_to v_carries : Nat → Int32) (v_seen v_rank : Int32) (v_tied v_part : Nat → Int32) (v_parts : Int32) (H : Heap) (locs : List Loc) (ls : Array Slot), FX7_finds_h76 v_pins v_bars v_low v_high (FX7_finds_h11 v_pins v_bars v_low v_high  n11) (FX7_finds_h23 v_pins v_bars v_low v_high (FX7_finds_h11 v_pins v_bars v_low v_high  n11) n23) n76 l1 l2 l3 l4 l5 l6 v_to v_carries v_seen v_rank v_tied v_part v_parts = some u → va_P D vwCl (wX7 cI cZ a v_pins v_bars v_taped v_lined v_at v_fault v_name v_low v_high v_tape v_line v_imagePins v_imageBars v_imageName v_imageLow v_imageHigh v_isKept v_to v_carries v_seen v_rank v_one v_other v_thought v_gone v_tied v_part v_lack v_down v_parts v_lacks v_downs v_sort v_items v_item v_carried v_first v_second) H → va_D A (wX7 cI cZ a v_pins v_bars v_taped v_lined v_at v_fault v_name v_low v_high v_tape v_line v_imagePins v_imageBars v_imageName v_imageLow v_imageHigh v_isKept v_to v_carries v_seen v_rank v_one v_other v_thought v_gone v_tied v_part v_lack v_down v_parts v_lacks v_downs v_sort v_items v_item v_carried v_first v_second) → va_S A s.heap H locs → lv_has ls 7 [(0, .ref (a 0)), (1, .int l1), (2, .int l2), (3, .int l3), (4, .int l4), (5, .int l5), (6, .int l6)] → W p l e (uR 19 430) s m args below meth c H locs 0 0 Q (F0 m 76 ls []) := by
            intro n76
            induction n76 with
            | zero => intro l1 l2 l3 l4 l5 l6 v_to v_carries v_seen v_rank v_tied v_part v_parts H locs ls E; exact none_e E
            | succ n76 ih76 =>
              intro l1 l2 l3 l4 l5 l6 v_to v_carries v_seen v_rank v_tied v_part v_parts H locs ls E hP hD hS hl
              have E : FX7_finds_b76 v_pins v_bars v_low v_high (FX7_finds_h11 v_pins v_bars v_low v_high  n11) (FX7_finds_h23 v_pins v_bars v_low v_high (FX7_finds_h11 v_pins v_bars v_low v_high  n11) n23) (FX7_finds_h76 v_pins v_bars v_low v_high (FX7_finds_h11 v_pins v_bars v_low v_high  n11) (FX7_finds_h23 v_pins v_bars v_low v_high (FX7_finds_h11 v_pins v_bars v_low v_high  n11) n23) n76) l1 l2 l3 l4 l5 l6 v_to v_carries v_seen v_rank v_tied v_part v_parts = some u := E
              have J142 : ∀ (l1 l2 l3 l4 l5 l6 : Int32) (v_to v_carries : Nat → Int32) (v_seen v_rank : Int32) (v_tied v_part : Nat → Int32) (v_parts : Int32) (H : Heap) (locs : List Loc) (ls : Array Slot), FX7_finds_b142 v_pins v_bars v_low v_high (FX7_finds_h11 v_pins v_bars v_low v_high  n11) (FX7_finds_h23 v_pins v_bars v_low v_high (FX7_finds_h11 v_pins v_bars v_low v_high  n11) n23) (FX7_finds_h76 v_pins v_bars v_low v_high (FX7_finds_h11 v_pins v_bars v_low v_high  n11) (FX7_finds_h23 v_pins v_bars v_low v_high (FX7_finds_h11 v_pins v_bars v_low v_high  n11) n23) n76) l1 l2 l3 l4 l5 l6 v_to v_carries v_seen v_rank v_tied v_part v_parts = some u → va_P D vwCl (wX7 cI cZ a v_pins v_bars v_taped v_lined v_at v_fault v_name v_low v_high v_tape v_line v_imagePins v_imageBars v_imageName v_imageLow v_imageHigh v_isKept v_to v_carries v_seen v_rank v_one v_other v_thought v_gone v_tied v_part v_lack v_down v_parts v_lacks v_downs v_sort v_items v_item v_carried v_first v_second) H → va_D A (wX7 cI cZ a v_pins v_bars v_taped v_lined v_at v_fault v_name v_low v_high v_tape v_line v_imagePins v_imageBars v_imageName v_imageLow v_imageHigh v_isKept v_to v_carries v_seen v_rank v_one v_other v_thought v_gone v_tied v_part v_lack v_down v_parts v_lacks v_downs v_sort v_items v_item v_carried v_first v_second) → va_S A s.heap H locs → lv_has ls 7 [(0, .ref (a 0)), (1, .int l1), (2, .int l2), (3, .int l3), (4, .int l4), (5, .int l5), (6, .int l6)] → W p l e (uR 19 430) s m args below meth c H locs 0 0 Q (F0 m 142 ls []) := by
                intro l1 l2 l3 l4 l5 l6 v_to v_carries v_seen v_rank v_tied v_part v_parts H locs ls E hP hD hS hl
                refine lv_iinc (v := (l6 + 1)) (lv' := [(6, .int (l6 + 1)), (0, .ref (a 0)), (1, .int l1), (2, .int l2), (3, .int l3), (4, .int l4), (5, .int l5)]) hx hb dX7_finds_142 hl (k := 6) rfl rfl (by decide) rfl (fun ls hl => ?_)
                refine lv_goto (tgt := 76) hx hb dX7_finds_145 (by decide) ?_
                exact ih76 _ _ _ _ _ _ _ _ _ _ _ _ _ _ _ _ E hP hD hS (lv_sub hl [1, 2, 3, 4, 5, 6, 0] rfl)
              have J139 : ∀ (l1 l2 l3 l4 l6 t0 t1 : Int32) (v_to v_carries : Nat → Int32) (v_seen v_rank : Int32) (v_tied v_part : Nat → Int32) (v_parts : Int32) (H : Heap) (locs : List Loc) (ls : Array Slot), FX7_finds_b139 v_pins v_bars v_low v_high (FX7_finds_h11 v_pins v_bars v_low v_high  n11) (FX7_finds_h23 v_pins v_bars v_low v_high (FX7_finds_h11 v_pins v_bars v_low v_high  n11) n23) (FX7_finds_h76 v_pins v_bars v_low v_high (FX7_finds_h11 v_pins v_bars v_low v_high  n11) (FX7_finds_h23 v_pins v_bars v_low v_high (FX7_finds_h11 v_pins v_bars v_low v_high  n11) n23) n76) l1 l2 l3 l4 l6 t0 t1 v_to v_carries v_seen v_rank v_tied v_part v_parts = some u → va_P D vwCl (wX7 cI cZ a v_pins v_bars v_taped v_lined v_at v_fault v_name v_low v_high v_tape v_line v_imagePins v_imageBars v_imageName v_imageLow v_imageHigh v_isKept v_to v_carries v_seen v_rank v_one v_other v_thought v_gone v_tied v_part v_lack v_down v_parts v_lacks v_downs v_sort v_items v_item v_carried v_first v_second) H → va_D A (wX7 cI cZ a v_pins v_bars v_taped v_lined v_at v_fault v_name v_low v_high v_tape v_line v_imagePins v_imageBars v_imageName v_imageLow v_imageHigh v_isKept v_to v_carries v_seen v_rank v_one v_other v_thought v_gone v_tied v_part v_lack v_down v_parts v_lacks v_downs v_sort v_items v_item v_carried v_first v_second) → va_S A s.heap H locs → lv_has ls 7 [(0, .ref (a 0)), (1, .int l1), (2, .int l2), (3, .int l3), (4, .int l4), (6, .int l6)] → W p l e (uR 19 430) s m args below meth c H locs 0 0 Q (F0 m 139 ls [.int t1, .int t0]) := by
                intro l1 l2 l3 l4 l6 t0 t1 v_to v_carries v_seen v_rank v_tied v_part v_parts H locs ls E hP hD hS hl
                refine lv_iand hx hb dX7_finds_139 ?_
                refine lv_istore (lv' := [(5, .int (t0 &&& t1)), (0, .ref (a 0)), (1, .int l1), (2, .int l2), (3, .int l3), (4, .int l4), (6, .int l6)]) hx hb dX7_finds_140 hl (by decide) rfl (fun ls hl => ?_)
                exact J142 _ _ _ _ _ _ _ _ _ _ _ _ _ _ _ _ E hP hD hS (lv_sub hl [1, 2, 3, 4, 5, 0, 6] rfl)
              refine lv_iload hx hb dX7_finds_76 (lv_at hl 6 rfl) ?_
              refine lv_aload_n hx hb dX7_finds_78 rfl (lv_at hl 0 rfl) ?_
              refine gf_X7_71 h0 hP 0 rfl rfl dX7_finds_79 ?_
              refine lv_icmp_ge (tgt := 148) hx hb dX7_finds_82 (by decide) (fun c1 => ?_) (fun c1 => ?_)
              · have E := br_p E c1
                refine lv_iload hx hb dX7_finds_148 (lv_at hl 5 rfl) ?_
                refine lv_if_ne (tgt := 156) hx hb dX7_finds_150 (by decide) (fun c2 => ?_) (fun c2 => ?_)
                · have E := br_n E c2
                  refine lv_aload_n hx hb dX7_finds_156 rfl (lv_at hl 0 rfl) ?_
                  refine gf_X7_50 h0 hP 0 rfl rfl dX7_finds_157 ?_
                  refine lv_aload_n hx hb dX7_finds_160 rfl (lv_at hl 0 rfl) ?_
                  refine gf_X7_139 h0 hP 0 rfl rfl dX7_finds_161 ?_
                  refine lv_iload hx hb dX7_finds_164 (lv_at hl 4 rfl) ?_
                  obtain ⟨g3, E⟩ := gd_e E
                  refine asti (wo := (wX7 cI cZ a v_pins v_bars v_taped v_lined v_at v_fault v_name v_low v_high v_tape v_line v_imagePins v_imageBars v_imageName v_imageLow v_imageHigh v_isKept v_to v_carries v_seen v_rank v_one v_other v_thought v_gone v_tied (upd v_part v_parts.toNatClampNeg l4) v_lack v_down v_parts v_lacks v_downs v_sort v_items v_item v_carried v_first v_second)) hx hb hK hP hD hS 14 rfl rfl g3 rfl dX7_finds_166 (fun H locs hP hD hS => ?_)
                  refine lv_aload_n hx hb dX7_finds_167 rfl (lv_at hl 0 rfl) ?_
                  refine lv_dup hx hb dX7_finds_168 rfl ?_
                  refine gf_X7_139 h0 hP 0 rfl rfl dX7_finds_169 ?_
                  refine lv_iconst (v := 1) hx hb dX7_finds_172 (by decide) ?_
                  refine lv_iadd hx hb dX7_finds_173 ?_
                  refine pf_X7_139 (wo := (wX7 cI cZ a v_pins v_bars v_taped v_lined v_at v_fault v_name v_low v_high v_tape v_line v_imagePins v_imageBars v_imageName v_imageLow v_imageHigh v_isKept v_to v_carries v_seen v_rank v_one v_other v_thought v_gone v_tied (upd v_part v_parts.toNatClampNeg l4) v_lack v_down (v_parts + 1) v_lacks v_downs v_sort v_items v_item v_carried v_first v_second)) h0 hP hD hS 0 rfl (Nat.le_of_ble_eq_true rfl) rfl dX7_finds_174 (fun H locs hP hD hS => ?_)
                  exact J177 _ _ _ _ _ _ _ _ _ _ _ _ E hP hD hS (lv_sub hl [0, 1, 2] rfl)
                · have E := br_p E c2
                  refine lv_goto (tgt := 177) hx hb dX7_finds_153 (by decide) ?_
                  exact J177 _ _ _ _ _ _ _ _ _ _ _ _ E hP hD hS (lv_sub hl [0, 1, 2] rfl)
              · have E := br_n E c1
                refine lv_iload_n hx hb dX7_finds_85 rfl (lv_at hl 3 rfl) ?_
                refine lv_iload hx hb dX7_finds_86 (lv_at hl 6 rfl) ?_
                refine lv_ishr hx hb dX7_finds_88 ?_
                refine lv_iconst (v := 1) hx hb dX7_finds_89 (by decide) ?_
                refine lv_iand hx hb dX7_finds_90 ?_
                refine lv_if_eq (tgt := 142) hx hb dX7_finds_91 (by decide) (fun c4 => ?_) (fun c4 => ?_)
                · have E := br_p E c4
                  exact J142 _ _ _ _ _ _ _ _ _ _ _ _ _ _ _ _ E hP hD hS (lv_sub hl [0, 1, 2, 3, 4, 5, 6] rfl)
                · have E := br_n E c4
                  refine lv_iload hx hb dX7_finds_94 (lv_at hl 4 rfl) ?_
                  refine lv_aload_n hx hb dX7_finds_96 rfl (lv_at hl 0 rfl) ?_
                  refine gf_X7_47 h0 hP 0 rfl rfl dX7_finds_97 ?_
                  refine lv_iload hx hb dX7_finds_100 (lv_at hl 6 rfl) ?_
                  obtain ⟨g5, E⟩ := gd_e E
                  refine aldi hx hb hK hP 13 rfl rfl g5 dX7_finds_102 ?_
                  refine lv_iconst (v := 1) hx hb dX7_finds_103 (by decide) ?_
                  refine lv_iload hx hb dX7_finds_104 (lv_at hl 6 rfl) ?_
                  refine lv_ishl hx hb dX7_finds_106 ?_
                  refine lv_ior hx hb dX7_finds_107 ?_
                  refine lv_iconst (v := (-1)) hx hb dX7_finds_108 (by decide) ?_
                  refine lv_ixor hx hb dX7_finds_109 ?_
                  refine lv_iand hx hb dX7_finds_110 ?_
                  refine lv_if_eq (tgt := 117) hx hb dX7_finds_111 (by decide) (fun c6 => ?_) (fun c6 => ?_)
                  · have E := br_p E c6
                    refine lv_iload hx hb dX7_finds_117 (lv_at hl 4 rfl) ?_
                    refine lv_iconst (v := 1) hx hb dX7_finds_119 (by decide) ?_
                    refine lv_iload hx hb dX7_finds_120 (lv_at hl 6 rfl) ?_
                    refine lv_ishl hx hb dX7_finds_122 ?_
                    refine lv_ior hx hb dX7_finds_123 ?_
                    refine lv_istore (lv' := [(4, .int (l4 ||| ((1 : Int32) <<< (l6 &&& 31)))), (0, .ref (a 0)), (1, .int l1), (2, .int l2), (3, .int l3), (5, .int l5), (6, .int l6)]) hx hb dX7_finds_124 hl (by decide) rfl (fun ls hl => ?_)
                    refine lv_iload hx hb dX7_finds_126 (lv_at hl 5 rfl) ?_
                    refine lv_iload hx hb dX7_finds_128 (lv_at hl 6 rfl) ?_
                    refine lv_iload_n hx hb dX7_finds_130 rfl (lv_at hl 3 rfl) ?_
                    refine lv_icmp_le (tgt := 138) hx hb dX7_finds_131 (by decide) (fun c7 => ?_) (fun c7 => ?_)
                    · have E := br_p E c7
                      refine lv_iconst (v := 0) hx hb dX7_finds_138 (by decide) ?_
                      exact J139 _ _ _ _ _ _ _ _ _ _ _ _ _ _ _ _ _ E hP hD hS (lv_sub hl [1, 2, 3, 4, 0, 6] rfl)
                    · have E := br_n E c7
                      refine lv_iconst (v := 1) hx hb dX7_finds_134 (by decide) ?_
                      refine lv_goto (tgt := 139) hx hb dX7_finds_135 (by decide) ?_
                      exact J139 _ _ _ _ _ _ _ _ _ _ _ _ _ _ _ _ _ E hP hD hS (lv_sub hl [1, 2, 3, 4, 0, 6] rfl)
                  · have E := br_n E c6
                    refine lv_goto (tgt := 142) hx hb dX7_finds_114 (by decide) ?_
                    exact J142 _ _ _ _ _ _ _ _ _ _ _ _ _ _ _ _ E hP hD hS (lv_sub hl [0, 1, 2, 3, 4, 5, 6] rfl)
          refine lv_iload_n hx hb dX7_finds_23 rfl (lv_at hl 2 rfl) ?_
          refine lv_aload_n hx hb dX7_finds_24 rfl (lv_at hl 0 rfl) ?_
          refine gf_X7_71 h0 hP 0 rfl rfl dX7_finds_25 ?_
          refine lv_icmp_ge (tgt := 183) hx hb dX7_finds_28 (by decide) (fun c8 => ?_) (fun c8 => ?_)
          · have E := br_p E c8
            refine lv_iinc (v := (l1 + 1)) (lv' := [(1, .int (l1 + 1)), (0, .ref (a 0)), (2, .int l2)]) hx hb dX7_finds_183 hl (k := 1) rfl rfl (by decide) rfl (fun ls hl => ?_)
            refine lv_goto (tgt := 11) hx hb dX7_finds_186 (by decide) ?_
            exact ih11 _ _ _ _ _ _ _ _ _ _ _ E hP hD hS (lv_sub hl [1, 0] rfl)
          · have E := br_n E c8
            refine lv_aload_n hx hb dX7_finds_31 rfl (lv_at hl 0 rfl) ?_
            refine gf_X7_47 h0 hP 0 rfl rfl dX7_finds_32 ?_
            refine lv_iload_n hx hb dX7_finds_35 rfl (lv_at hl 1 rfl) ?_
            obtain ⟨g9, E⟩ := gd_e E
            refine aldi hx hb hK hP 13 rfl rfl g9 dX7_finds_36 ?_
            refine lv_iload_n hx hb dX7_finds_37 rfl (lv_at hl 2 rfl) ?_
            refine lv_ishr hx hb dX7_finds_38 ?_
            refine lv_iconst (v := 1) hx hb dX7_finds_39 (by decide) ?_
            refine lv_iand hx hb dX7_finds_40 ?_
            refine lv_if_ne (tgt := 47) hx hb dX7_finds_41 (by decide) (fun c10 => ?_) (fun c10 => ?_)
            · have E := br_n E c10
              refine lv_aload_n hx hb dX7_finds_47 rfl (lv_at hl 0 rfl) ?_
              refine gf_X7_47 h0 hP 0 rfl rfl dX7_finds_48 ?_
              refine lv_iload_n hx hb dX7_finds_51 rfl (lv_at hl 1 rfl) ?_
              obtain ⟨g11, E⟩ := gd_e E
              refine aldi hx hb hK hP 13 rfl rfl g11 dX7_finds_52 ?_
              refine lv_aload_n hx hb dX7_finds_53 rfl (lv_at hl 0 rfl) ?_
              refine gf_X7_47 h0 hP 0 rfl rfl dX7_finds_54 ?_
              refine lv_iload_n hx hb dX7_finds_57 rfl (lv_at hl 2 rfl) ?_
              obtain ⟨g12, E⟩ := gd_e E
              refine aldi hx hb hK hP 13 rfl rfl g12 dX7_finds_58 ?_
              refine lv_iand hx hb dX7_finds_59 ?_
              refine lv_istore_n (lv' := [(3, .int ((v_tied l1.toNatClampNeg) &&& (v_tied l2.toNatClampNeg))), (0, .ref (a 0)), (1, .int l1), (2, .int l2)]) hx hb dX7_finds_60 rfl hl (by decide) rfl (fun ls hl => ?_)
              refine lv_iconst (v := 1) hx hb dX7_finds_61 (by decide) ?_
              refine lv_iload_n hx hb dX7_finds_62 rfl (lv_at hl 2 rfl) ?_
              refine lv_ishl hx hb dX7_finds_63 ?_
              refine lv_iconst (v := 1) hx hb dX7_finds_64 (by decide) ?_
              refine lv_iload_n hx hb dX7_finds_65 rfl (lv_at hl 3 rfl) ?_
              refine lv_ishl hx hb dX7_finds_66 ?_
              refine lv_ior hx hb dX7_finds_67 ?_
              refine lv_istore (lv' := [(4, .int (((1 : Int32) <<< (l1 &&& 31)) ||| ((1 : Int32) <<< (l2 &&& 31)))), (3, .int ((v_tied l1.toNatClampNeg) &&& (v_tied l2.toNatClampNeg))), (0, .ref (a 0)), (1, .int l1), (2, .int l2)]) hx hb dX7_finds_68 hl (by decide) rfl (fun ls hl => ?_)
              refine lv_iconst (v := 1) hx hb dX7_finds_70 (by decide) ?_
              refine lv_istore (lv' := [(5, .int 1), (4, .int (((1 : Int32) <<< (l1 &&& 31)) ||| ((1 : Int32) <<< (l2 &&& 31)))), (3, .int ((v_tied l1.toNatClampNeg) &&& (v_tied l2.toNatClampNeg))), (0, .ref (a 0)), (1, .int l1), (2, .int l2)]) hx hb dX7_finds_71 hl (by decide) rfl (fun ls hl => ?_)
              refine lv_iconst (v := 0) hx hb dX7_finds_73 (by decide) ?_
              refine lv_istore (lv' := [(6, .int 0), (5, .int 1), (4, .int (((1 : Int32) <<< (l1 &&& 31)) ||| ((1 : Int32) <<< (l2 &&& 31)))), (3, .int ((v_tied l1.toNatClampNeg) &&& (v_tied l2.toNatClampNeg))), (0, .ref (a 0)), (1, .int l1), (2, .int l2)]) hx hb dX7_finds_74 hl (by decide) rfl (fun ls hl => ?_)
              exact J76 5000 _ _ _ _ _ _ _ _ _ _ _ _ _ _ _ _ E hP hD hS (lv_sub hl [4, 5, 6, 3, 2, 1, 0] rfl)
            · have E := br_p E c10
              refine lv_goto (tgt := 177) hx hb dX7_finds_44 (by decide) ?_
              exact J177 _ _ _ _ _ _ _ _ _ _ _ _ E hP hD hS (lv_sub hl [0, 1, 2] rfl)
      refine lv_iload_n hx hb dX7_finds_11 rfl (lv_at hl 1 rfl) ?_
      refine lv_aload_n hx hb dX7_finds_12 rfl (lv_at hl 0 rfl) ?_
      refine gf_X7_71 h0 hP 0 rfl rfl dX7_finds_13 ?_
      refine lv_icmp_ge (tgt := 189) hx hb dX7_finds_16 (by decide) (fun c13 => ?_) (fun c13 => ?_)
      · have E := br_p E c13
        exact hfin _ (Option.some.inj E) _ _ _ _ hP hD hS dX7_finds_189
      · have E := br_n E c13
        refine lv_iload_n hx hb dX7_finds_19 rfl (lv_at hl 1 rfl) ?_
        refine lv_iconst (v := 1) hx hb dX7_finds_20 (by decide) ?_
        refine lv_iadd hx hb dX7_finds_21 ?_
        refine lv_istore_n (lv' := [(2, .int (l1 + 1)), (0, .ref (a 0)), (1, .int l1)]) hx hb dX7_finds_22 rfl hl (by decide) rfl (fun ls hl => ?_)
        exact J23 5000 _ _ _ _ _ _ _ _ _ _ _ _ E hP hD hS (lv_sub hl [1, 2, 0] rfl)
  refine lv_aload_n hx hb dX7_finds_0 rfl (lv_at hl 0 rfl) ?_
  obtain ⟨r14, hF, E⟩ := bn_e E
  refine callVfv (wo := (wX7 cI cZ a v_pins v_bars v_taped v_lined v_at v_fault v_name v_low v_high v_tape v_line v_imagePins v_imageBars v_imageName v_imageLow v_imageHigh v_isKept r14.1 r14.2.1 r14.2.2.1 r14.2.2.2.1 v_one v_other v_thought v_gone r14.2.2.2.2 v_part v_lack v_down v_parts v_lacks v_downs v_sort v_items v_item v_carried v_first v_second)) h0 (c_X7_ties l D cI cZ cS a v_pins v_bars v_taped v_lined v_at v_fault v_name v_low v_high v_tape v_line v_imagePins v_imageBars v_imageName v_imageLow v_imageHigh v_isKept v_to v_carries v_seen v_rank v_one v_other v_thought v_gone v_tied v_part v_lack v_down v_parts v_lacks v_downs v_sort v_items v_item v_carried v_first v_second r14 hF) (gV wq_755 wq_757 wp_24 wq_8 wq_758) hdX7_ties ⟨Nat.le_of_ble_eq_true rfl, Nat.le_of_ble_eq_true rfl⟩ ⟨Nat.le_refl _, Nat.le_refl _⟩ hP hD hS hA 0 7 rfl rfl rfl hl.1 rfl (Nat.le_of_ble_eq_true rfl) dX7_finds_1 (fun H locs hP hD hS => ?_)
  refine lv_aload_n hx hb dX7_finds_4 rfl (lv_at hl 0 rfl) ?_
  refine lv_iconst (v := 0) hx hb dX7_finds_5 (by decide) ?_
  refine pf_X7_139 (wo := (wX7 cI cZ a v_pins v_bars v_taped v_lined v_at v_fault v_name v_low v_high v_tape v_line v_imagePins v_imageBars v_imageName v_imageLow v_imageHigh v_isKept r14.1 r14.2.1 r14.2.2.1 r14.2.2.2.1 v_one v_other v_thought v_gone r14.2.2.2.2 v_part v_lack v_down 0 v_lacks v_downs v_sort v_items v_item v_carried v_first v_second)) h0 hP hD hS 0 rfl (Nat.le_of_ble_eq_true rfl) rfl dX7_finds_6 (fun H locs hP hD hS => ?_)
  refine lv_iconst (v := 0) hx hb dX7_finds_9 (by decide) ?_
  refine lv_istore_n (lv' := [(1, .int 0), (0, .ref (a 0))]) hx hb dX7_finds_10 rfl hl (by decide) rfl (fun ls hl => ?_)
  exact J11 5000 _ _ _ _ _ _ _ _ _ _ _ E hP hD hS (lv_sub hl [1, 0] rfl)
theorem hdX7_tied : yX7_tied.cls = RX7 ∧ yX7_tied.cls ≠ "java/lang/invoke/MethodHandle" ∧ yX7_tied.cls ≠ "java/lang/invoke/VarHandle" ∧ (parseMethodDescriptor yX7_tied.desc).map (fun d => d.parameters.length) = some 2 := by decide +kernel
noncomputable def FX7_tied (p1 p2 : Int32) (v_pins v_bars : Int32) (v_low v_high v_to v_carries : Nat → Int32) (v_seen v_rank : Int32) (v_tied : Nat → Int32) : Option (Int32 × (Nat → Int32) × (Nat → Int32) × Int32 × Int32 × (Nat → Int32)) := ((FX7_areTwo p1 p2 v_pins).bind (fun r1 => (if r1 = 0 then (some ((-2), v_to, v_carries, v_seen, v_rank, v_tied)) else ((FX7_ties v_pins v_bars v_low v_high v_to v_carries v_seen v_rank v_tied).bind (fun r3 => (gd (vp_in p1 12) (some ((((r3.2.2.2.2 p1.toNatClampNeg) >>> (p2 &&& 31)) &&& 1), r3.1, r3.2.1, r3.2.2.1, r3.2.2.2.1, r3.2.2.2.2))))))))
set_option maxHeartbeats 4000000 in
set_option maxRecDepth 100000 in
theorem c_X7_tied (l : Launch) (D : va_G) (cI cZ cS : ClassId) (a : Nat → Nat) (v_pins v_bars v_taped v_lined v_at v_fault : Int32) (v_name v_low v_high v_tape v_line : Nat → Int32) (v_imagePins v_imageBars : Int32) (v_imageName v_imageLow v_imageHigh : Nat → Int32) (v_isKept : Int32) (v_to v_carries : Nat → Int32) (v_seen v_rank : Int32) (v_one v_other : Nat → Int32) (v_thought v_gone : Int32) (v_tied v_part v_lack v_down : Nat → Int32) (v_parts v_lacks v_downs : Int32) (v_sort v_items v_item v_carried : Nat → Int32) (v_first v_second : Int32) (p1 p2 : Int32) (u : Int32 × (Nat → Int32) × (Nat → Int32) × Int32 × Int32 × (Nat → Int32)) (hF : FX7_tied p1 p2 v_pins v_bars v_low v_high v_to v_carries v_seen v_rank v_tied = some u) : MCi l D (tyL cI cZ cS) yX7_tied cX7_tied 3 (some .int) 19 430 [.ref (a 0), .int p1, .int p2] (wX7 cI cZ a v_pins v_bars v_taped v_lined v_at v_fault v_name v_low v_high v_tape v_line v_imagePins v_imageBars v_imageName v_imageLow v_imageHigh v_isKept v_to v_carries v_seen v_rank v_one v_other v_thought v_gone v_tied v_part v_lack v_down v_parts v_lacks v_downs v_sort v_items v_item v_carried v_first v_second) (wX7 cI cZ a v_pins v_bars v_taped v_lined v_at v_fault v_name v_low v_high v_tape v_line v_imagePins v_imageBars v_imageName v_imageLow v_imageHigh v_isKept u.2.1 u.2.2.1 u.2.2.2.1 u.2.2.2.2.1 v_one v_other v_thought v_gone u.2.2.2.2.2 v_part v_lack v_down v_parts v_lacks v_downs v_sort v_items v_item v_carried v_first v_second) u.1 := by
  refine MCi.mk (by decide) (Nat.le_of_ble_eq_true rfl) ?_
  intro p e s m args below meth c A ls Q h0 hP hD hA hS hl hfin0
  have hfin : ∀ (u' : Int32 × (Nat → Int32) × (Nat → Int32) × Int32 × Int32 × (Nat → Int32)), u' = u → ∀ (H : Heap) (locs : List Loc) (ls : Array Slot) (pc : Nat), va_P D vwCl (wX7 cI cZ a v_pins v_bars v_taped v_lined v_at v_fault v_name v_low v_high v_tape v_line v_imagePins v_imageBars v_imageName v_imageLow v_imageHigh v_isKept u'.2.1 u'.2.2.1 u'.2.2.2.1 u'.2.2.2.2.1 v_one v_other v_thought v_gone u'.2.2.2.2.2 v_part v_lack v_down v_parts v_lacks v_downs v_sort v_items v_item v_carried v_first v_second) H → va_D A (wX7 cI cZ a v_pins v_bars v_taped v_lined v_at v_fault v_name v_low v_high v_tape v_line v_imagePins v_imageBars v_imageName v_imageLow v_imageHigh v_isKept u'.2.1 u'.2.2.1 u'.2.2.2.1 u'.2.2.2.2.1 v_one v_other v_thought v_gone u'.2.2.2.2.2 v_part v_lack v_down v_parts v_lacks v_downs v_sort v_items v_item v_carried v_first v_second) → va_S A s.heap H locs → decode cX7_tied pc = .ok (.ireturn, 1) → W p l e (uR 19 430) s m args below meth c H locs 0 0 Q (F0 m pc ls [.int u'.1]) := by intro u' hu; subst hu; exact hfin0
  clear hfin0
  obtain ⟨hx, hb, hr, hlk, hml, hown, hts, hK⟩ := id h0
  have hl : lv_has ls 3 [(0, .ref (a 0)), (1, .int p1), (2, .int p2)] := hl
  have E := hF
  refine lv_aload_n hx hb dX7_tied_0 rfl (lv_at hl 0 rfl) ?_
  refine lv_iload_n hx hb dX7_tied_1 rfl (lv_at hl 1 rfl) ?_
  refine lv_iload_n hx hb dX7_tied_2 rfl (lv_at hl 2 rfl) ?_
  obtain ⟨r1, hF, E⟩ := bn_e E
  refine callVfi (wo := (wX7 cI cZ a v_pins v_bars v_taped v_lined v_at v_fault v_name v_low v_high v_tape v_line v_imagePins v_imageBars v_imageName v_imageLow v_imageHigh v_isKept v_to v_carries v_seen v_rank v_one v_other v_thought v_gone v_tied v_part v_lack v_down v_parts v_lacks v_downs v_sort v_items v_item v_carried v_first v_second)) h0 (c_X7_areTwo l D cI cZ cS a v_pins v_bars v_taped v_lined v_at v_fault v_name v_low v_high v_tape v_line v_imagePins v_imageBars v_imageName v_imageLow v_imageHigh v_isKept v_to v_carries v_seen v_rank v_one v_other v_thought v_gone v_tied v_part v_lack v_down v_parts v_lacks v_downs v_sort v_items v_item v_carried v_first v_second p1 p2 r1 hF) (gV wq_726 wq_728 wp_21 wq_8 wq_729) hdX7_areTwo ⟨Nat.le_of_ble_eq_true rfl, Nat.le_of_ble_eq_true rfl⟩ ⟨Nat.le_refl _, Nat.le_refl _⟩ hP hD hS hA 0 7 rfl rfl rfl hl.1 rfl (Nat.le_of_ble_eq_true rfl) dX7_tied_3 (fun H locs hP hD hS => ?_)
  refine lv_if_ne (tgt := 12) hx hb dX7_tied_6 (by decide) (fun c2 => ?_) (fun c2 => ?_)
  · have E := br_n E c2
    refine lv_aload_n hx hb dX7_tied_12 rfl (lv_at hl 0 rfl) ?_
    obtain ⟨r3, hF, E⟩ := bn_e E
    refine callVfv (wo := (wX7 cI cZ a v_pins v_bars v_taped v_lined v_at v_fault v_name v_low v_high v_tape v_line v_imagePins v_imageBars v_imageName v_imageLow v_imageHigh v_isKept r3.1 r3.2.1 r3.2.2.1 r3.2.2.2.1 v_one v_other v_thought v_gone r3.2.2.2.2 v_part v_lack v_down v_parts v_lacks v_downs v_sort v_items v_item v_carried v_first v_second)) h0 (c_X7_ties l D cI cZ cS a v_pins v_bars v_taped v_lined v_at v_fault v_name v_low v_high v_tape v_line v_imagePins v_imageBars v_imageName v_imageLow v_imageHigh v_isKept v_to v_carries v_seen v_rank v_one v_other v_thought v_gone v_tied v_part v_lack v_down v_parts v_lacks v_downs v_sort v_items v_item v_carried v_first v_second r3 hF) (gV wq_755 wq_757 wp_24 wq_8 wq_758) hdX7_ties ⟨Nat.le_of_ble_eq_true rfl, Nat.le_of_ble_eq_true rfl⟩ ⟨Nat.le_refl _, Nat.le_refl _⟩ hP hD hS hA 0 7 rfl rfl rfl hl.1 rfl (Nat.le_of_ble_eq_true rfl) dX7_tied_13 (fun H locs hP hD hS => ?_)
    refine lv_aload_n hx hb dX7_tied_16 rfl (lv_at hl 0 rfl) ?_
    refine gf_X7_47 h0 hP 0 rfl rfl dX7_tied_17 ?_
    refine lv_iload_n hx hb dX7_tied_20 rfl (lv_at hl 1 rfl) ?_
    obtain ⟨g4, E⟩ := gd_e E
    refine aldi hx hb hK hP 13 rfl rfl g4 dX7_tied_21 ?_
    refine lv_iload_n hx hb dX7_tied_22 rfl (lv_at hl 2 rfl) ?_
    refine lv_ishr hx hb dX7_tied_23 ?_
    refine lv_iconst (v := 1) hx hb dX7_tied_24 (by decide) ?_
    refine lv_iand hx hb dX7_tied_25 ?_
    exact hfin _ (Option.some.inj E) _ _ _ _ hP hD hS dX7_tied_26
  · have E := br_p E c2
    refine lv_bipush (v := (-2)) hx hb dX7_tied_9 (by decide) ?_
    exact hfin _ (Option.some.inj E) _ _ _ _ hP hD hS dX7_tied_11
