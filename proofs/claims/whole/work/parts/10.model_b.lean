theorem hdX7_part : yX7_part.cls = RX7 ∧ yX7_part.cls ≠ "java/lang/invoke/MethodHandle" ∧ yX7_part.cls ≠ "java/lang/invoke/VarHandle" ∧ (parseMethodDescriptor yX7_part.desc).map (fun d => d.parameters.length) = some 1 := by decide +kernel
noncomputable def FX7_part (p1 : Int32) (v_pins v_bars : Int32) (v_low v_high v_to v_carries : Nat → Int32) (v_seen v_rank : Int32) (v_tied v_part : Nat → Int32) (v_parts : Int32) : Option (Int32 × (Nat → Int32) × (Nat → Int32) × Int32 × Int32 × (Nat → Int32) × (Nat → Int32) × Int32) := ((FX7_finds v_pins v_bars v_low v_high v_to v_carries v_seen v_rank v_tied v_part v_parts).bind (fun r1 => ((FX7_isIn p1 0 (r1.2.2.2.2.2.2 - 1)).bind (fun r2 => (if r2 = 0 then (some ((-12), r1.1, r1.2.1, r1.2.2.1, r1.2.2.2.1, r1.2.2.2.2.1, r1.2.2.2.2.2.1, r1.2.2.2.2.2.2)) else (gd (vp_in p1 144) (some ((r1.2.2.2.2.2.1 p1.toNatClampNeg), r1.1, r1.2.1, r1.2.2.1, r1.2.2.2.1, r1.2.2.2.2.1, r1.2.2.2.2.2.1, r1.2.2.2.2.2.2))))))))
set_option maxHeartbeats 4000000 in
set_option maxRecDepth 100000 in
theorem c_X7_part (l : Launch) (D : va_G) (cI cZ cS : ClassId) (a : Nat → Nat) (v_pins v_bars v_taped v_lined v_at v_fault : Int32) (v_name v_low v_high v_tape v_line : Nat → Int32) (v_imagePins v_imageBars : Int32) (v_imageName v_imageLow v_imageHigh : Nat → Int32) (v_isKept : Int32) (v_to v_carries : Nat → Int32) (v_seen v_rank : Int32) (v_one v_other : Nat → Int32) (v_thought v_gone : Int32) (v_tied v_part v_lack v_down : Nat → Int32) (v_parts v_lacks v_downs : Int32) (v_sort v_items v_item v_carried : Nat → Int32) (v_first v_second : Int32) (p1 : Int32) (u : Int32 × (Nat → Int32) × (Nat → Int32) × Int32 × Int32 × (Nat → Int32) × (Nat → Int32) × Int32) (hF : FX7_part p1 v_pins v_bars v_low v_high v_to v_carries v_seen v_rank v_tied v_part v_parts = some u) : MCi l D (tyL cI cZ cS) yX7_part cX7_part 2 (some .int) 20 456 [.ref (a 0), .int p1] (wX7 cI cZ a v_pins v_bars v_taped v_lined v_at v_fault v_name v_low v_high v_tape v_line v_imagePins v_imageBars v_imageName v_imageLow v_imageHigh v_isKept v_to v_carries v_seen v_rank v_one v_other v_thought v_gone v_tied v_part v_lack v_down v_parts v_lacks v_downs v_sort v_items v_item v_carried v_first v_second) (wX7 cI cZ a v_pins v_bars v_taped v_lined v_at v_fault v_name v_low v_high v_tape v_line v_imagePins v_imageBars v_imageName v_imageLow v_imageHigh v_isKept u.2.1 u.2.2.1 u.2.2.2.1 u.2.2.2.2.1 v_one v_other v_thought v_gone u.2.2.2.2.2.1 u.2.2.2.2.2.2.1 v_lack v_down u.2.2.2.2.2.2.2 v_lacks v_downs v_sort v_items v_item v_carried v_first v_second) u.1 := by
  refine MCi.mk (by decide) (Nat.le_of_ble_eq_true rfl) ?_
  intro p e s m args below meth c A ls Q h0 hP hD hA hS hl hfin0
  have hfin : ∀ (u' : Int32 × (Nat → Int32) × (Nat → Int32) × Int32 × Int32 × (Nat → Int32) × (Nat → Int32) × Int32), u' = u → ∀ (H : Heap) (locs : List Loc) (ls : Array Slot) (pc : Nat), va_P D vwCl (wX7 cI cZ a v_pins v_bars v_taped v_lined v_at v_fault v_name v_low v_high v_tape v_line v_imagePins v_imageBars v_imageName v_imageLow v_imageHigh v_isKept u'.2.1 u'.2.2.1 u'.2.2.2.1 u'.2.2.2.2.1 v_one v_other v_thought v_gone u'.2.2.2.2.2.1 u'.2.2.2.2.2.2.1 v_lack v_down u'.2.2.2.2.2.2.2 v_lacks v_downs v_sort v_items v_item v_carried v_first v_second) H → va_D A (wX7 cI cZ a v_pins v_bars v_taped v_lined v_at v_fault v_name v_low v_high v_tape v_line v_imagePins v_imageBars v_imageName v_imageLow v_imageHigh v_isKept u'.2.1 u'.2.2.1 u'.2.2.2.1 u'.2.2.2.2.1 v_one v_other v_thought v_gone u'.2.2.2.2.2.1 u'.2.2.2.2.2.2.1 v_lack v_down u'.2.2.2.2.2.2.2 v_lacks v_downs v_sort v_items v_item v_carried v_first v_second) → va_S A s.heap H locs → decode cX7_part pc = .ok (.ireturn, 1) → W p l e (uR 20 456) s m args below meth c H locs 0 0 Q (F0 m pc ls [.int u'.1]) := by intro u' hu; subst hu; exact hfin0
  clear hfin0
  obtain ⟨hx, hb, hr, hlk, hml, hown, hts, hK⟩ := id h0
  have hl : lv_has ls 2 [(0, .ref (a 0)), (1, .int p1)] := hl
  have E := hF
  refine lv_aload_n hx hb dX7_part_0 rfl (lv_at hl 0 rfl) ?_
  obtain ⟨r1, hF, E⟩ := bn_e E
  refine callVfv (wo := (wX7 cI cZ a v_pins v_bars v_taped v_lined v_at v_fault v_name v_low v_high v_tape v_line v_imagePins v_imageBars v_imageName v_imageLow v_imageHigh v_isKept r1.1 r1.2.1 r1.2.2.1 r1.2.2.2.1 v_one v_other v_thought v_gone r1.2.2.2.2.1 r1.2.2.2.2.2.1 v_lack v_down r1.2.2.2.2.2.2 v_lacks v_downs v_sort v_items v_item v_carried v_first v_second)) h0 (c_X7_finds l D cI cZ cS a v_pins v_bars v_taped v_lined v_at v_fault v_name v_low v_high v_tape v_line v_imagePins v_imageBars v_imageName v_imageLow v_imageHigh v_isKept v_to v_carries v_seen v_rank v_one v_other v_thought v_gone v_tied v_part v_lack v_down v_parts v_lacks v_downs v_sort v_items v_item v_carried v_first v_second r1 hF) (gV wq_791 wq_793 wp_32 wq_8 wq_794) hdX7_finds ⟨Nat.le_of_ble_eq_true rfl, Nat.le_of_ble_eq_true rfl⟩ ⟨Nat.le_refl _, Nat.le_refl _⟩ hP hD hS hA 0 7 rfl rfl rfl hl.1 rfl (Nat.le_of_ble_eq_true rfl) dX7_part_1 (fun H locs hP hD hS => ?_)
  refine lv_iload_n hx hb dX7_part_4 rfl (lv_at hl 1 rfl) ?_
  refine lv_iconst (v := 0) hx hb dX7_part_5 (by decide) ?_
  refine lv_aload_n hx hb dX7_part_6 rfl (lv_at hl 0 rfl) ?_
  refine gf_X7_139 h0 hP 0 rfl rfl dX7_part_7 ?_
  refine lv_iconst (v := 1) hx hb dX7_part_10 (by decide) ?_
  refine lv_isub hx hb dX7_part_11 ?_
  obtain ⟨r2, hF, E⟩ := bn_e E
  refine callSi (wo := (wX7 cI cZ a v_pins v_bars v_taped v_lined v_at v_fault v_name v_low v_high v_tape v_line v_imagePins v_imageBars v_imageName v_imageLow v_imageHigh v_isKept r1.1 r1.2.1 r1.2.2.1 r1.2.2.2.1 v_one v_other v_thought v_gone r1.2.2.2.2.1 r1.2.2.2.2.2.1 v_lack v_down r1.2.2.2.2.2.2 v_lacks v_downs v_sort v_items v_item v_carried v_first v_second)) h0 (c_X7_isIn l D cI cZ cS p1 0 (r1.2.2.2.2.2.2 - 1) r2 hF) (gS wq_734 wq_735 wq_8 wq_736) hdX7_isIn ⟨Nat.le_of_ble_eq_true rfl, Nat.le_of_ble_eq_true rfl⟩ ⟨Nat.le_refl _, Nat.le_refl _⟩ hP hD hS hA [] rfl rfl rfl rfl hl.1 rfl (Nat.le_of_ble_eq_true rfl) dX7_part_12 (fun H locs hP hD hS => ?_)
  refine lv_if_eq (tgt := 27) hx hb dX7_part_15 (by decide) (fun c3 => ?_) (fun c3 => ?_)
  · have E := br_p E c3
    refine lv_bipush (v := (-12)) hx hb dX7_part_27 (by decide) ?_
    exact hfin _ (Option.some.inj E) _ _ _ _ hP hD hS dX7_part_29
  · have E := br_n E c3
    refine lv_aload_n hx hb dX7_part_18 rfl (lv_at hl 0 rfl) ?_
    refine gf_X7_50 h0 hP 0 rfl rfl dX7_part_19 ?_
    refine lv_iload_n hx hb dX7_part_22 rfl (lv_at hl 1 rfl) ?_
    obtain ⟨g4, E⟩ := gd_e E
    refine aldi hx hb hK hP 14 rfl rfl g4 dX7_part_23 ?_
    refine lv_goto (tgt := 29) hx hb dX7_part_24 (by decide) ?_
    exact hfin _ (Option.some.inj E) _ _ _ _ hP hD hS dX7_part_29
theorem hdX7_overtied : yX7_overtied.cls = RX7 ∧ yX7_overtied.cls ≠ "java/lang/invoke/MethodHandle" ∧ yX7_overtied.cls ≠ "java/lang/invoke/VarHandle" ∧ (parseMethodDescriptor yX7_overtied.desc).map (fun d => d.parameters.length) = some 0 := by decide +kernel
noncomputable def FX7_overtied_b32 (v_bars : Int32) (v_low v_high : Nat → Int32) (k9 : Int32 → Int32 → Int32 → (Nat → Int32) → Int32 → Int32 → Option (Int32 × (Nat → Int32) × Int32 × Int32)) (l1 l3 t0 t1 : Int32) (v_to : Nat → Int32) (v_seen v_rank : Int32) : Option (Int32 × (Nat → Int32) × Int32 × Int32) := (k9 l1 (t0 + t1) (l3 + 1) v_to v_seen v_rank)
noncomputable def FX7_overtied_b9 (v_bars : Int32) (v_low v_high : Nat → Int32)  (k9 : Int32 → Int32 → Int32 → (Nat → Int32) → Int32 → Int32 → Option (Int32 × (Nat → Int32) × Int32 × Int32)) (l1 l2 l3 : Int32) (v_to : Nat → Int32) (v_seen v_rank : Int32) : Option (Int32 × (Nat → Int32) × Int32 × Int32) := (if v_bars ≤ l3 then (some (l2, v_to, v_seen, v_rank)) else ((FX7_rankWithout l3 v_bars v_low v_high v_to v_seen v_rank).bind (fun r2 => (if r2.1 = l1 then (FX7_overtied_b32 v_bars v_low v_high k9 l1 l3 l2 1 r2.2.1 r2.2.2.1 r2.2.2.2) else (FX7_overtied_b32 v_bars v_low v_high k9 l1 l3 l2 0 r2.2.1 r2.2.2.1 r2.2.2.2)))))
noncomputable def FX7_overtied_h9 (v_bars : Int32) (v_low v_high : Nat → Int32)  : Nat → Int32 → Int32 → Int32 → (Nat → Int32) → Int32 → Int32 → Option (Int32 × (Nat → Int32) × Int32 × Int32)
  | 0 => fun _ _ _ _ _ _ => none
  | n + 1 => fun l1 l2 l3 v_to v_seen v_rank => FX7_overtied_b9 v_bars v_low v_high  (FX7_overtied_h9 v_bars v_low v_high  n) l1 l2 l3 v_to v_seen v_rank
noncomputable def FX7_overtied (v_bars : Int32) (v_low v_high v_to : Nat → Int32) (v_seen v_rank : Int32) : Option (Int32 × (Nat → Int32) × Int32 × Int32) := ((FX7_rank v_bars v_low v_high v_to v_seen v_rank).bind (fun r4 => (FX7_overtied_h9 v_bars v_low v_high  5000 r4.1 0 0 r4.2.1 r4.2.2.1 r4.2.2.2)))
set_option maxHeartbeats 4000000 in
set_option maxRecDepth 100000 in
theorem c_X7_overtied (l : Launch) (D : va_G) (cI cZ cS : ClassId) (a : Nat → Nat) (v_pins v_bars v_taped v_lined v_at v_fault : Int32) (v_name v_low v_high v_tape v_line : Nat → Int32) (v_imagePins v_imageBars : Int32) (v_imageName v_imageLow v_imageHigh : Nat → Int32) (v_isKept : Int32) (v_to v_carries : Nat → Int32) (v_seen v_rank : Int32) (v_one v_other : Nat → Int32) (v_thought v_gone : Int32) (v_tied v_part v_lack v_down : Nat → Int32) (v_parts v_lacks v_downs : Int32) (v_sort v_items v_item v_carried : Nat → Int32) (v_first v_second : Int32)  (u : Int32 × (Nat → Int32) × Int32 × Int32) (hF : FX7_overtied v_bars v_low v_high v_to v_seen v_rank = some u) : MCi l D (tyL cI cZ cS) yX7_overtied cX7_overtied 4 (some .int) 19 429 [.ref (a 0)] (wX7 cI cZ a v_pins v_bars v_taped v_lined v_at v_fault v_name v_low v_high v_tape v_line v_imagePins v_imageBars v_imageName v_imageLow v_imageHigh v_isKept v_to v_carries v_seen v_rank v_one v_other v_thought v_gone v_tied v_part v_lack v_down v_parts v_lacks v_downs v_sort v_items v_item v_carried v_first v_second) (wX7 cI cZ a v_pins v_bars v_taped v_lined v_at v_fault v_name v_low v_high v_tape v_line v_imagePins v_imageBars v_imageName v_imageLow v_imageHigh v_isKept u.2.1 v_carries u.2.2.1 u.2.2.2 v_one v_other v_thought v_gone v_tied v_part v_lack v_down v_parts v_lacks v_downs v_sort v_items v_item v_carried v_first v_second) u.1 := by
  refine MCi.mk (by decide) (Nat.le_of_ble_eq_true rfl) ?_
  intro p e s m args below meth c A ls Q h0 hP hD hA hS hl hfin0
  have hfin : ∀ (u' : Int32 × (Nat → Int32) × Int32 × Int32), u' = u → ∀ (H : Heap) (locs : List Loc) (ls : Array Slot) (pc : Nat), va_P D vwCl (wX7 cI cZ a v_pins v_bars v_taped v_lined v_at v_fault v_name v_low v_high v_tape v_line v_imagePins v_imageBars v_imageName v_imageLow v_imageHigh v_isKept u'.2.1 v_carries u'.2.2.1 u'.2.2.2 v_one v_other v_thought v_gone v_tied v_part v_lack v_down v_parts v_lacks v_downs v_sort v_items v_item v_carried v_first v_second) H → va_D A (wX7 cI cZ a v_pins v_bars v_taped v_lined v_at v_fault v_name v_low v_high v_tape v_line v_imagePins v_imageBars v_imageName v_imageLow v_imageHigh v_isKept u'.2.1 v_carries u'.2.2.1 u'.2.2.2 v_one v_other v_thought v_gone v_tied v_part v_lack v_down v_parts v_lacks v_downs v_sort v_items v_item v_carried v_first v_second) → va_S A s.heap H locs → decode cX7_overtied pc = .ok (.ireturn, 1) → W p l e (uR 19 429) s m args below meth c H locs 0 0 Q (F0 m pc ls [.int u'.1]) := by intro u' hu; subst hu; exact hfin0
  clear hfin0
  obtain ⟨hx, hb, hr, hlk, hml, hown, hts, hK⟩ := id h0
  have hl : lv_has ls 4 [(0, .ref (a 0))] := hl
  have E := hF
  have J9 : ∀ (n9 : Nat) (l1 l2 l3 : Int32) (v_to : Nat → Int32) (v_seen v_rank : Int32) (H : Heap) (locs : List Loc) (ls : Array Slot), FX7_overtied_h9 v_bars v_low v_high  n9 l1 l2 l3 v_to v_seen v_rank = some u → va_P D vwCl (wX7 cI cZ a v_pins v_bars v_taped v_lined v_at v_fault v_name v_low v_high v_tape v_line v_imagePins v_imageBars v_imageName v_imageLow v_imageHigh v_isKept v_to v_carries v_seen v_rank v_one v_other v_thought v_gone v_tied v_part v_lack v_down v_parts v_lacks v_downs v_sort v_items v_item v_carried v_first v_second) H → va_D A (wX7 cI cZ a v_pins v_bars v_taped v_lined v_at v_fault v_name v_low v_high v_tape v_line v_imagePins v_imageBars v_imageName v_imageLow v_imageHigh v_isKept v_to v_carries v_seen v_rank v_one v_other v_thought v_gone v_tied v_part v_lack v_down v_parts v_lacks v_downs v_sort v_items v_item v_carried v_first v_second) → va_S A s.heap H locs → lv_has ls 4 [(0, .ref (a 0)), (1, .int l1), (2, .int l2), (3, .int l3)] → W p l e (uR 19 429) s m args below meth c H locs 0 0 Q (F0 m 9 ls []) := by
    intro n9
    induction n9 with
    | zero => intro l1 l2 l3 v_to v_seen v_rank H locs ls E; exact none_e E
    | succ n9 ih9 =>
      intro l1 l2 l3 v_to v_seen v_rank H locs ls E hP hD hS hl
      have E : FX7_overtied_b9 v_bars v_low v_high  (FX7_overtied_h9 v_bars v_low v_high  n9) l1 l2 l3 v_to v_seen v_rank = some u := E
      have J32 : ∀ (l1 l3 t0 t1 : Int32) (v_to : Nat → Int32) (v_seen v_rank : Int32) (H : Heap) (locs : List Loc) (ls : Array Slot), FX7_overtied_b32 v_bars v_low v_high (FX7_overtied_h9 v_bars v_low v_high  n9) l1 l3 t0 t1 v_to v_seen v_rank = some u → va_P D vwCl (wX7 cI cZ a v_pins v_bars v_taped v_lined v_at v_fault v_name v_low v_high v_tape v_line v_imagePins v_imageBars v_imageName v_imageLow v_imageHigh v_isKept v_to v_carries v_seen v_rank v_one v_other v_thought v_gone v_tied v_part v_lack v_down v_parts v_lacks v_downs v_sort v_items v_item v_carried v_first v_second) H → va_D A (wX7 cI cZ a v_pins v_bars v_taped v_lined v_at v_fault v_name v_low v_high v_tape v_line v_imagePins v_imageBars v_imageName v_imageLow v_imageHigh v_isKept v_to v_carries v_seen v_rank v_one v_other v_thought v_gone v_tied v_part v_lack v_down v_parts v_lacks v_downs v_sort v_items v_item v_carried v_first v_second) → va_S A s.heap H locs → lv_has ls 4 [(0, .ref (a 0)), (1, .int l1), (3, .int l3)] → W p l e (uR 19 429) s m args below meth c H locs 0 0 Q (F0 m 32 ls [.int t1, .int t0]) := by
        intro l1 l3 t0 t1 v_to v_seen v_rank H locs ls E hP hD hS hl
        refine lv_iadd hx hb dX7_overtied_32 ?_
        refine lv_istore_n (lv' := [(2, .int (t0 + t1)), (0, .ref (a 0)), (1, .int l1), (3, .int l3)]) hx hb dX7_overtied_33 rfl hl (by decide) rfl (fun ls hl => ?_)
        refine lv_iinc (v := (l3 + 1)) (lv' := [(3, .int (l3 + 1)), (2, .int (t0 + t1)), (0, .ref (a 0)), (1, .int l1)]) hx hb dX7_overtied_34 hl (k := 3) rfl rfl (by decide) rfl (fun ls hl => ?_)
        refine lv_goto (tgt := 9) hx hb dX7_overtied_37 (by decide) ?_
        exact ih9 _ _ _ _ _ _ _ _ _ E hP hD hS (lv_sub hl [2, 3, 1, 0] rfl)
      refine lv_iload_n hx hb dX7_overtied_9 rfl (lv_at hl 3 rfl) ?_
      refine lv_aload_n hx hb dX7_overtied_10 rfl (lv_at hl 0 rfl) ?_
      refine gf_X7_106 h0 hP 0 rfl rfl dX7_overtied_11 ?_
      refine lv_icmp_ge (tgt := 40) hx hb dX7_overtied_14 (by decide) (fun c1 => ?_) (fun c1 => ?_)
      · have E := br_p E c1
        refine lv_iload_n hx hb dX7_overtied_40 rfl (lv_at hl 2 rfl) ?_
        exact hfin _ (Option.some.inj E) _ _ _ _ hP hD hS dX7_overtied_41
      · have E := br_n E c1
        refine lv_iload_n hx hb dX7_overtied_17 rfl (lv_at hl 2 rfl) ?_
        refine lv_aload_n hx hb dX7_overtied_18 rfl (lv_at hl 0 rfl) ?_
        refine lv_iload_n hx hb dX7_overtied_19 rfl (lv_at hl 3 rfl) ?_
        obtain ⟨r2, hF, E⟩ := bn_e E
        refine callVfi (wo := (wX7 cI cZ a v_pins v_bars v_taped v_lined v_at v_fault v_name v_low v_high v_tape v_line v_imagePins v_imageBars v_imageName v_imageLow v_imageHigh v_isKept r2.2.1 v_carries r2.2.2.1 r2.2.2.2 v_one v_other v_thought v_gone v_tied v_part v_lack v_down v_parts v_lacks v_downs v_sort v_items v_item v_carried v_first v_second)) h0 (c_X7_rankWithout l D cI cZ cS a v_pins v_bars v_taped v_lined v_at v_fault v_name v_low v_high v_tape v_line v_imagePins v_imageBars v_imageName v_imageLow v_imageHigh v_isKept v_to v_carries v_seen v_rank v_one v_other v_thought v_gone v_tied v_part v_lack v_down v_parts v_lacks v_downs v_sort v_items v_item v_carried v_first v_second l3 r2 hF) (gV wq_803 wq_805 wp_34 wq_8 wq_806) hdX7_rankWithout ⟨Nat.le_of_ble_eq_true rfl, Nat.le_of_ble_eq_true rfl⟩ ⟨Nat.le_refl _, Nat.le_refl _⟩ hP hD hS hA 0 7 rfl rfl rfl hl.1 rfl (Nat.le_of_ble_eq_true rfl) dX7_overtied_20 (fun H locs hP hD hS => ?_)
        refine lv_iload_n hx hb dX7_overtied_23 rfl (lv_at hl 1 rfl) ?_
        refine lv_icmp_ne (tgt := 31) hx hb dX7_overtied_24 (by decide) (fun c3 => ?_) (fun c3 => ?_)
        · have E := br_n E c3
          refine lv_iconst (v := 0) hx hb dX7_overtied_31 (by decide) ?_
          exact J32 _ _ _ _ _ _ _ _ _ _ E hP hD hS (lv_sub hl [0, 1, 3] rfl)
        · have E := br_p E c3
          refine lv_iconst (v := 1) hx hb dX7_overtied_27 (by decide) ?_
          refine lv_goto (tgt := 32) hx hb dX7_overtied_28 (by decide) ?_
          exact J32 _ _ _ _ _ _ _ _ _ _ E hP hD hS (lv_sub hl [0, 1, 3] rfl)
  refine lv_aload_n hx hb dX7_overtied_0 rfl (lv_at hl 0 rfl) ?_
  obtain ⟨r4, hF, E⟩ := bn_e E
  refine callVfi (wo := (wX7 cI cZ a v_pins v_bars v_taped v_lined v_at v_fault v_name v_low v_high v_tape v_line v_imagePins v_imageBars v_imageName v_imageLow v_imageHigh v_isKept r4.2.1 v_carries r4.2.2.1 r4.2.2.2 v_one v_other v_thought v_gone v_tied v_part v_lack v_down v_parts v_lacks v_downs v_sort v_items v_item v_carried v_first v_second)) h0 (c_X7_rank l D cI cZ cS a v_pins v_bars v_taped v_lined v_at v_fault v_name v_low v_high v_tape v_line v_imagePins v_imageBars v_imageName v_imageLow v_imageHigh v_isKept v_to v_carries v_seen v_rank v_one v_other v_thought v_gone v_tied v_part v_lack v_down v_parts v_lacks v_downs v_sort v_items v_item v_carried v_first v_second r4 hF) (gV wq_799 wq_801 wp_33 wq_8 wq_802) hdX7_rank ⟨Nat.le_of_ble_eq_true rfl, Nat.le_of_ble_eq_true rfl⟩ ⟨Nat.le_refl _, Nat.le_refl _⟩ hP hD hS hA 0 7 rfl rfl rfl hl.1 rfl (Nat.le_of_ble_eq_true rfl) dX7_overtied_1 (fun H locs hP hD hS => ?_)
  refine lv_istore_n (lv' := [(1, .int r4.1), (0, .ref (a 0))]) hx hb dX7_overtied_4 rfl hl (by decide) rfl (fun ls hl => ?_)
  refine lv_iconst (v := 0) hx hb dX7_overtied_5 (by decide) ?_
  refine lv_istore_n (lv' := [(2, .int 0), (1, .int r4.1), (0, .ref (a 0))]) hx hb dX7_overtied_6 rfl hl (by decide) rfl (fun ls hl => ?_)
  refine lv_iconst (v := 0) hx hb dX7_overtied_7 (by decide) ?_
  refine lv_istore_n (lv' := [(3, .int 0), (2, .int 0), (1, .int r4.1), (0, .ref (a 0))]) hx hb dX7_overtied_8 rfl hl (by decide) rfl (fun ls hl => ?_)
  exact J9 5000 _ _ _ _ _ _ _ _ _ E hP hD hS (lv_sub hl [3, 2, 1, 0] rfl)
theorem hdX7_extras : yX7_extras.cls = RX7 ∧ yX7_extras.cls ≠ "java/lang/invoke/MethodHandle" ∧ yX7_extras.cls ≠ "java/lang/invoke/VarHandle" ∧ (parseMethodDescriptor yX7_extras.desc).map (fun d => d.parameters.length) = some 0 := by decide +kernel
noncomputable def FX7_extras (v_bars : Int32) (v_low v_high v_to : Nat → Int32) (v_seen v_rank : Int32) : Option (Int32 × (Nat → Int32) × Int32 × Int32) := ((FX7_rank v_bars v_low v_high v_to v_seen v_rank).bind (fun r1 => (some ((v_bars - r1.1), r1.2.1, r1.2.2.1, r1.2.2.2))))
set_option maxHeartbeats 4000000 in
set_option maxRecDepth 100000 in
theorem c_X7_extras (l : Launch) (D : va_G) (cI cZ cS : ClassId) (a : Nat → Nat) (v_pins v_bars v_taped v_lined v_at v_fault : Int32) (v_name v_low v_high v_tape v_line : Nat → Int32) (v_imagePins v_imageBars : Int32) (v_imageName v_imageLow v_imageHigh : Nat → Int32) (v_isKept : Int32) (v_to v_carries : Nat → Int32) (v_seen v_rank : Int32) (v_one v_other : Nat → Int32) (v_thought v_gone : Int32) (v_tied v_part v_lack v_down : Nat → Int32) (v_parts v_lacks v_downs : Int32) (v_sort v_items v_item v_carried : Nat → Int32) (v_first v_second : Int32)  (u : Int32 × (Nat → Int32) × Int32 × Int32) (hF : FX7_extras v_bars v_low v_high v_to v_seen v_rank = some u) : MCi l D (tyL cI cZ cS) yX7_extras cX7_extras 1 (some .int) 19 429 [.ref (a 0)] (wX7 cI cZ a v_pins v_bars v_taped v_lined v_at v_fault v_name v_low v_high v_tape v_line v_imagePins v_imageBars v_imageName v_imageLow v_imageHigh v_isKept v_to v_carries v_seen v_rank v_one v_other v_thought v_gone v_tied v_part v_lack v_down v_parts v_lacks v_downs v_sort v_items v_item v_carried v_first v_second) (wX7 cI cZ a v_pins v_bars v_taped v_lined v_at v_fault v_name v_low v_high v_tape v_line v_imagePins v_imageBars v_imageName v_imageLow v_imageHigh v_isKept u.2.1 v_carries u.2.2.1 u.2.2.2 v_one v_other v_thought v_gone v_tied v_part v_lack v_down v_parts v_lacks v_downs v_sort v_items v_item v_carried v_first v_second) u.1 := by
  refine MCi.mk (by decide) (Nat.le_of_ble_eq_true rfl) ?_
  intro p e s m args below meth c A ls Q h0 hP hD hA hS hl hfin0
  have hfin : ∀ (u' : Int32 × (Nat → Int32) × Int32 × Int32), u' = u → ∀ (H : Heap) (locs : List Loc) (ls : Array Slot) (pc : Nat), va_P D vwCl (wX7 cI cZ a v_pins v_bars v_taped v_lined v_at v_fault v_name v_low v_high v_tape v_line v_imagePins v_imageBars v_imageName v_imageLow v_imageHigh v_isKept u'.2.1 v_carries u'.2.2.1 u'.2.2.2 v_one v_other v_thought v_gone v_tied v_part v_lack v_down v_parts v_lacks v_downs v_sort v_items v_item v_carried v_first v_second) H → va_D A (wX7 cI cZ a v_pins v_bars v_taped v_lined v_at v_fault v_name v_low v_high v_tape v_line v_imagePins v_imageBars v_imageName v_imageLow v_imageHigh v_isKept u'.2.1 v_carries u'.2.2.1 u'.2.2.2 v_one v_other v_thought v_gone v_tied v_part v_lack v_down v_parts v_lacks v_downs v_sort v_items v_item v_carried v_first v_second) → va_S A s.heap H locs → decode cX7_extras pc = .ok (.ireturn, 1) → W p l e (uR 19 429) s m args below meth c H locs 0 0 Q (F0 m pc ls [.int u'.1]) := by intro u' hu; subst hu; exact hfin0
  clear hfin0
  obtain ⟨hx, hb, hr, hlk, hml, hown, hts, hK⟩ := id h0
  have hl : lv_has ls 1 [(0, .ref (a 0))] := hl
  have E := hF
  refine lv_aload_n hx hb dX7_extras_0 rfl (lv_at hl 0 rfl) ?_
  refine gf_X7_106 h0 hP 0 rfl rfl dX7_extras_1 ?_
  refine lv_aload_n hx hb dX7_extras_4 rfl (lv_at hl 0 rfl) ?_
  obtain ⟨r1, hF, E⟩ := bn_e E
  refine callVfi (wo := (wX7 cI cZ a v_pins v_bars v_taped v_lined v_at v_fault v_name v_low v_high v_tape v_line v_imagePins v_imageBars v_imageName v_imageLow v_imageHigh v_isKept r1.2.1 v_carries r1.2.2.1 r1.2.2.2 v_one v_other v_thought v_gone v_tied v_part v_lack v_down v_parts v_lacks v_downs v_sort v_items v_item v_carried v_first v_second)) h0 (c_X7_rank l D cI cZ cS a v_pins v_bars v_taped v_lined v_at v_fault v_name v_low v_high v_tape v_line v_imagePins v_imageBars v_imageName v_imageLow v_imageHigh v_isKept v_to v_carries v_seen v_rank v_one v_other v_thought v_gone v_tied v_part v_lack v_down v_parts v_lacks v_downs v_sort v_items v_item v_carried v_first v_second r1 hF) (gV wq_799 wq_801 wp_33 wq_8 wq_802) hdX7_rank ⟨Nat.le_of_ble_eq_true rfl, Nat.le_of_ble_eq_true rfl⟩ ⟨Nat.le_refl _, Nat.le_refl _⟩ hP hD hS hA 0 7 rfl rfl rfl hl.1 rfl (Nat.le_of_ble_eq_true rfl) dX7_extras_5 (fun H locs hP hD hS => ?_)
  refine lv_isub hx hb dX7_extras_8 ?_
  exact hfin _ (Option.some.inj E) _ _ _ _ hP hD hS dX7_extras_9
theorem hdX7_told : yX7_told.cls = RX7 ∧ yX7_told.cls ≠ "java/lang/invoke/MethodHandle" ∧ yX7_told.cls ≠ "java/lang/invoke/VarHandle" ∧ (parseMethodDescriptor yX7_told.desc).map (fun d => d.parameters.length) = some 1 := by decide +kernel
noncomputable def FX7_told (p1 : Int32) (v_pins v_bars v_taped : Int32) (v_low v_high v_to v_carries : Nat → Int32) (v_seen v_rank : Int32) (v_tied v_part : Nat → Int32) (v_parts : Int32) : Option (Int32 × (Nat → Int32) × (Nat → Int32) × Int32 × Int32 × (Nat → Int32) × (Nat → Int32) × Int32) := (if p1 = 0 then (some (v_pins, v_to, v_carries, v_seen, v_rank, v_tied, v_part, v_parts)) else (if p1 = 1 then (some (v_bars, v_to, v_carries, v_seen, v_rank, v_tied, v_part, v_parts)) else (if p1 = 2 then ((FX7_rank v_bars v_low v_high v_to v_seen v_rank).bind (fun r4 => (some (r4.1, r4.2.1, v_carries, r4.2.2.1, r4.2.2.2, v_tied, v_part, v_parts)))) else (if p1 = 3 then ((FX7_rank v_bars v_low v_high v_to v_seen v_rank).bind (fun r6 => (some (((2 * v_pins) - r6.1), r6.2.1, v_carries, r6.2.2.1, r6.2.2.2, v_tied, v_part, v_parts)))) else (if p1 = 4 then ((FX7_isStiff v_pins v_bars v_low v_high v_to v_seen v_rank).bind (fun r8 => (if r8.1 = 0 then (some (0, r8.2.1, v_carries, r8.2.2.1, r8.2.2.2, v_tied, v_part, v_parts)) else (some (1, r8.2.1, v_carries, r8.2.2.1, r8.2.2.2, v_tied, v_part, v_parts))))) else (if p1 = 5 then ((FX7_extras v_bars v_low v_high v_to v_seen v_rank).bind (fun r11 => (some (r11.1, r11.2.1, v_carries, r11.2.2.1, r11.2.2.2, v_tied, v_part, v_parts)))) else (if p1 = 6 then ((FX7_finds v_pins v_bars v_low v_high v_to v_carries v_seen v_rank v_tied v_part v_parts).bind (fun r13 => (some (r13.2.2.2.2.2.2, r13.1, r13.2.1, r13.2.2.1, r13.2.2.2.1, r13.2.2.2.2.1, r13.2.2.2.2.2.1, r13.2.2.2.2.2.2)))) else (if p1 = 7 then ((FX7_overtied v_bars v_low v_high v_to v_seen v_rank).bind (fun r15 => (some (r15.1, r15.2.1, v_carries, r15.2.2.1, r15.2.2.2, v_tied, v_part, v_parts)))) else (if p1 = 8 then (some (v_taped, v_to, v_carries, v_seen, v_rank, v_tied, v_part, v_parts)) else (some ((-2), v_to, v_carries, v_seen, v_rank, v_tied, v_part, v_parts)))))))))))
set_option maxHeartbeats 4000000 in
set_option maxRecDepth 100000 in
theorem c_X7_told (l : Launch) (D : va_G) (cI cZ cS : ClassId) (a : Nat → Nat) (v_pins v_bars v_taped v_lined v_at v_fault : Int32) (v_name v_low v_high v_tape v_line : Nat → Int32) (v_imagePins v_imageBars : Int32) (v_imageName v_imageLow v_imageHigh : Nat → Int32) (v_isKept : Int32) (v_to v_carries : Nat → Int32) (v_seen v_rank : Int32) (v_one v_other : Nat → Int32) (v_thought v_gone : Int32) (v_tied v_part v_lack v_down : Nat → Int32) (v_parts v_lacks v_downs : Int32) (v_sort v_items v_item v_carried : Nat → Int32) (v_first v_second : Int32) (p1 : Int32) (u : Int32 × (Nat → Int32) × (Nat → Int32) × Int32 × Int32 × (Nat → Int32) × (Nat → Int32) × Int32) (hF : FX7_told p1 v_pins v_bars v_taped v_low v_high v_to v_carries v_seen v_rank v_tied v_part v_parts = some u) : MCi l D (tyL cI cZ cS) yX7_told cX7_told 2 (some .int) 20 456 [.ref (a 0), .int p1] (wX7 cI cZ a v_pins v_bars v_taped v_lined v_at v_fault v_name v_low v_high v_tape v_line v_imagePins v_imageBars v_imageName v_imageLow v_imageHigh v_isKept v_to v_carries v_seen v_rank v_one v_other v_thought v_gone v_tied v_part v_lack v_down v_parts v_lacks v_downs v_sort v_items v_item v_carried v_first v_second) (wX7 cI cZ a v_pins v_bars v_taped v_lined v_at v_fault v_name v_low v_high v_tape v_line v_imagePins v_imageBars v_imageName v_imageLow v_imageHigh v_isKept u.2.1 u.2.2.1 u.2.2.2.1 u.2.2.2.2.1 v_one v_other v_thought v_gone u.2.2.2.2.2.1 u.2.2.2.2.2.2.1 v_lack v_down u.2.2.2.2.2.2.2 v_lacks v_downs v_sort v_items v_item v_carried v_first v_second) u.1 := by
  refine MCi.mk (by decide) (Nat.le_of_ble_eq_true rfl) ?_
  intro p e s m args below meth c A ls Q h0 hP hD hA hS hl hfin0
  have hfin : ∀ (u' : Int32 × (Nat → Int32) × (Nat → Int32) × Int32 × Int32 × (Nat → Int32) × (Nat → Int32) × Int32), u' = u → ∀ (H : Heap) (locs : List Loc) (ls : Array Slot) (pc : Nat), va_P D vwCl (wX7 cI cZ a v_pins v_bars v_taped v_lined v_at v_fault v_name v_low v_high v_tape v_line v_imagePins v_imageBars v_imageName v_imageLow v_imageHigh v_isKept u'.2.1 u'.2.2.1 u'.2.2.2.1 u'.2.2.2.2.1 v_one v_other v_thought v_gone u'.2.2.2.2.2.1 u'.2.2.2.2.2.2.1 v_lack v_down u'.2.2.2.2.2.2.2 v_lacks v_downs v_sort v_items v_item v_carried v_first v_second) H → va_D A (wX7 cI cZ a v_pins v_bars v_taped v_lined v_at v_fault v_name v_low v_high v_tape v_line v_imagePins v_imageBars v_imageName v_imageLow v_imageHigh v_isKept u'.2.1 u'.2.2.1 u'.2.2.2.1 u'.2.2.2.2.1 v_one v_other v_thought v_gone u'.2.2.2.2.2.1 u'.2.2.2.2.2.2.1 v_lack v_down u'.2.2.2.2.2.2.2 v_lacks v_downs v_sort v_items v_item v_carried v_first v_second) → va_S A s.heap H locs → decode cX7_told pc = .ok (.ireturn, 1) → W p l e (uR 20 456) s m args below meth c H locs 0 0 Q (F0 m pc ls [.int u'.1]) := by intro u' hu; subst hu; exact hfin0
  clear hfin0
  obtain ⟨hx, hb, hr, hlk, hml, hown, hts, hK⟩ := id h0
  have hl : lv_has ls 2 [(0, .ref (a 0)), (1, .int p1)] := hl
  have E := hF
  refine lv_iload_n hx hb dX7_told_0 rfl (lv_at hl 1 rfl) ?_
  by_cases c1 : p1 = 0
  · have E := br_p E c1
    refine lv_tableIn (off := 51) (tgt := 52) hx hb dX7_told_1 (by rw [c1]; decide) (by rw [c1]; decide) (by rw [c1]; decide) (by decide) ?_
    refine lv_aload_n hx hb dX7_told_52 rfl (lv_at hl 0 rfl) ?_
    refine gf_X7_71 h0 hP 0 rfl rfl dX7_told_53 ?_
    exact hfin _ (Option.some.inj E) _ _ _ _ hP hD hS dX7_told_56
  · have E := br_n E c1
    by_cases c2 : p1 = 1
    · have E := br_p E c2
      refine lv_tableIn (off := 56) (tgt := 57) hx hb dX7_told_1 (by rw [c2]; decide) (by rw [c2]; decide) (by rw [c2]; decide) (by decide) ?_
      refine lv_aload_n hx hb dX7_told_57 rfl (lv_at hl 0 rfl) ?_
      refine gf_X7_106 h0 hP 0 rfl rfl dX7_told_58 ?_
      exact hfin _ (Option.some.inj E) _ _ _ _ hP hD hS dX7_told_61
    · have E := br_n E c2
      by_cases c3 : p1 = 2
      · have E := br_p E c3
        refine lv_tableIn (off := 61) (tgt := 62) hx hb dX7_told_1 (by rw [c3]; decide) (by rw [c3]; decide) (by rw [c3]; decide) (by decide) ?_
        refine lv_aload_n hx hb dX7_told_62 rfl (lv_at hl 0 rfl) ?_
        obtain ⟨r4, hF, E⟩ := bn_e E
        refine callVfi (wo := (wX7 cI cZ a v_pins v_bars v_taped v_lined v_at v_fault v_name v_low v_high v_tape v_line v_imagePins v_imageBars v_imageName v_imageLow v_imageHigh v_isKept r4.2.1 v_carries r4.2.2.1 r4.2.2.2 v_one v_other v_thought v_gone v_tied v_part v_lack v_down v_parts v_lacks v_downs v_sort v_items v_item v_carried v_first v_second)) h0 (c_X7_rank l D cI cZ cS a v_pins v_bars v_taped v_lined v_at v_fault v_name v_low v_high v_tape v_line v_imagePins v_imageBars v_imageName v_imageLow v_imageHigh v_isKept v_to v_carries v_seen v_rank v_one v_other v_thought v_gone v_tied v_part v_lack v_down v_parts v_lacks v_downs v_sort v_items v_item v_carried v_first v_second r4 hF) (gV wq_799 wq_801 wp_33 wq_8 wq_802) hdX7_rank ⟨Nat.le_of_ble_eq_true rfl, Nat.le_of_ble_eq_true rfl⟩ ⟨Nat.le_refl _, Nat.le_refl _⟩ hP hD hS hA 0 7 rfl rfl rfl hl.1 rfl (Nat.le_of_ble_eq_true rfl) dX7_told_63 (fun H locs hP hD hS => ?_)
        exact hfin _ (Option.some.inj E) _ _ _ _ hP hD hS dX7_told_66
      · have E := br_n E c3
        by_cases c5 : p1 = 3
        · have E := br_p E c5
          refine lv_tableIn (off := 66) (tgt := 67) hx hb dX7_told_1 (by rw [c5]; decide) (by rw [c5]; decide) (by rw [c5]; decide) (by decide) ?_
          refine lv_iconst (v := 2) hx hb dX7_told_67 (by decide) ?_
          refine lv_aload_n hx hb dX7_told_68 rfl (lv_at hl 0 rfl) ?_
          refine gf_X7_71 h0 hP 0 rfl rfl dX7_told_69 ?_
          refine lv_imul hx hb dX7_told_72 ?_
          refine lv_aload_n hx hb dX7_told_73 rfl (lv_at hl 0 rfl) ?_
          obtain ⟨r6, hF, E⟩ := bn_e E
          refine callVfi (wo := (wX7 cI cZ a v_pins v_bars v_taped v_lined v_at v_fault v_name v_low v_high v_tape v_line v_imagePins v_imageBars v_imageName v_imageLow v_imageHigh v_isKept r6.2.1 v_carries r6.2.2.1 r6.2.2.2 v_one v_other v_thought v_gone v_tied v_part v_lack v_down v_parts v_lacks v_downs v_sort v_items v_item v_carried v_first v_second)) h0 (c_X7_rank l D cI cZ cS a v_pins v_bars v_taped v_lined v_at v_fault v_name v_low v_high v_tape v_line v_imagePins v_imageBars v_imageName v_imageLow v_imageHigh v_isKept v_to v_carries v_seen v_rank v_one v_other v_thought v_gone v_tied v_part v_lack v_down v_parts v_lacks v_downs v_sort v_items v_item v_carried v_first v_second r6 hF) (gV wq_799 wq_801 wp_33 wq_8 wq_802) hdX7_rank ⟨Nat.le_of_ble_eq_true rfl, Nat.le_of_ble_eq_true rfl⟩ ⟨Nat.le_refl _, Nat.le_refl _⟩ hP hD hS hA 0 7 rfl rfl rfl hl.1 rfl (Nat.le_of_ble_eq_true rfl) dX7_told_74 (fun H locs hP hD hS => ?_)
          refine lv_isub hx hb dX7_told_77 ?_
          exact hfin _ (Option.some.inj E) _ _ _ _ hP hD hS dX7_told_78
        · have E := br_n E c5
          by_cases c7 : p1 = 4
          · have E := br_p E c7
            refine lv_tableIn (off := 78) (tgt := 79) hx hb dX7_told_1 (by rw [c7]; decide) (by rw [c7]; decide) (by rw [c7]; decide) (by decide) ?_
            refine lv_aload_n hx hb dX7_told_79 rfl (lv_at hl 0 rfl) ?_
            obtain ⟨r8, hF, E⟩ := bn_e E
            refine callVfi (wo := (wX7 cI cZ a v_pins v_bars v_taped v_lined v_at v_fault v_name v_low v_high v_tape v_line v_imagePins v_imageBars v_imageName v_imageLow v_imageHigh v_isKept r8.2.1 v_carries r8.2.2.1 r8.2.2.2 v_one v_other v_thought v_gone v_tied v_part v_lack v_down v_parts v_lacks v_downs v_sort v_items v_item v_carried v_first v_second)) h0 (c_X7_isStiff l D cI cZ cS a v_pins v_bars v_taped v_lined v_at v_fault v_name v_low v_high v_tape v_line v_imagePins v_imageBars v_imageName v_imageLow v_imageHigh v_isKept v_to v_carries v_seen v_rank v_one v_other v_thought v_gone v_tied v_part v_lack v_down v_parts v_lacks v_downs v_sort v_items v_item v_carried v_first v_second r8 hF) (gV wq_807 wq_809 wp_35 wq_8 wq_810) hdX7_isStiff ⟨Nat.le_of_ble_eq_true rfl, Nat.le_of_ble_eq_true rfl⟩ ⟨Nat.le_refl _, Nat.le_refl _⟩ hP hD hS hA 0 7 rfl rfl rfl hl.1 rfl (Nat.le_of_ble_eq_true rfl) dX7_told_80 (fun H locs hP hD hS => ?_)
            refine lv_if_eq (tgt := 90) hx hb dX7_told_83 (by decide) (fun c9 => ?_) (fun c9 => ?_)
            · have E := br_p E c9
              refine lv_iconst (v := 0) hx hb dX7_told_90 (by decide) ?_
              exact hfin _ (Option.some.inj E) _ _ _ _ hP hD hS dX7_told_91
            · have E := br_n E c9
              refine lv_iconst (v := 1) hx hb dX7_told_86 (by decide) ?_
              refine lv_goto (tgt := 91) hx hb dX7_told_87 (by decide) ?_
              exact hfin _ (Option.some.inj E) _ _ _ _ hP hD hS dX7_told_91
          · have E := br_n E c7
            by_cases c10 : p1 = 5
            · have E := br_p E c10
              refine lv_tableIn (off := 91) (tgt := 92) hx hb dX7_told_1 (by rw [c10]; decide) (by rw [c10]; decide) (by rw [c10]; decide) (by decide) ?_
              refine lv_aload_n hx hb dX7_told_92 rfl (lv_at hl 0 rfl) ?_
              obtain ⟨r11, hF, E⟩ := bn_e E
              refine callVfi (wo := (wX7 cI cZ a v_pins v_bars v_taped v_lined v_at v_fault v_name v_low v_high v_tape v_line v_imagePins v_imageBars v_imageName v_imageLow v_imageHigh v_isKept r11.2.1 v_carries r11.2.2.1 r11.2.2.2 v_one v_other v_thought v_gone v_tied v_part v_lack v_down v_parts v_lacks v_downs v_sort v_items v_item v_carried v_first v_second)) h0 (c_X7_extras l D cI cZ cS a v_pins v_bars v_taped v_lined v_at v_fault v_name v_low v_high v_tape v_line v_imagePins v_imageBars v_imageName v_imageLow v_imageHigh v_isKept v_to v_carries v_seen v_rank v_one v_other v_thought v_gone v_tied v_part v_lack v_down v_parts v_lacks v_downs v_sort v_items v_item v_carried v_first v_second r11 hF) (gV wq_811 wq_813 wp_36 wq_8 wq_814) hdX7_extras ⟨Nat.le_of_ble_eq_true rfl, Nat.le_of_ble_eq_true rfl⟩ ⟨Nat.le_refl _, Nat.le_refl _⟩ hP hD hS hA 0 7 rfl rfl rfl hl.1 rfl (Nat.le_of_ble_eq_true rfl) dX7_told_93 (fun H locs hP hD hS => ?_)
              exact hfin _ (Option.some.inj E) _ _ _ _ hP hD hS dX7_told_96
            · have E := br_n E c10
              by_cases c12 : p1 = 6
              · have E := br_p E c12
                refine lv_tableIn (off := 96) (tgt := 97) hx hb dX7_told_1 (by rw [c12]; decide) (by rw [c12]; decide) (by rw [c12]; decide) (by decide) ?_
                refine lv_aload_n hx hb dX7_told_97 rfl (lv_at hl 0 rfl) ?_
                obtain ⟨r13, hF, E⟩ := bn_e E
                refine callVfv (wo := (wX7 cI cZ a v_pins v_bars v_taped v_lined v_at v_fault v_name v_low v_high v_tape v_line v_imagePins v_imageBars v_imageName v_imageLow v_imageHigh v_isKept r13.1 r13.2.1 r13.2.2.1 r13.2.2.2.1 v_one v_other v_thought v_gone r13.2.2.2.2.1 r13.2.2.2.2.2.1 v_lack v_down r13.2.2.2.2.2.2 v_lacks v_downs v_sort v_items v_item v_carried v_first v_second)) h0 (c_X7_finds l D cI cZ cS a v_pins v_bars v_taped v_lined v_at v_fault v_name v_low v_high v_tape v_line v_imagePins v_imageBars v_imageName v_imageLow v_imageHigh v_isKept v_to v_carries v_seen v_rank v_one v_other v_thought v_gone v_tied v_part v_lack v_down v_parts v_lacks v_downs v_sort v_items v_item v_carried v_first v_second r13 hF) (gV wq_791 wq_793 wp_32 wq_8 wq_794) hdX7_finds ⟨Nat.le_of_ble_eq_true rfl, Nat.le_of_ble_eq_true rfl⟩ ⟨Nat.le_refl _, Nat.le_refl _⟩ hP hD hS hA 0 7 rfl rfl rfl hl.1 rfl (Nat.le_of_ble_eq_true rfl) dX7_told_98 (fun H locs hP hD hS => ?_)
                refine lv_aload_n hx hb dX7_told_101 rfl (lv_at hl 0 rfl) ?_
                refine gf_X7_139 h0 hP 0 rfl rfl dX7_told_102 ?_
                exact hfin _ (Option.some.inj E) _ _ _ _ hP hD hS dX7_told_105
              · have E := br_n E c12
                by_cases c14 : p1 = 7
                · have E := br_p E c14
                  refine lv_tableIn (off := 105) (tgt := 106) hx hb dX7_told_1 (by rw [c14]; decide) (by rw [c14]; decide) (by rw [c14]; decide) (by decide) ?_
                  refine lv_aload_n hx hb dX7_told_106 rfl (lv_at hl 0 rfl) ?_
                  obtain ⟨r15, hF, E⟩ := bn_e E
                  refine callVfi (wo := (wX7 cI cZ a v_pins v_bars v_taped v_lined v_at v_fault v_name v_low v_high v_tape v_line v_imagePins v_imageBars v_imageName v_imageLow v_imageHigh v_isKept r15.2.1 v_carries r15.2.2.1 r15.2.2.2 v_one v_other v_thought v_gone v_tied v_part v_lack v_down v_parts v_lacks v_downs v_sort v_items v_item v_carried v_first v_second)) h0 (c_X7_overtied l D cI cZ cS a v_pins v_bars v_taped v_lined v_at v_fault v_name v_low v_high v_tape v_line v_imagePins v_imageBars v_imageName v_imageLow v_imageHigh v_isKept v_to v_carries v_seen v_rank v_one v_other v_thought v_gone v_tied v_part v_lack v_down v_parts v_lacks v_downs v_sort v_items v_item v_carried v_first v_second r15 hF) (gV wq_815 wq_817 wp_37 wq_8 wq_818) hdX7_overtied ⟨Nat.le_of_ble_eq_true rfl, Nat.le_of_ble_eq_true rfl⟩ ⟨Nat.le_refl _, Nat.le_refl _⟩ hP hD hS hA 0 7 rfl rfl rfl hl.1 rfl (Nat.le_of_ble_eq_true rfl) dX7_told_107 (fun H locs hP hD hS => ?_)
                  exact hfin _ (Option.some.inj E) _ _ _ _ hP hD hS dX7_told_110
                · have E := br_n E c14
                  by_cases c16 : p1 = 8
                  · have E := br_p E c16
                    refine lv_tableIn (off := 110) (tgt := 111) hx hb dX7_told_1 (by rw [c16]; decide) (by rw [c16]; decide) (by rw [c16]; decide) (by decide) ?_
                    refine lv_aload_n hx hb dX7_told_111 rfl (lv_at hl 0 rfl) ?_
                    refine gf_X7_155 h0 hP 0 rfl rfl dX7_told_112 ?_
                    exact hfin _ (Option.some.inj E) _ _ _ _ hP hD hS dX7_told_115
                  · have E := br_n E c16
                    refine lv_tableOut (tgt := 116) hx hb dX7_told_1 (tsw_out 8 (by decide) (fun k hk => by match k, hk with | 0, _ => exact c1 | 1, _ => exact c2 | 2, _ => exact c3 | 3, _ => exact c5 | 4, _ => exact c7 | 5, _ => exact c10 | 6, _ => exact c12 | 7, _ => exact c14 | 8, _ => exact c16 | k + 9, hk => exact absurd hk (by omega))) (by decide) ?_
                    refine lv_bipush (v := (-2)) hx hb dX7_told_116 (by decide) ?_
                    exact hfin _ (Option.some.inj E) _ _ _ _ hP hD hS dX7_told_118
theorem hdX7_barAt : yX7_barAt.cls = RX7 ∧ yX7_barAt.cls ≠ "java/lang/invoke/MethodHandle" ∧ yX7_barAt.cls ≠ "java/lang/invoke/VarHandle" ∧ (parseMethodDescriptor yX7_barAt.desc).map (fun d => d.parameters.length) = some 2 := by decide +kernel
noncomputable def FX7_barAt (p1 p2 : Int32) (v_bars : Int32) (v_low v_high v_to v_carries : Nat → Int32) (v_seen v_rank : Int32) : Option (Int32 × (Nat → Int32) × (Nat → Int32) × Int32 × Int32) := ((FX7_isIn p2 0 3).bind (fun r1 => (if r1 = 0 then (some ((-2), v_to, v_carries, v_seen, v_rank)) else ((FX7_isIn p1 0 (v_bars - 1)).bind (fun r3 => (if r3 = 0 then (some ((-12), v_to, v_carries, v_seen, v_rank)) else (if 2 ≤ p2 then ((FX7_carriesAll v_bars v_low v_high v_to v_carries v_seen v_rank).bind (fun r6 => (if p2 = 2 then (gd (vp_in p1 24) (if (r6.2.1 p1.toNatClampNeg) = 0 then (some (0, r6.1, r6.2.1, r6.2.2.1, r6.2.2.2)) else (some (1, r6.1, r6.2.1, r6.2.2.1, r6.2.2.2)))) else ((FX7_rankWithout p1 v_bars v_low v_high r6.1 r6.2.2.1 r6.2.2.2).bind (fun r8 => (if r8.1 = r6.2.2.2 then (some (1, r8.2.1, r6.2.1, r8.2.2.1, r8.2.2.2)) else (some (0, r8.2.1, r6.2.1, r8.2.2.1, r8.2.2.2)))))))) else (if p2 = 0 then (gd (vp_in p1 24) (some ((v_low p1.toNatClampNeg), v_to, v_carries, v_seen, v_rank))) else (gd (vp_in p1 24) (some ((v_high p1.toNatClampNeg), v_to, v_carries, v_seen, v_rank)))))))))))
set_option maxHeartbeats 4000000 in
set_option maxRecDepth 100000 in
theorem c_X7_barAt (l : Launch) (D : va_G) (cI cZ cS : ClassId) (a : Nat → Nat) (v_pins v_bars v_taped v_lined v_at v_fault : Int32) (v_name v_low v_high v_tape v_line : Nat → Int32) (v_imagePins v_imageBars : Int32) (v_imageName v_imageLow v_imageHigh : Nat → Int32) (v_isKept : Int32) (v_to v_carries : Nat → Int32) (v_seen v_rank : Int32) (v_one v_other : Nat → Int32) (v_thought v_gone : Int32) (v_tied v_part v_lack v_down : Nat → Int32) (v_parts v_lacks v_downs : Int32) (v_sort v_items v_item v_carried : Nat → Int32) (v_first v_second : Int32) (p1 p2 : Int32) (u : Int32 × (Nat → Int32) × (Nat → Int32) × Int32 × Int32) (hF : FX7_barAt p1 p2 v_bars v_low v_high v_to v_carries v_seen v_rank = some u) : MCi l D (tyL cI cZ cS) yX7_barAt cX7_barAt 4 (some .int) 18 409 [.ref (a 0), .int p1, .int p2] (wX7 cI cZ a v_pins v_bars v_taped v_lined v_at v_fault v_name v_low v_high v_tape v_line v_imagePins v_imageBars v_imageName v_imageLow v_imageHigh v_isKept v_to v_carries v_seen v_rank v_one v_other v_thought v_gone v_tied v_part v_lack v_down v_parts v_lacks v_downs v_sort v_items v_item v_carried v_first v_second) (wX7 cI cZ a v_pins v_bars v_taped v_lined v_at v_fault v_name v_low v_high v_tape v_line v_imagePins v_imageBars v_imageName v_imageLow v_imageHigh v_isKept u.2.1 u.2.2.1 u.2.2.2.1 u.2.2.2.2 v_one v_other v_thought v_gone v_tied v_part v_lack v_down v_parts v_lacks v_downs v_sort v_items v_item v_carried v_first v_second) u.1 := by
  refine MCi.mk (by decide) (Nat.le_of_ble_eq_true rfl) ?_
  intro p e s m args below meth c A ls Q h0 hP hD hA hS hl hfin0
  have hfin : ∀ (u' : Int32 × (Nat → Int32) × (Nat → Int32) × Int32 × Int32), u' = u → ∀ (H : Heap) (locs : List Loc) (ls : Array Slot) (pc : Nat), va_P D vwCl (wX7 cI cZ a v_pins v_bars v_taped v_lined v_at v_fault v_name v_low v_high v_tape v_line v_imagePins v_imageBars v_imageName v_imageLow v_imageHigh v_isKept u'.2.1 u'.2.2.1 u'.2.2.2.1 u'.2.2.2.2 v_one v_other v_thought v_gone v_tied v_part v_lack v_down v_parts v_lacks v_downs v_sort v_items v_item v_carried v_first v_second) H → va_D A (wX7 cI cZ a v_pins v_bars v_taped v_lined v_at v_fault v_name v_low v_high v_tape v_line v_imagePins v_imageBars v_imageName v_imageLow v_imageHigh v_isKept u'.2.1 u'.2.2.1 u'.2.2.2.1 u'.2.2.2.2 v_one v_other v_thought v_gone v_tied v_part v_lack v_down v_parts v_lacks v_downs v_sort v_items v_item v_carried v_first v_second) → va_S A s.heap H locs → decode cX7_barAt pc = .ok (.ireturn, 1) → W p l e (uR 18 409) s m args below meth c H locs 0 0 Q (F0 m pc ls [.int u'.1]) := by intro u' hu; subst hu; exact hfin0
  clear hfin0
  obtain ⟨hx, hb, hr, hlk, hml, hown, hts, hK⟩ := id h0
  have hl : lv_has ls 4 [(0, .ref (a 0)), (1, .int p1), (2, .int p2)] := hl
  have E := hF
  refine lv_iload_n hx hb dX7_barAt_0 rfl (lv_at hl 2 rfl) ?_
  refine lv_iconst (v := 0) hx hb dX7_barAt_1 (by decide) ?_
  refine lv_iconst (v := 3) hx hb dX7_barAt_2 (by decide) ?_
  obtain ⟨r1, hF, E⟩ := bn_e E
  refine callSi (wo := (wX7 cI cZ a v_pins v_bars v_taped v_lined v_at v_fault v_name v_low v_high v_tape v_line v_imagePins v_imageBars v_imageName v_imageLow v_imageHigh v_isKept v_to v_carries v_seen v_rank v_one v_other v_thought v_gone v_tied v_part v_lack v_down v_parts v_lacks v_downs v_sort v_items v_item v_carried v_first v_second)) h0 (c_X7_isIn l D cI cZ cS p2 0 3 r1 hF) (gS wq_734 wq_735 wq_8 wq_736) hdX7_isIn ⟨Nat.le_of_ble_eq_true rfl, Nat.le_of_ble_eq_true rfl⟩ ⟨Nat.le_refl _, Nat.le_refl _⟩ hP hD hS hA [] rfl rfl rfl rfl hl.1 rfl (Nat.le_of_ble_eq_true rfl) dX7_barAt_3 (fun H locs hP hD hS => ?_)
  refine lv_if_ne (tgt := 12) hx hb dX7_barAt_6 (by decide) (fun c2 => ?_) (fun c2 => ?_)
  · have E := br_n E c2
    refine lv_iload_n hx hb dX7_barAt_12 rfl (lv_at hl 1 rfl) ?_
    refine lv_iconst (v := 0) hx hb dX7_barAt_13 (by decide) ?_
    refine lv_aload_n hx hb dX7_barAt_14 rfl (lv_at hl 0 rfl) ?_
    refine gf_X7_106 h0 hP 0 rfl rfl dX7_barAt_15 ?_
    refine lv_iconst (v := 1) hx hb dX7_barAt_18 (by decide) ?_
    refine lv_isub hx hb dX7_barAt_19 ?_
    obtain ⟨r3, hF, E⟩ := bn_e E
    refine callSi (wo := (wX7 cI cZ a v_pins v_bars v_taped v_lined v_at v_fault v_name v_low v_high v_tape v_line v_imagePins v_imageBars v_imageName v_imageLow v_imageHigh v_isKept v_to v_carries v_seen v_rank v_one v_other v_thought v_gone v_tied v_part v_lack v_down v_parts v_lacks v_downs v_sort v_items v_item v_carried v_first v_second)) h0 (c_X7_isIn l D cI cZ cS p1 0 (v_bars - 1) r3 hF) (gS wq_734 wq_735 wq_8 wq_736) hdX7_isIn ⟨Nat.le_of_ble_eq_true rfl, Nat.le_of_ble_eq_true rfl⟩ ⟨Nat.le_refl _, Nat.le_refl _⟩ hP hD hS hA [] rfl rfl rfl rfl hl.1 rfl (Nat.le_of_ble_eq_true rfl) dX7_barAt_20 (fun H locs hP hD hS => ?_)
    refine lv_if_ne (tgt := 29) hx hb dX7_barAt_23 (by decide) (fun c4 => ?_) (fun c4 => ?_)
    · have E := br_n E c4
      refine lv_iload_n hx hb dX7_barAt_29 rfl (lv_at hl 2 rfl) ?_
      refine lv_iconst (v := 2) hx hb dX7_barAt_30 (by decide) ?_
      refine lv_icmp_ge (tgt := 54) hx hb dX7_barAt_31 (by decide) (fun c5 => ?_) (fun c5 => ?_)
      · have E := br_p E c5
        refine lv_aload_n hx hb dX7_barAt_54 rfl (lv_at hl 0 rfl) ?_
        obtain ⟨r6, hF, E⟩ := bn_e E
        refine callVfv (wo := (wX7 cI cZ a v_pins v_bars v_taped v_lined v_at v_fault v_name v_low v_high v_tape v_line v_imagePins v_imageBars v_imageName v_imageLow v_imageHigh v_isKept r6.1 r6.2.1 r6.2.2.1 r6.2.2.2 v_one v_other v_thought v_gone v_tied v_part v_lack v_down v_parts v_lacks v_downs v_sort v_items v_item v_carried v_first v_second)) h0 (c_X7_carriesAll l D cI cZ cS a v_pins v_bars v_taped v_lined v_at v_fault v_name v_low v_high v_tape v_line v_imagePins v_imageBars v_imageName v_imageLow v_imageHigh v_isKept v_to v_carries v_seen v_rank v_one v_other v_thought v_gone v_tied v_part v_lack v_down v_parts v_lacks v_downs v_sort v_items v_item v_carried v_first v_second r6 hF) (gV wq_759 wq_761 wp_25 wq_8 wq_762) hdX7_carriesAll ⟨Nat.le_of_ble_eq_true rfl, Nat.le_of_ble_eq_true rfl⟩ ⟨Nat.le_refl _, Nat.le_refl _⟩ hP hD hS hA 0 7 rfl rfl rfl hl.1 rfl (Nat.le_of_ble_eq_true rfl) dX7_barAt_55 (fun H locs hP hD hS => ?_)
        refine lv_iload_n hx hb dX7_barAt_58 rfl (lv_at hl 2 rfl) ?_
        refine lv_iconst (v := 2) hx hb dX7_barAt_59 (by decide) ?_
        refine lv_icmp_ne (tgt := 78) hx hb dX7_barAt_60 (by decide) (fun c7 => ?_) (fun c7 => ?_)
        · have E := br_n E c7
          refine lv_aload_n hx hb dX7_barAt_78 rfl (lv_at hl 0 rfl) ?_
          refine gf_X7_83 h0 hP 0 rfl rfl dX7_barAt_79 ?_
          refine lv_istore_n (lv' := [(3, .int r6.2.2.2), (0, .ref (a 0)), (1, .int p1), (2, .int p2)]) hx hb dX7_barAt_82 rfl hl (by decide) rfl (fun ls hl => ?_)
          refine lv_aload_n hx hb dX7_barAt_83 rfl (lv_at hl 1 rfl) ?_
          refine lv_iload_n hx hb dX7_barAt_84 rfl (lv_at hl 2 rfl) ?_
          obtain ⟨r8, hF, E⟩ := bn_e E
          refine callVfi (wo := (wX7 cI cZ a v_pins v_bars v_taped v_lined v_at v_fault v_name v_low v_high v_tape v_line v_imagePins v_imageBars v_imageName v_imageLow v_imageHigh v_isKept r8.2.1 r6.2.1 r8.2.2.1 r8.2.2.2 v_one v_other v_thought v_gone v_tied v_part v_lack v_down v_parts v_lacks v_downs v_sort v_items v_item v_carried v_first v_second)) h0 (c_X7_rankWithout l D cI cZ cS a v_pins v_bars v_taped v_lined v_at v_fault v_name v_low v_high v_tape v_line v_imagePins v_imageBars v_imageName v_imageLow v_imageHigh v_isKept r6.1 r6.2.1 r6.2.2.1 r6.2.2.2 v_one v_other v_thought v_gone v_tied v_part v_lack v_down v_parts v_lacks v_downs v_sort v_items v_item v_carried v_first v_second p1 r8 hF) (gV wq_803 wq_805 wp_34 wq_8 wq_806) hdX7_rankWithout ⟨Nat.le_of_ble_eq_true rfl, Nat.le_of_ble_eq_true rfl⟩ ⟨Nat.le_refl _, Nat.le_refl _⟩ hP hD hS hA 0 7 rfl rfl rfl hl.1 rfl (Nat.le_of_ble_eq_true rfl) dX7_barAt_85 (fun H locs hP hD hS => ?_)
          refine lv_iload_n hx hb dX7_barAt_88 rfl (lv_at hl 0 rfl) ?_
          refine lv_icmp_ne (tgt := 96) hx hb dX7_barAt_89 (by decide) (fun c9 => ?_) (fun c9 => ?_)
          · have E := br_n E c9
            refine lv_iconst (v := 0) hx hb dX7_barAt_96 (by decide) ?_
            exact hfin _ (Option.some.inj E) _ _ _ _ hP hD hS dX7_barAt_97
          · have E := br_p E c9
            refine lv_iconst (v := 1) hx hb dX7_barAt_92 (by decide) ?_
            refine lv_goto (tgt := 97) hx hb dX7_barAt_93 (by decide) ?_
            exact hfin _ (Option.some.inj E) _ _ _ _ hP hD hS dX7_barAt_97
        · have E := br_p E c7
          refine lv_aload_n hx hb dX7_barAt_63 rfl (lv_at hl 0 rfl) ?_
          refine gf_X7_37 h0 hP 0 rfl rfl dX7_barAt_64 ?_
          refine lv_iload_n hx hb dX7_barAt_67 rfl (lv_at hl 1 rfl) ?_
          obtain ⟨g10, E⟩ := gd_e E
          refine aldz hx hb hK hP 10 rfl rfl g10 dX7_barAt_68 ?_
          refine lv_if_eq (tgt := 76) hx hb dX7_barAt_69 (by decide) (fun c11 => ?_) (fun c11 => ?_)
          · have E := br_p E c11
            refine lv_iconst (v := 0) hx hb dX7_barAt_76 (by decide) ?_
            exact hfin _ (Option.some.inj E) _ _ _ _ hP hD hS dX7_barAt_77
          · have E := br_n E c11
            refine lv_iconst (v := 1) hx hb dX7_barAt_72 (by decide) ?_
            refine lv_goto (tgt := 77) hx hb dX7_barAt_73 (by decide) ?_
            exact hfin _ (Option.some.inj E) _ _ _ _ hP hD hS dX7_barAt_77
      · have E := br_n E c5
        refine lv_iload_n hx hb dX7_barAt_34 rfl (lv_at hl 2 rfl) ?_
        refine lv_if_ne (tgt := 47) hx hb dX7_barAt_35 (by decide) (fun c12 => ?_) (fun c12 => ?_)
        · have E := br_n E c12
          refine lv_aload_n hx hb dX7_barAt_47 rfl (lv_at hl 0 rfl) ?_
          refine gf_X7_16 h0 hP 0 rfl rfl dX7_barAt_48 ?_
          refine lv_iload_n hx hb dX7_barAt_51 rfl (lv_at hl 1 rfl) ?_
          obtain ⟨g13, E⟩ := gd_e E
          refine aldi hx hb hK hP 3 rfl rfl g13 dX7_barAt_52 ?_
          exact hfin _ (Option.some.inj E) _ _ _ _ hP hD hS dX7_barAt_53
        · have E := br_p E c12
          refine lv_aload_n hx hb dX7_barAt_38 rfl (lv_at hl 0 rfl) ?_
          refine gf_X7_13 h0 hP 0 rfl rfl dX7_barAt_39 ?_
          refine lv_iload_n hx hb dX7_barAt_42 rfl (lv_at hl 1 rfl) ?_
          obtain ⟨g14, E⟩ := gd_e E
          refine aldi hx hb hK hP 2 rfl rfl g14 dX7_barAt_43 ?_
          refine lv_goto (tgt := 53) hx hb dX7_barAt_44 (by decide) ?_
          exact hfin _ (Option.some.inj E) _ _ _ _ hP hD hS dX7_barAt_53
    · have E := br_p E c4
      refine lv_bipush (v := (-12)) hx hb dX7_barAt_26 (by decide) ?_
      exact hfin _ (Option.some.inj E) _ _ _ _ hP hD hS dX7_barAt_28
  · have E := br_p E c2
    refine lv_bipush (v := (-2)) hx hb dX7_barAt_9 (by decide) ?_
    exact hfin _ (Option.some.inj E) _ _ _ _ hP hD hS dX7_barAt_11
theorem hdX7_neighbours : yX7_neighbours.cls = RX7 ∧ yX7_neighbours.cls ≠ "java/lang/invoke/MethodHandle" ∧ yX7_neighbours.cls ≠ "java/lang/invoke/VarHandle" ∧ (parseMethodDescriptor yX7_neighbours.desc).map (fun d => d.parameters.length) = some 1 := by decide +kernel
noncomputable def FX7_neighbours_b56 (p1 v_bars : Int32) (v_low v_high : Nat → Int32) (k4 : Int32 → Int32 → Option (Int32)) (l3 t0 t1 : Int32) : Option (Int32) := (k4 (t0 ||| t1) (l3 + 1))
noncomputable def FX7_neighbours_b4 (p1 v_bars : Int32) (v_low v_high : Nat → Int32)  (k4 : Int32 → Int32 → Option (Int32)) (l2 l3 : Int32) : Option (Int32) := (if v_bars ≤ l3 then (some l2) else (gd (vp_in l3 24) (if (v_low l3.toNatClampNeg) = p1 then (gd (vp_in l3 24) (FX7_neighbours_b56 p1 v_bars v_low v_high k4 l3 l2 ((1 : Int32) <<< ((v_high l3.toNatClampNeg) &&& 31)))) else (gd (vp_in l3 24) (if (v_high l3.toNatClampNeg) = p1 then (gd (vp_in l3 24) (FX7_neighbours_b56 p1 v_bars v_low v_high k4 l3 l2 ((1 : Int32) <<< ((v_low l3.toNatClampNeg) &&& 31)))) else (FX7_neighbours_b56 p1 v_bars v_low v_high k4 l3 l2 0))))))
noncomputable def FX7_neighbours_h4 (p1 v_bars : Int32) (v_low v_high : Nat → Int32)  : Nat → Int32 → Int32 → Option (Int32)
  | 0 => fun _ _ => none
  | n + 1 => fun l2 l3 => FX7_neighbours_b4 p1 v_bars v_low v_high  (FX7_neighbours_h4 p1 v_bars v_low v_high  n) l2 l3
noncomputable def FX7_neighbours (p1 : Int32) (v_bars : Int32) (v_low v_high : Nat → Int32) : Option (Int32) := (FX7_neighbours_h4 p1 v_bars v_low v_high  5000 0 0)
set_option maxHeartbeats 4000000 in
set_option maxRecDepth 100000 in
theorem c_X7_neighbours (l : Launch) (D : va_G) (cI cZ cS : ClassId) (a : Nat → Nat) (v_pins v_bars v_taped v_lined v_at v_fault : Int32) (v_name v_low v_high v_tape v_line : Nat → Int32) (v_imagePins v_imageBars : Int32) (v_imageName v_imageLow v_imageHigh : Nat → Int32) (v_isKept : Int32) (v_to v_carries : Nat → Int32) (v_seen v_rank : Int32) (v_one v_other : Nat → Int32) (v_thought v_gone : Int32) (v_tied v_part v_lack v_down : Nat → Int32) (v_parts v_lacks v_downs : Int32) (v_sort v_items v_item v_carried : Nat → Int32) (v_first v_second : Int32) (p1 : Int32) (u : Int32) (hF : FX7_neighbours p1 v_bars v_low v_high = some u) : MCi l D (tyL cI cZ cS) yX7_neighbours cX7_neighbours 4 (some .int) 0 0 [.ref (a 0), .int p1] (wX7 cI cZ a v_pins v_bars v_taped v_lined v_at v_fault v_name v_low v_high v_tape v_line v_imagePins v_imageBars v_imageName v_imageLow v_imageHigh v_isKept v_to v_carries v_seen v_rank v_one v_other v_thought v_gone v_tied v_part v_lack v_down v_parts v_lacks v_downs v_sort v_items v_item v_carried v_first v_second) (wX7 cI cZ a v_pins v_bars v_taped v_lined v_at v_fault v_name v_low v_high v_tape v_line v_imagePins v_imageBars v_imageName v_imageLow v_imageHigh v_isKept v_to v_carries v_seen v_rank v_one v_other v_thought v_gone v_tied v_part v_lack v_down v_parts v_lacks v_downs v_sort v_items v_item v_carried v_first v_second) u := by
  refine MCi.mk (by decide) (Nat.le_of_ble_eq_true rfl) ?_
  intro p e s m args below meth c A ls Q h0 hP hD hA hS hl hfin0
  have hfin : ∀ (u' : Int32), u' = u → ∀ (H : Heap) (locs : List Loc) (ls : Array Slot) (pc : Nat), va_P D vwCl (wX7 cI cZ a v_pins v_bars v_taped v_lined v_at v_fault v_name v_low v_high v_tape v_line v_imagePins v_imageBars v_imageName v_imageLow v_imageHigh v_isKept v_to v_carries v_seen v_rank v_one v_other v_thought v_gone v_tied v_part v_lack v_down v_parts v_lacks v_downs v_sort v_items v_item v_carried v_first v_second) H → va_D A (wX7 cI cZ a v_pins v_bars v_taped v_lined v_at v_fault v_name v_low v_high v_tape v_line v_imagePins v_imageBars v_imageName v_imageLow v_imageHigh v_isKept v_to v_carries v_seen v_rank v_one v_other v_thought v_gone v_tied v_part v_lack v_down v_parts v_lacks v_downs v_sort v_items v_item v_carried v_first v_second) → va_S A s.heap H locs → decode cX7_neighbours pc = .ok (.ireturn, 1) → W p l e (uR 0 0) s m args below meth c H locs 0 0 Q (F0 m pc ls [.int u']) := by intro u' hu; subst hu; exact hfin0
  clear hfin0
  obtain ⟨hx, hb, hr, hlk, hml, hown, hts, hK⟩ := id h0
  have hl : lv_has ls 4 [(0, .ref (a 0)), (1, .int p1)] := hl
  have E := hF
  have J4 : ∀ (n4 : Nat) (l2 l3 : Int32) (H : Heap) (locs : List Loc) (ls : Array Slot), FX7_neighbours_h4 p1 v_bars v_low v_high  n4 l2 l3 = some u → va_P D vwCl (wX7 cI cZ a v_pins v_bars v_taped v_lined v_at v_fault v_name v_low v_high v_tape v_line v_imagePins v_imageBars v_imageName v_imageLow v_imageHigh v_isKept v_to v_carries v_seen v_rank v_one v_other v_thought v_gone v_tied v_part v_lack v_down v_parts v_lacks v_downs v_sort v_items v_item v_carried v_first v_second) H → va_D A (wX7 cI cZ a v_pins v_bars v_taped v_lined v_at v_fault v_name v_low v_high v_tape v_line v_imagePins v_imageBars v_imageName v_imageLow v_imageHigh v_isKept v_to v_carries v_seen v_rank v_one v_other v_thought v_gone v_tied v_part v_lack v_down v_parts v_lacks v_downs v_sort v_items v_item v_carried v_first v_second) → va_S A s.heap H locs → lv_has ls 4 [(0, .ref (a 0)), (1, .int p1), (2, .int l2), (3, .int l3)] → W p l e (uR 0 0) s m args below meth c H locs 0 0 Q (F0 m 4 ls []) := by
    intro n4
    induction n4 with
    | zero => intro l2 l3 H locs ls E; exact none_e E
    | succ n4 ih4 =>
      intro l2 l3 H locs ls E hP hD hS hl
      have E : FX7_neighbours_b4 p1 v_bars v_low v_high  (FX7_neighbours_h4 p1 v_bars v_low v_high  n4) l2 l3 = some u := E
      have J56 : ∀ (l3 t0 t1 : Int32) (H : Heap) (locs : List Loc) (ls : Array Slot), FX7_neighbours_b56 p1 v_bars v_low v_high (FX7_neighbours_h4 p1 v_bars v_low v_high  n4) l3 t0 t1 = some u → va_P D vwCl (wX7 cI cZ a v_pins v_bars v_taped v_lined v_at v_fault v_name v_low v_high v_tape v_line v_imagePins v_imageBars v_imageName v_imageLow v_imageHigh v_isKept v_to v_carries v_seen v_rank v_one v_other v_thought v_gone v_tied v_part v_lack v_down v_parts v_lacks v_downs v_sort v_items v_item v_carried v_first v_second) H → va_D A (wX7 cI cZ a v_pins v_bars v_taped v_lined v_at v_fault v_name v_low v_high v_tape v_line v_imagePins v_imageBars v_imageName v_imageLow v_imageHigh v_isKept v_to v_carries v_seen v_rank v_one v_other v_thought v_gone v_tied v_part v_lack v_down v_parts v_lacks v_downs v_sort v_items v_item v_carried v_first v_second) → va_S A s.heap H locs → lv_has ls 4 [(0, .ref (a 0)), (1, .int p1), (3, .int l3)] → W p l e (uR 0 0) s m args below meth c H locs 0 0 Q (F0 m 56 ls [.int t1, .int t0]) := by
        intro l3 t0 t1 H locs ls E hP hD hS hl
        refine lv_ior hx hb dX7_neighbours_56 ?_
        refine lv_istore_n (lv' := [(2, .int (t0 ||| t1)), (0, .ref (a 0)), (1, .int p1), (3, .int l3)]) hx hb dX7_neighbours_57 rfl hl (by decide) rfl (fun ls hl => ?_)
        refine lv_iinc (v := (l3 + 1)) (lv' := [(3, .int (l3 + 1)), (2, .int (t0 ||| t1)), (0, .ref (a 0)), (1, .int p1)]) hx hb dX7_neighbours_58 hl (k := 3) rfl rfl (by decide) rfl (fun ls hl => ?_)
        refine lv_goto (tgt := 4) hx hb dX7_neighbours_61 (by decide) ?_
        exact ih4 _ _ _ _ _ E hP hD hS (lv_sub hl [2, 3, 1, 0] rfl)
      refine lv_iload_n hx hb dX7_neighbours_4 rfl (lv_at hl 3 rfl) ?_
      refine lv_aload_n hx hb dX7_neighbours_5 rfl (lv_at hl 0 rfl) ?_
      refine gf_X7_106 h0 hP 0 rfl rfl dX7_neighbours_6 ?_
      refine lv_icmp_ge (tgt := 64) hx hb dX7_neighbours_9 (by decide) (fun c1 => ?_) (fun c1 => ?_)
      · have E := br_p E c1
        refine lv_iload_n hx hb dX7_neighbours_64 rfl (lv_at hl 2 rfl) ?_
        exact hfin _ (Option.some.inj E) _ _ _ _ hP hD hS dX7_neighbours_65
      · have E := br_n E c1
        refine lv_iload_n hx hb dX7_neighbours_12 rfl (lv_at hl 2 rfl) ?_
        refine lv_aload_n hx hb dX7_neighbours_13 rfl (lv_at hl 0 rfl) ?_
        refine gf_X7_13 h0 hP 0 rfl rfl dX7_neighbours_14 ?_
        refine lv_iload_n hx hb dX7_neighbours_17 rfl (lv_at hl 3 rfl) ?_
        obtain ⟨g2, E⟩ := gd_e E
        refine aldi hx hb hK hP 2 rfl rfl g2 dX7_neighbours_18 ?_
        refine lv_iload_n hx hb dX7_neighbours_19 rfl (lv_at hl 1 rfl) ?_
        refine lv_icmp_ne (tgt := 34) hx hb dX7_neighbours_20 (by decide) (fun c3 => ?_) (fun c3 => ?_)
        · have E := br_n E c3
          refine lv_aload_n hx hb dX7_neighbours_34 rfl (lv_at hl 0 rfl) ?_
          refine gf_X7_16 h0 hP 0 rfl rfl dX7_neighbours_35 ?_
          refine lv_iload_n hx hb dX7_neighbours_38 rfl (lv_at hl 3 rfl) ?_
          obtain ⟨g4, E⟩ := gd_e E
          refine aldi hx hb hK hP 3 rfl rfl g4 dX7_neighbours_39 ?_
          refine lv_iload_n hx hb dX7_neighbours_40 rfl (lv_at hl 1 rfl) ?_
          refine lv_icmp_ne (tgt := 55) hx hb dX7_neighbours_41 (by decide) (fun c5 => ?_) (fun c5 => ?_)
          · have E := br_n E c5
            refine lv_iconst (v := 0) hx hb dX7_neighbours_55 (by decide) ?_
            exact J56 _ _ _ _ _ _ E hP hD hS (lv_sub hl [0, 1, 3] rfl)
          · have E := br_p E c5
            refine lv_iconst (v := 1) hx hb dX7_neighbours_44 (by decide) ?_
            refine lv_aload_n hx hb dX7_neighbours_45 rfl (lv_at hl 0 rfl) ?_
            refine gf_X7_13 h0 hP 0 rfl rfl dX7_neighbours_46 ?_
            refine lv_iload_n hx hb dX7_neighbours_49 rfl (lv_at hl 3 rfl) ?_
            obtain ⟨g6, E⟩ := gd_e E
            refine aldi hx hb hK hP 2 rfl rfl g6 dX7_neighbours_50 ?_
            refine lv_ishl hx hb dX7_neighbours_51 ?_
            refine lv_goto (tgt := 56) hx hb dX7_neighbours_52 (by decide) ?_
            exact J56 _ _ _ _ _ _ E hP hD hS (lv_sub hl [0, 1, 3] rfl)
        · have E := br_p E c3
          refine lv_iconst (v := 1) hx hb dX7_neighbours_23 (by decide) ?_
          refine lv_aload_n hx hb dX7_neighbours_24 rfl (lv_at hl 0 rfl) ?_
          refine gf_X7_16 h0 hP 0 rfl rfl dX7_neighbours_25 ?_
          refine lv_iload_n hx hb dX7_neighbours_28 rfl (lv_at hl 3 rfl) ?_
          obtain ⟨g7, E⟩ := gd_e E
          refine aldi hx hb hK hP 3 rfl rfl g7 dX7_neighbours_29 ?_
          refine lv_ishl hx hb dX7_neighbours_30 ?_
          refine lv_goto (tgt := 56) hx hb dX7_neighbours_31 (by decide) ?_
          exact J56 _ _ _ _ _ _ E hP hD hS (lv_sub hl [0, 1, 3] rfl)
  refine lv_iconst (v := 0) hx hb dX7_neighbours_0 (by decide) ?_
  refine lv_istore_n (lv' := [(2, .int 0), (0, .ref (a 0)), (1, .int p1)]) hx hb dX7_neighbours_1 rfl hl (by decide) rfl (fun ls hl => ?_)
  refine lv_iconst (v := 0) hx hb dX7_neighbours_2 (by decide) ?_
  refine lv_istore_n (lv' := [(3, .int 0), (2, .int 0), (0, .ref (a 0)), (1, .int p1)]) hx hb dX7_neighbours_3 rfl hl (by decide) rfl (fun ls hl => ?_)
  exact J4 5000 _ _ _ _ _ E hP hD hS (lv_sub hl [2, 3, 1, 0] rfl)
theorem hdX7_lettersOf : yX7_lettersOf.cls = RX7 ∧ yX7_lettersOf.cls ≠ "java/lang/invoke/MethodHandle" ∧ yX7_lettersOf.cls ≠ "java/lang/invoke/VarHandle" ∧ (parseMethodDescriptor yX7_lettersOf.desc).map (fun d => d.parameters.length) = some 1 := by decide +kernel
noncomputable def FX7_lettersOf_b2 (p1 : Int32) (v_name : Nat → Int32)  (k2 : Int32 → Option (Int32)) (l2 : Int32) : Option (Int32) := (if 4 ≤ l2 then (some l2) else (gd (vp_in ((4 * p1) + l2) 48) (if (v_name ((4 * p1) + l2).toNatClampNeg) = 0 then (some l2) else (k2 (l2 + 1)))))
noncomputable def FX7_lettersOf_h2 (p1 : Int32) (v_name : Nat → Int32)  : Nat → Int32 → Option (Int32)
  | 0 => fun _ => none
  | n + 1 => fun l2 => FX7_lettersOf_b2 p1 v_name  (FX7_lettersOf_h2 p1 v_name  n) l2
noncomputable def FX7_lettersOf (p1 : Int32) (v_name : Nat → Int32) : Option (Int32) := (FX7_lettersOf_h2 p1 v_name  5000 0)
set_option maxHeartbeats 4000000 in
set_option maxRecDepth 100000 in
theorem c_X7_lettersOf (l : Launch) (D : va_G) (cI cZ cS : ClassId) (a : Nat → Nat) (v_pins v_bars v_taped v_lined v_at v_fault : Int32) (v_name v_low v_high v_tape v_line : Nat → Int32) (v_imagePins v_imageBars : Int32) (v_imageName v_imageLow v_imageHigh : Nat → Int32) (v_isKept : Int32) (v_to v_carries : Nat → Int32) (v_seen v_rank : Int32) (v_one v_other : Nat → Int32) (v_thought v_gone : Int32) (v_tied v_part v_lack v_down : Nat → Int32) (v_parts v_lacks v_downs : Int32) (v_sort v_items v_item v_carried : Nat → Int32) (v_first v_second : Int32) (p1 : Int32) (u : Int32) (hF : FX7_lettersOf p1 v_name = some u) : MCi l D (tyL cI cZ cS) yX7_lettersOf cX7_lettersOf 3 (some .int) 0 0 [.ref (a 0), .int p1] (wX7 cI cZ a v_pins v_bars v_taped v_lined v_at v_fault v_name v_low v_high v_tape v_line v_imagePins v_imageBars v_imageName v_imageLow v_imageHigh v_isKept v_to v_carries v_seen v_rank v_one v_other v_thought v_gone v_tied v_part v_lack v_down v_parts v_lacks v_downs v_sort v_items v_item v_carried v_first v_second) (wX7 cI cZ a v_pins v_bars v_taped v_lined v_at v_fault v_name v_low v_high v_tape v_line v_imagePins v_imageBars v_imageName v_imageLow v_imageHigh v_isKept v_to v_carries v_seen v_rank v_one v_other v_thought v_gone v_tied v_part v_lack v_down v_parts v_lacks v_downs v_sort v_items v_item v_carried v_first v_second) u := by
  refine MCi.mk (by decide) (Nat.le_of_ble_eq_true rfl) ?_
  intro p e s m args below meth c A ls Q h0 hP hD hA hS hl hfin0
  have hfin : ∀ (u' : Int32), u' = u → ∀ (H : Heap) (locs : List Loc) (ls : Array Slot) (pc : Nat), va_P D vwCl (wX7 cI cZ a v_pins v_bars v_taped v_lined v_at v_fault v_name v_low v_high v_tape v_line v_imagePins v_imageBars v_imageName v_imageLow v_imageHigh v_isKept v_to v_carries v_seen v_rank v_one v_other v_thought v_gone v_tied v_part v_lack v_down v_parts v_lacks v_downs v_sort v_items v_item v_carried v_first v_second) H → va_D A (wX7 cI cZ a v_pins v_bars v_taped v_lined v_at v_fault v_name v_low v_high v_tape v_line v_imagePins v_imageBars v_imageName v_imageLow v_imageHigh v_isKept v_to v_carries v_seen v_rank v_one v_other v_thought v_gone v_tied v_part v_lack v_down v_parts v_lacks v_downs v_sort v_items v_item v_carried v_first v_second) → va_S A s.heap H locs → decode cX7_lettersOf pc = .ok (.ireturn, 1) → W p l e (uR 0 0) s m args below meth c H locs 0 0 Q (F0 m pc ls [.int u']) := by intro u' hu; subst hu; exact hfin0
  clear hfin0
  obtain ⟨hx, hb, hr, hlk, hml, hown, hts, hK⟩ := id h0
  have hl : lv_has ls 3 [(0, .ref (a 0)), (1, .int p1)] := hl
  have E := hF
  have J2 : ∀ (n2 : Nat) (l2 : Int32) (H : Heap) (locs : List Loc) (ls : Array Slot), FX7_lettersOf_h2 p1 v_name  n2 l2 = some u → va_P D vwCl (wX7 cI cZ a v_pins v_bars v_taped v_lined v_at v_fault v_name v_low v_high v_tape v_line v_imagePins v_imageBars v_imageName v_imageLow v_imageHigh v_isKept v_to v_carries v_seen v_rank v_one v_other v_thought v_gone v_tied v_part v_lack v_down v_parts v_lacks v_downs v_sort v_items v_item v_carried v_first v_second) H → va_D A (wX7 cI cZ a v_pins v_bars v_taped v_lined v_at v_fault v_name v_low v_high v_tape v_line v_imagePins v_imageBars v_imageName v_imageLow v_imageHigh v_isKept v_to v_carries v_seen v_rank v_one v_other v_thought v_gone v_tied v_part v_lack v_down v_parts v_lacks v_downs v_sort v_items v_item v_carried v_first v_second) → va_S A s.heap H locs → lv_has ls 3 [(0, .ref (a 0)), (1, .int p1), (2, .int l2)] → W p l e (uR 0 0) s m args below meth c H locs 0 0 Q (F0 m 2 ls []) := by
    intro n2
    induction n2 with
    | zero => intro l2 H locs ls E; exact none_e E
    | succ n2 ih2 =>
      intro l2 H locs ls E hP hD hS hl
      have E : FX7_lettersOf_b2 p1 v_name  (FX7_lettersOf_h2 p1 v_name  n2) l2 = some u := E
      refine lv_iload_n hx hb dX7_lettersOf_2 rfl (lv_at hl 2 rfl) ?_
      refine lv_iconst (v := 4) hx hb dX7_lettersOf_3 (by decide) ?_
      refine lv_icmp_ge (tgt := 26) hx hb dX7_lettersOf_4 (by decide) (fun c1 => ?_) (fun c1 => ?_)
      · have E := br_p E c1
        refine lv_iload_n hx hb dX7_lettersOf_26 rfl (lv_at hl 2 rfl) ?_
        exact hfin _ (Option.some.inj E) _ _ _ _ hP hD hS dX7_lettersOf_27
      · have E := br_n E c1
        refine lv_aload_n hx hb dX7_lettersOf_7 rfl (lv_at hl 0 rfl) ?_
        refine gf_X7_9 h0 hP 0 rfl rfl dX7_lettersOf_8 ?_
        refine lv_iconst (v := 4) hx hb dX7_lettersOf_11 (by decide) ?_
        refine lv_iload_n hx hb dX7_lettersOf_12 rfl (lv_at hl 1 rfl) ?_
        refine lv_imul hx hb dX7_lettersOf_13 ?_
        refine lv_iload_n hx hb dX7_lettersOf_14 rfl (lv_at hl 2 rfl) ?_
        refine lv_iadd hx hb dX7_lettersOf_15 ?_
        obtain ⟨g2, E⟩ := gd_e E
        refine aldi hx hb hK hP 1 rfl rfl g2 dX7_lettersOf_16 ?_
        refine lv_if_eq (tgt := 26) hx hb dX7_lettersOf_17 (by decide) (fun c3 => ?_) (fun c3 => ?_)
        · have E := br_p E c3
          refine lv_iload_n hx hb dX7_lettersOf_26 rfl (lv_at hl 2 rfl) ?_
          exact hfin _ (Option.some.inj E) _ _ _ _ hP hD hS dX7_lettersOf_27
        · have E := br_n E c3
          refine lv_iinc (v := (l2 + 1)) (lv' := [(2, .int (l2 + 1)), (0, .ref (a 0)), (1, .int p1)]) hx hb dX7_lettersOf_20 hl (k := 2) rfl rfl (by decide) rfl (fun ls hl => ?_)
          refine lv_goto (tgt := 2) hx hb dX7_lettersOf_23 (by decide) ?_
          exact ih2 _ _ _ _ E hP hD hS (lv_sub hl [1, 2, 0] rfl)
  refine lv_iconst (v := 0) hx hb dX7_lettersOf_0 (by decide) ?_
  refine lv_istore_n (lv' := [(2, .int 0), (0, .ref (a 0)), (1, .int p1)]) hx hb dX7_lettersOf_1 rfl hl (by decide) rfl (fun ls hl => ?_)
  exact J2 5000 _ _ _ _ E hP hD hS (lv_sub hl [1, 2, 0] rfl)
theorem hdX7_partsOf : yX7_partsOf.cls = RX7 ∧ yX7_partsOf.cls ≠ "java/lang/invoke/MethodHandle" ∧ yX7_partsOf.cls ≠ "java/lang/invoke/VarHandle" ∧ (parseMethodDescriptor yX7_partsOf.desc).map (fun d => d.parameters.length) = some 1 := by decide +kernel
noncomputable def FX7_partsOf_b8 (p1 v_pins v_bars : Int32) (v_low v_high : Nat → Int32)  (k8 : Int32 → Int32 → (Nat → Int32) → (Nat → Int32) → Int32 → Int32 → (Nat → Int32) → (Nat → Int32) → Int32 → Option (Int32 × (Nat → Int32) × (Nat → Int32) × Int32 × Int32 × (Nat → Int32) × (Nat → Int32) × Int32)) (l2 l3 : Int32) (v_to v_carries : Nat → Int32) (v_seen v_rank : Int32) (v_tied v_part : Nat → Int32) (v_parts : Int32) : Option (Int32 × (Nat → Int32) × (Nat → Int32) × Int32 × Int32 × (Nat → Int32) × (Nat → Int32) × Int32) := (if v_parts ≤ l3 then (some (l2, v_to, v_carries, v_seen, v_rank, v_tied, v_part, v_parts)) else (gd (vp_in l3 144) (k8 (l2 + (((v_part l3.toNatClampNeg) >>> (p1 &&& 31)) &&& 1)) (l3 + 1) v_to v_carries v_seen v_rank v_tied v_part v_parts)))
noncomputable def FX7_partsOf_h8 (p1 v_pins v_bars : Int32) (v_low v_high : Nat → Int32)  : Nat → Int32 → Int32 → (Nat → Int32) → (Nat → Int32) → Int32 → Int32 → (Nat → Int32) → (Nat → Int32) → Int32 → Option (Int32 × (Nat → Int32) × (Nat → Int32) × Int32 × Int32 × (Nat → Int32) × (Nat → Int32) × Int32)
  | 0 => fun _ _ _ _ _ _ _ _ _ => none
  | n + 1 => fun l2 l3 v_to v_carries v_seen v_rank v_tied v_part v_parts => FX7_partsOf_b8 p1 v_pins v_bars v_low v_high  (FX7_partsOf_h8 p1 v_pins v_bars v_low v_high  n) l2 l3 v_to v_carries v_seen v_rank v_tied v_part v_parts
noncomputable def FX7_partsOf (p1 : Int32) (v_pins v_bars : Int32) (v_low v_high v_to v_carries : Nat → Int32) (v_seen v_rank : Int32) (v_tied v_part : Nat → Int32) (v_parts : Int32) : Option (Int32 × (Nat → Int32) × (Nat → Int32) × Int32 × Int32 × (Nat → Int32) × (Nat → Int32) × Int32) := ((FX7_finds v_pins v_bars v_low v_high v_to v_carries v_seen v_rank v_tied v_part v_parts).bind (fun r3 => (FX7_partsOf_h8 p1 v_pins v_bars v_low v_high  5000 0 0 r3.1 r3.2.1 r3.2.2.1 r3.2.2.2.1 r3.2.2.2.2.1 r3.2.2.2.2.2.1 r3.2.2.2.2.2.2)))
set_option maxHeartbeats 4000000 in
set_option maxRecDepth 100000 in
theorem c_X7_partsOf (l : Launch) (D : va_G) (cI cZ cS : ClassId) (a : Nat → Nat) (v_pins v_bars v_taped v_lined v_at v_fault : Int32) (v_name v_low v_high v_tape v_line : Nat → Int32) (v_imagePins v_imageBars : Int32) (v_imageName v_imageLow v_imageHigh : Nat → Int32) (v_isKept : Int32) (v_to v_carries : Nat → Int32) (v_seen v_rank : Int32) (v_one v_other : Nat → Int32) (v_thought v_gone : Int32) (v_tied v_part v_lack v_down : Nat → Int32) (v_parts v_lacks v_downs : Int32) (v_sort v_items v_item v_carried : Nat → Int32) (v_first v_second : Int32) (p1 : Int32) (u : Int32 × (Nat → Int32) × (Nat → Int32) × Int32 × Int32 × (Nat → Int32) × (Nat → Int32) × Int32) (hF : FX7_partsOf p1 v_pins v_bars v_low v_high v_to v_carries v_seen v_rank v_tied v_part v_parts = some u) : MCi l D (tyL cI cZ cS) yX7_partsOf cX7_partsOf 4 (some .int) 20 456 [.ref (a 0), .int p1] (wX7 cI cZ a v_pins v_bars v_taped v_lined v_at v_fault v_name v_low v_high v_tape v_line v_imagePins v_imageBars v_imageName v_imageLow v_imageHigh v_isKept v_to v_carries v_seen v_rank v_one v_other v_thought v_gone v_tied v_part v_lack v_down v_parts v_lacks v_downs v_sort v_items v_item v_carried v_first v_second) (wX7 cI cZ a v_pins v_bars v_taped v_lined v_at v_fault v_name v_low v_high v_tape v_line v_imagePins v_imageBars v_imageName v_imageLow v_imageHigh v_isKept u.2.1 u.2.2.1 u.2.2.2.1 u.2.2.2.2.1 v_one v_other v_thought v_gone u.2.2.2.2.2.1 u.2.2.2.2.2.2.1 v_lack v_down u.2.2.2.2.2.2.2 v_lacks v_downs v_sort v_items v_item v_carried v_first v_second) u.1 := by
  refine MCi.mk (by decide) (Nat.le_of_ble_eq_true rfl) ?_
  intro p e s m args below meth c A ls Q h0 hP hD hA hS hl hfin0
  have hfin : ∀ (u' : Int32 × (Nat → Int32) × (Nat → Int32) × Int32 × Int32 × (Nat → Int32) × (Nat → Int32) × Int32), u' = u → ∀ (H : Heap) (locs : List Loc) (ls : Array Slot) (pc : Nat), va_P D vwCl (wX7 cI cZ a v_pins v_bars v_taped v_lined v_at v_fault v_name v_low v_high v_tape v_line v_imagePins v_imageBars v_imageName v_imageLow v_imageHigh v_isKept u'.2.1 u'.2.2.1 u'.2.2.2.1 u'.2.2.2.2.1 v_one v_other v_thought v_gone u'.2.2.2.2.2.1 u'.2.2.2.2.2.2.1 v_lack v_down u'.2.2.2.2.2.2.2 v_lacks v_downs v_sort v_items v_item v_carried v_first v_second) H → va_D A (wX7 cI cZ a v_pins v_bars v_taped v_lined v_at v_fault v_name v_low v_high v_tape v_line v_imagePins v_imageBars v_imageName v_imageLow v_imageHigh v_isKept u'.2.1 u'.2.2.1 u'.2.2.2.1 u'.2.2.2.2.1 v_one v_other v_thought v_gone u'.2.2.2.2.2.1 u'.2.2.2.2.2.2.1 v_lack v_down u'.2.2.2.2.2.2.2 v_lacks v_downs v_sort v_items v_item v_carried v_first v_second) → va_S A s.heap H locs → decode cX7_partsOf pc = .ok (.ireturn, 1) → W p l e (uR 20 456) s m args below meth c H locs 0 0 Q (F0 m pc ls [.int u'.1]) := by intro u' hu; subst hu; exact hfin0
  clear hfin0
  obtain ⟨hx, hb, hr, hlk, hml, hown, hts, hK⟩ := id h0
  have hl : lv_has ls 4 [(0, .ref (a 0)), (1, .int p1)] := hl
  have E := hF
  have J8 : ∀ (n8 : Nat) (l2 l3 : Int32) (v_to v_carries : Nat → Int32) (v_seen v_rank : Int32) (v_tied v_part : Nat → Int32) (v_parts : Int32) (H : Heap) (locs : List Loc) (ls : Array Slot), FX7_partsOf_h8 p1 v_pins v_bars v_low v_high  n8 l2 l3 v_to v_carries v_seen v_rank v_tied v_part v_parts = some u → va_P D vwCl (wX7 cI cZ a v_pins v_bars v_taped v_lined v_at v_fault v_name v_low v_high v_tape v_line v_imagePins v_imageBars v_imageName v_imageLow v_imageHigh v_isKept v_to v_carries v_seen v_rank v_one v_other v_thought v_gone v_tied v_part v_lack v_down v_parts v_lacks v_downs v_sort v_items v_item v_carried v_first v_second) H → va_D A (wX7 cI cZ a v_pins v_bars v_taped v_lined v_at v_fault v_name v_low v_high v_tape v_line v_imagePins v_imageBars v_imageName v_imageLow v_imageHigh v_isKept v_to v_carries v_seen v_rank v_one v_other v_thought v_gone v_tied v_part v_lack v_down v_parts v_lacks v_downs v_sort v_items v_item v_carried v_first v_second) → va_S A s.heap H locs → lv_has ls 4 [(0, .ref (a 0)), (1, .int p1), (2, .int l2), (3, .int l3)] → W p l e (uR 20 456) s m args below meth c H locs 0 0 Q (F0 m 8 ls []) := by
    intro n8
    induction n8 with
    | zero => intro l2 l3 v_to v_carries v_seen v_rank v_tied v_part v_parts H locs ls E; exact none_e E
    | succ n8 ih8 =>
      intro l2 l3 v_to v_carries v_seen v_rank v_tied v_part v_parts H locs ls E hP hD hS hl
      have E : FX7_partsOf_b8 p1 v_pins v_bars v_low v_high  (FX7_partsOf_h8 p1 v_pins v_bars v_low v_high  n8) l2 l3 v_to v_carries v_seen v_rank v_tied v_part v_parts = some u := E
      refine lv_iload_n hx hb dX7_partsOf_8 rfl (lv_at hl 3 rfl) ?_
      refine lv_aload_n hx hb dX7_partsOf_9 rfl (lv_at hl 0 rfl) ?_
      refine gf_X7_139 h0 hP 0 rfl rfl dX7_partsOf_10 ?_
      refine lv_icmp_ge (tgt := 35) hx hb dX7_partsOf_13 (by decide) (fun c1 => ?_) (fun c1 => ?_)
      · have E := br_p E c1
        refine lv_iload_n hx hb dX7_partsOf_35 rfl (lv_at hl 2 rfl) ?_
        exact hfin _ (Option.some.inj E) _ _ _ _ hP hD hS dX7_partsOf_36
      · have E := br_n E c1
        refine lv_iload_n hx hb dX7_partsOf_16 rfl (lv_at hl 2 rfl) ?_
        refine lv_aload_n hx hb dX7_partsOf_17 rfl (lv_at hl 0 rfl) ?_
        refine gf_X7_50 h0 hP 0 rfl rfl dX7_partsOf_18 ?_
        refine lv_iload_n hx hb dX7_partsOf_21 rfl (lv_at hl 3 rfl) ?_
        obtain ⟨g2, E⟩ := gd_e E
        refine aldi hx hb hK hP 14 rfl rfl g2 dX7_partsOf_22 ?_
        refine lv_iload_n hx hb dX7_partsOf_23 rfl (lv_at hl 1 rfl) ?_
        refine lv_ishr hx hb dX7_partsOf_24 ?_
        refine lv_iconst (v := 1) hx hb dX7_partsOf_25 (by decide) ?_
        refine lv_iand hx hb dX7_partsOf_26 ?_
        refine lv_iadd hx hb dX7_partsOf_27 ?_
        refine lv_istore_n (lv' := [(2, .int (l2 + (((v_part l3.toNatClampNeg) >>> (p1 &&& 31)) &&& 1))), (0, .ref (a 0)), (1, .int p1), (3, .int l3)]) hx hb dX7_partsOf_28 rfl hl (by decide) rfl (fun ls hl => ?_)
        refine lv_iinc (v := (l3 + 1)) (lv' := [(3, .int (l3 + 1)), (2, .int (l2 + (((v_part l3.toNatClampNeg) >>> (p1 &&& 31)) &&& 1))), (0, .ref (a 0)), (1, .int p1)]) hx hb dX7_partsOf_29 hl (k := 3) rfl rfl (by decide) rfl (fun ls hl => ?_)
        refine lv_goto (tgt := 8) hx hb dX7_partsOf_32 (by decide) ?_
        exact ih8 _ _ _ _ _ _ _ _ _ _ _ _ E hP hD hS (lv_sub hl [2, 3, 1, 0] rfl)
  refine lv_aload_n hx hb dX7_partsOf_0 rfl (lv_at hl 0 rfl) ?_
  obtain ⟨r3, hF, E⟩ := bn_e E
  refine callVfv (wo := (wX7 cI cZ a v_pins v_bars v_taped v_lined v_at v_fault v_name v_low v_high v_tape v_line v_imagePins v_imageBars v_imageName v_imageLow v_imageHigh v_isKept r3.1 r3.2.1 r3.2.2.1 r3.2.2.2.1 v_one v_other v_thought v_gone r3.2.2.2.2.1 r3.2.2.2.2.2.1 v_lack v_down r3.2.2.2.2.2.2 v_lacks v_downs v_sort v_items v_item v_carried v_first v_second)) h0 (c_X7_finds l D cI cZ cS a v_pins v_bars v_taped v_lined v_at v_fault v_name v_low v_high v_tape v_line v_imagePins v_imageBars v_imageName v_imageLow v_imageHigh v_isKept v_to v_carries v_seen v_rank v_one v_other v_thought v_gone v_tied v_part v_lack v_down v_parts v_lacks v_downs v_sort v_items v_item v_carried v_first v_second r3 hF) (gV wq_791 wq_793 wp_32 wq_8 wq_794) hdX7_finds ⟨Nat.le_of_ble_eq_true rfl, Nat.le_of_ble_eq_true rfl⟩ ⟨Nat.le_refl _, Nat.le_refl _⟩ hP hD hS hA 0 7 rfl rfl rfl hl.1 rfl (Nat.le_of_ble_eq_true rfl) dX7_partsOf_1 (fun H locs hP hD hS => ?_)
  refine lv_iconst (v := 0) hx hb dX7_partsOf_4 (by decide) ?_
  refine lv_istore_n (lv' := [(2, .int 0), (0, .ref (a 0)), (1, .int p1)]) hx hb dX7_partsOf_5 rfl hl (by decide) rfl (fun ls hl => ?_)
  refine lv_iconst (v := 0) hx hb dX7_partsOf_6 (by decide) ?_
  refine lv_istore_n (lv' := [(3, .int 0), (2, .int 0), (0, .ref (a 0)), (1, .int p1)]) hx hb dX7_partsOf_7 rfl hl (by decide) rfl (fun ls hl => ?_)
  exact J8 5000 _ _ _ _ _ _ _ _ _ _ _ _ E hP hD hS (lv_sub hl [2, 3, 1, 0] rfl)
theorem hdX7_pin : yX7_pin.cls = RX7 ∧ yX7_pin.cls ≠ "java/lang/invoke/MethodHandle" ∧ yX7_pin.cls ≠ "java/lang/invoke/VarHandle" ∧ (parseMethodDescriptor yX7_pin.desc).map (fun d => d.parameters.length) = some 2 := by decide +kernel
noncomputable def FX7_pin (p1 p2 : Int32) (v_pins v_bars : Int32) (v_name v_low v_high v_to v_carries : Nat → Int32) (v_seen v_rank : Int32) (v_tied v_part : Nat → Int32) (v_parts : Int32) : Option (Int32 × (Nat → Int32) × (Nat → Int32) × Int32 × Int32 × (Nat → Int32) × (Nat → Int32) × Int32) := ((FX7_isPin p1 v_pins).bind (fun r1 => (if r1 = 0 then (some ((-2), v_to, v_carries, v_seen, v_rank, v_tied, v_part, v_parts)) else ((FX7_isIn p2 10 13).bind (fun r3 => (if r3 = 0 then (if p2 = 0 then ((FX7_neighbours p1 v_bars v_low v_high).bind (fun r6 => ((FX7_bits r6).bind (fun r7 => (some (r7, v_to, v_carries, v_seen, v_rank, v_tied, v_part, v_parts)))))) else (if p2 = 1 then ((FX7_neighbours p1 v_bars v_low v_high).bind (fun r9 => (some (r9, v_to, v_carries, v_seen, v_rank, v_tied, v_part, v_parts)))) else (if p2 = 2 then ((FX7_partsOf p1 v_pins v_bars v_low v_high v_to v_carries v_seen v_rank v_tied v_part v_parts).bind (fun r11 => (some (r11.1, r11.2.1, r11.2.2.1, r11.2.2.2.1, r11.2.2.2.2.1, r11.2.2.2.2.2.1, r11.2.2.2.2.2.2.1, r11.2.2.2.2.2.2.2)))) else (if p2 = 3 then ((FX7_lettersOf p1 v_name).bind (fun r13 => (some (r13, v_to, v_carries, v_seen, v_rank, v_tied, v_part, v_parts)))) else (some ((-2), v_to, v_carries, v_seen, v_rank, v_tied, v_part, v_parts)))))) else ((FX7_lettersOf p1 v_name).bind (fun r14 => (if r14 ≤ (p2 - 10) then (some ((-1), v_to, v_carries, v_seen, v_rank, v_tied, v_part, v_parts)) else (gd (vp_in (((4 * p1) + p2) - 10) 48) (some ((v_name (((4 * p1) + p2) - 10).toNatClampNeg), v_to, v_carries, v_seen, v_rank, v_tied, v_part, v_parts))))))))))))
set_option maxHeartbeats 4000000 in
set_option maxRecDepth 100000 in
theorem c_X7_pin (l : Launch) (D : va_G) (cI cZ cS : ClassId) (a : Nat → Nat) (v_pins v_bars v_taped v_lined v_at v_fault : Int32) (v_name v_low v_high v_tape v_line : Nat → Int32) (v_imagePins v_imageBars : Int32) (v_imageName v_imageLow v_imageHigh : Nat → Int32) (v_isKept : Int32) (v_to v_carries : Nat → Int32) (v_seen v_rank : Int32) (v_one v_other : Nat → Int32) (v_thought v_gone : Int32) (v_tied v_part v_lack v_down : Nat → Int32) (v_parts v_lacks v_downs : Int32) (v_sort v_items v_item v_carried : Nat → Int32) (v_first v_second : Int32) (p1 p2 : Int32) (u : Int32 × (Nat → Int32) × (Nat → Int32) × Int32 × Int32 × (Nat → Int32) × (Nat → Int32) × Int32) (hF : FX7_pin p1 p2 v_pins v_bars v_name v_low v_high v_to v_carries v_seen v_rank v_tied v_part v_parts = some u) : MCi l D (tyL cI cZ cS) yX7_pin cX7_pin 3 (some .int) 21 479 [.ref (a 0), .int p1, .int p2] (wX7 cI cZ a v_pins v_bars v_taped v_lined v_at v_fault v_name v_low v_high v_tape v_line v_imagePins v_imageBars v_imageName v_imageLow v_imageHigh v_isKept v_to v_carries v_seen v_rank v_one v_other v_thought v_gone v_tied v_part v_lack v_down v_parts v_lacks v_downs v_sort v_items v_item v_carried v_first v_second) (wX7 cI cZ a v_pins v_bars v_taped v_lined v_at v_fault v_name v_low v_high v_tape v_line v_imagePins v_imageBars v_imageName v_imageLow v_imageHigh v_isKept u.2.1 u.2.2.1 u.2.2.2.1 u.2.2.2.2.1 v_one v_other v_thought v_gone u.2.2.2.2.2.1 u.2.2.2.2.2.2.1 v_lack v_down u.2.2.2.2.2.2.2 v_lacks v_downs v_sort v_items v_item v_carried v_first v_second) u.1 := by
  refine MCi.mk (by decide) (Nat.le_of_ble_eq_true rfl) ?_
  intro p e s m args below meth c A ls Q h0 hP hD hA hS hl hfin0
  have hfin : ∀ (u' : Int32 × (Nat → Int32) × (Nat → Int32) × Int32 × Int32 × (Nat → Int32) × (Nat → Int32) × Int32), u' = u → ∀ (H : Heap) (locs : List Loc) (ls : Array Slot) (pc : Nat), va_P D vwCl (wX7 cI cZ a v_pins v_bars v_taped v_lined v_at v_fault v_name v_low v_high v_tape v_line v_imagePins v_imageBars v_imageName v_imageLow v_imageHigh v_isKept u'.2.1 u'.2.2.1 u'.2.2.2.1 u'.2.2.2.2.1 v_one v_other v_thought v_gone u'.2.2.2.2.2.1 u'.2.2.2.2.2.2.1 v_lack v_down u'.2.2.2.2.2.2.2 v_lacks v_downs v_sort v_items v_item v_carried v_first v_second) H → va_D A (wX7 cI cZ a v_pins v_bars v_taped v_lined v_at v_fault v_name v_low v_high v_tape v_line v_imagePins v_imageBars v_imageName v_imageLow v_imageHigh v_isKept u'.2.1 u'.2.2.1 u'.2.2.2.1 u'.2.2.2.2.1 v_one v_other v_thought v_gone u'.2.2.2.2.2.1 u'.2.2.2.2.2.2.1 v_lack v_down u'.2.2.2.2.2.2.2 v_lacks v_downs v_sort v_items v_item v_carried v_first v_second) → va_S A s.heap H locs → decode cX7_pin pc = .ok (.ireturn, 1) → W p l e (uR 21 479) s m args below meth c H locs 0 0 Q (F0 m pc ls [.int u'.1]) := by intro u' hu; subst hu; exact hfin0
  clear hfin0
  obtain ⟨hx, hb, hr, hlk, hml, hown, hts, hK⟩ := id h0
  have hl : lv_has ls 3 [(0, .ref (a 0)), (1, .int p1), (2, .int p2)] := hl
  have E := hF
  refine lv_aload_n hx hb dX7_pin_0 rfl (lv_at hl 0 rfl) ?_
  refine lv_iload_n hx hb dX7_pin_1 rfl (lv_at hl 1 rfl) ?_
  obtain ⟨r1, hF, E⟩ := bn_e E
  refine callVfi (wo := (wX7 cI cZ a v_pins v_bars v_taped v_lined v_at v_fault v_name v_low v_high v_tape v_line v_imagePins v_imageBars v_imageName v_imageLow v_imageHigh v_isKept v_to v_carries v_seen v_rank v_one v_other v_thought v_gone v_tied v_part v_lack v_down v_parts v_lacks v_downs v_sort v_items v_item v_carried v_first v_second)) h0 (c_X7_isPin l D cI cZ cS a v_pins v_bars v_taped v_lined v_at v_fault v_name v_low v_high v_tape v_line v_imagePins v_imageBars v_imageName v_imageLow v_imageHigh v_isKept v_to v_carries v_seen v_rank v_one v_other v_thought v_gone v_tied v_part v_lack v_down v_parts v_lacks v_downs v_sort v_items v_item v_carried v_first v_second p1 r1 hF) (gV wq_730 wq_732 wp_22 wq_8 wq_733) hdX7_isPin ⟨Nat.le_of_ble_eq_true rfl, Nat.le_of_ble_eq_true rfl⟩ ⟨Nat.le_refl _, Nat.le_refl _⟩ hP hD hS hA 0 7 rfl rfl rfl hl.1 rfl (Nat.le_of_ble_eq_true rfl) dX7_pin_2 (fun H locs hP hD hS => ?_)
  refine lv_if_ne (tgt := 11) hx hb dX7_pin_5 (by decide) (fun c2 => ?_) (fun c2 => ?_)
  · have E := br_n E c2
    refine lv_iload_n hx hb dX7_pin_11 rfl (lv_at hl 2 rfl) ?_
    refine lv_bipush (v := 10) hx hb dX7_pin_12 (by decide) ?_
    refine lv_bipush (v := 13) hx hb dX7_pin_14 (by decide) ?_
    obtain ⟨r3, hF, E⟩ := bn_e E
    refine callSi (wo := (wX7 cI cZ a v_pins v_bars v_taped v_lined v_at v_fault v_name v_low v_high v_tape v_line v_imagePins v_imageBars v_imageName v_imageLow v_imageHigh v_isKept v_to v_carries v_seen v_rank v_one v_other v_thought v_gone v_tied v_part v_lack v_down v_parts v_lacks v_downs v_sort v_items v_item v_carried v_first v_second)) h0 (c_X7_isIn l D cI cZ cS p2 10 13 r3 hF) (gS wq_734 wq_735 wq_8 wq_736) hdX7_isIn ⟨Nat.le_of_ble_eq_true rfl, Nat.le_of_ble_eq_true rfl⟩ ⟨Nat.le_refl _, Nat.le_refl _⟩ hP hD hS hA [] rfl rfl rfl rfl hl.1 rfl (Nat.le_of_ble_eq_true rfl) dX7_pin_16 (fun H locs hP hD hS => ?_)
    refine lv_if_eq (tgt := 52) hx hb dX7_pin_19 (by decide) (fun c4 => ?_) (fun c4 => ?_)
    · have E := br_p E c4
      refine lv_iload_n hx hb dX7_pin_52 rfl (lv_at hl 2 rfl) ?_
      by_cases c5 : p2 = 0
      · have E := br_p E c5
        refine lv_tableIn (off := 31) (tgt := 84) hx hb dX7_pin_53 (by rw [c5]; decide) (by rw [c5]; decide) (by rw [c5]; decide) (by decide) ?_
        refine lv_aload_n hx hb dX7_pin_84 rfl (lv_at hl 0 rfl) ?_
        refine lv_iload_n hx hb dX7_pin_85 rfl (lv_at hl 1 rfl) ?_
        obtain ⟨r6, hF, E⟩ := bn_e E
        refine callVfi (wo := (wX7 cI cZ a v_pins v_bars v_taped v_lined v_at v_fault v_name v_low v_high v_tape v_line v_imagePins v_imageBars v_imageName v_imageLow v_imageHigh v_isKept v_to v_carries v_seen v_rank v_one v_other v_thought v_gone v_tied v_part v_lack v_down v_parts v_lacks v_downs v_sort v_items v_item v_carried v_first v_second)) h0 (c_X7_neighbours l D cI cZ cS a v_pins v_bars v_taped v_lined v_at v_fault v_name v_low v_high v_tape v_line v_imagePins v_imageBars v_imageName v_imageLow v_imageHigh v_isKept v_to v_carries v_seen v_rank v_one v_other v_thought v_gone v_tied v_part v_lack v_down v_parts v_lacks v_downs v_sort v_items v_item v_carried v_first v_second p1 r6 hF) (gV wq_831 wq_833 wp_39 wq_8 wq_834) hdX7_neighbours ⟨Nat.le_of_ble_eq_true rfl, Nat.le_of_ble_eq_true rfl⟩ ⟨Nat.le_refl _, Nat.le_refl _⟩ hP hD hS hA 0 7 rfl rfl rfl hl.1 rfl (Nat.le_of_ble_eq_true rfl) dX7_pin_86 (fun H locs hP hD hS => ?_)
        obtain ⟨r7, hF, E⟩ := bn_e E
        refine callSi (wo := (wX7 cI cZ a v_pins v_bars v_taped v_lined v_at v_fault v_name v_low v_high v_tape v_line v_imagePins v_imageBars v_imageName v_imageLow v_imageHigh v_isKept v_to v_carries v_seen v_rank v_one v_other v_thought v_gone v_tied v_part v_lack v_down v_parts v_lacks v_downs v_sort v_items v_item v_carried v_first v_second)) h0 (c_X7_bits l D cI cZ cS r6 r7 hF) (gS wq_835 wq_836 wq_8 wq_837) hdX7_bits ⟨Nat.le_of_ble_eq_true rfl, Nat.le_of_ble_eq_true rfl⟩ ⟨Nat.le_refl _, Nat.le_refl _⟩ hP hD hS hA [] rfl rfl rfl rfl hl.1 rfl (Nat.le_of_ble_eq_true rfl) dX7_pin_89 (fun H locs hP hD hS => ?_)
        exact hfin _ (Option.some.inj E) _ _ _ _ hP hD hS dX7_pin_92
      · have E := br_n E c5
        by_cases c8 : p2 = 1
        · have E := br_p E c8
          refine lv_tableIn (off := 40) (tgt := 93) hx hb dX7_pin_53 (by rw [c8]; decide) (by rw [c8]; decide) (by rw [c8]; decide) (by decide) ?_
          refine lv_aload_n hx hb dX7_pin_93 rfl (lv_at hl 0 rfl) ?_
          refine lv_iload_n hx hb dX7_pin_94 rfl (lv_at hl 1 rfl) ?_
          obtain ⟨r9, hF, E⟩ := bn_e E
          refine callVfi (wo := (wX7 cI cZ a v_pins v_bars v_taped v_lined v_at v_fault v_name v_low v_high v_tape v_line v_imagePins v_imageBars v_imageName v_imageLow v_imageHigh v_isKept v_to v_carries v_seen v_rank v_one v_other v_thought v_gone v_tied v_part v_lack v_down v_parts v_lacks v_downs v_sort v_items v_item v_carried v_first v_second)) h0 (c_X7_neighbours l D cI cZ cS a v_pins v_bars v_taped v_lined v_at v_fault v_name v_low v_high v_tape v_line v_imagePins v_imageBars v_imageName v_imageLow v_imageHigh v_isKept v_to v_carries v_seen v_rank v_one v_other v_thought v_gone v_tied v_part v_lack v_down v_parts v_lacks v_downs v_sort v_items v_item v_carried v_first v_second p1 r9 hF) (gV wq_831 wq_833 wp_39 wq_8 wq_834) hdX7_neighbours ⟨Nat.le_of_ble_eq_true rfl, Nat.le_of_ble_eq_true rfl⟩ ⟨Nat.le_refl _, Nat.le_refl _⟩ hP hD hS hA 0 7 rfl rfl rfl hl.1 rfl (Nat.le_of_ble_eq_true rfl) dX7_pin_95 (fun H locs hP hD hS => ?_)
          exact hfin _ (Option.some.inj E) _ _ _ _ hP hD hS dX7_pin_98
        · have E := br_n E c8
          by_cases c10 : p2 = 2
          · have E := br_p E c10
            refine lv_tableIn (off := 46) (tgt := 99) hx hb dX7_pin_53 (by rw [c10]; decide) (by rw [c10]; decide) (by rw [c10]; decide) (by decide) ?_
            refine lv_aload_n hx hb dX7_pin_99 rfl (lv_at hl 0 rfl) ?_
            refine lv_iload_n hx hb dX7_pin_100 rfl (lv_at hl 1 rfl) ?_
            obtain ⟨r11, hF, E⟩ := bn_e E
            refine callVfi (wo := (wX7 cI cZ a v_pins v_bars v_taped v_lined v_at v_fault v_name v_low v_high v_tape v_line v_imagePins v_imageBars v_imageName v_imageLow v_imageHigh v_isKept r11.2.1 r11.2.2.1 r11.2.2.2.1 r11.2.2.2.2.1 v_one v_other v_thought v_gone r11.2.2.2.2.2.1 r11.2.2.2.2.2.2.1 v_lack v_down r11.2.2.2.2.2.2.2 v_lacks v_downs v_sort v_items v_item v_carried v_first v_second)) h0 (c_X7_partsOf l D cI cZ cS a v_pins v_bars v_taped v_lined v_at v_fault v_name v_low v_high v_tape v_line v_imagePins v_imageBars v_imageName v_imageLow v_imageHigh v_isKept v_to v_carries v_seen v_rank v_one v_other v_thought v_gone v_tied v_part v_lack v_down v_parts v_lacks v_downs v_sort v_items v_item v_carried v_first v_second p1 r11 hF) (gV wq_838 wq_840 wp_40 wq_8 wq_841) hdX7_partsOf ⟨Nat.le_of_ble_eq_true rfl, Nat.le_of_ble_eq_true rfl⟩ ⟨Nat.le_refl _, Nat.le_refl _⟩ hP hD hS hA 0 7 rfl rfl rfl hl.1 rfl (Nat.le_of_ble_eq_true rfl) dX7_pin_101 (fun H locs hP hD hS => ?_)
            exact hfin _ (Option.some.inj E) _ _ _ _ hP hD hS dX7_pin_104
          · have E := br_n E c10
            by_cases c12 : p2 = 3
            · have E := br_p E c12
              refine lv_tableIn (off := 52) (tgt := 105) hx hb dX7_pin_53 (by rw [c12]; decide) (by rw [c12]; decide) (by rw [c12]; decide) (by decide) ?_
              refine lv_aload_n hx hb dX7_pin_105 rfl (lv_at hl 0 rfl) ?_
              refine lv_iload_n hx hb dX7_pin_106 rfl (lv_at hl 1 rfl) ?_
              obtain ⟨r13, hF, E⟩ := bn_e E
              refine callVfi (wo := (wX7 cI cZ a v_pins v_bars v_taped v_lined v_at v_fault v_name v_low v_high v_tape v_line v_imagePins v_imageBars v_imageName v_imageLow v_imageHigh v_isKept v_to v_carries v_seen v_rank v_one v_other v_thought v_gone v_tied v_part v_lack v_down v_parts v_lacks v_downs v_sort v_items v_item v_carried v_first v_second)) h0 (c_X7_lettersOf l D cI cZ cS a v_pins v_bars v_taped v_lined v_at v_fault v_name v_low v_high v_tape v_line v_imagePins v_imageBars v_imageName v_imageLow v_imageHigh v_isKept v_to v_carries v_seen v_rank v_one v_other v_thought v_gone v_tied v_part v_lack v_down v_parts v_lacks v_downs v_sort v_items v_item v_carried v_first v_second p1 r13 hF) (gV wq_827 wq_829 wp_38 wq_8 wq_830) hdX7_lettersOf ⟨Nat.le_of_ble_eq_true rfl, Nat.le_of_ble_eq_true rfl⟩ ⟨Nat.le_refl _, Nat.le_refl _⟩ hP hD hS hA 0 7 rfl rfl rfl hl.1 rfl (Nat.le_of_ble_eq_true rfl) dX7_pin_107 (fun H locs hP hD hS => ?_)
              exact hfin _ (Option.some.inj E) _ _ _ _ hP hD hS dX7_pin_110
            · have E := br_n E c12
              refine lv_tableOut (tgt := 111) hx hb dX7_pin_53 (tsw_out 3 (by decide) (fun k hk => by match k, hk with | 0, _ => exact c5 | 1, _ => exact c8 | 2, _ => exact c10 | 3, _ => exact c12 | k + 4, hk => exact absurd hk (by omega))) (by decide) ?_
              refine lv_bipush (v := (-2)) hx hb dX7_pin_111 (by decide) ?_
              exact hfin _ (Option.some.inj E) _ _ _ _ hP hD hS dX7_pin_113
    · have E := br_n E c4
      refine lv_iload_n hx hb dX7_pin_22 rfl (lv_at hl 2 rfl) ?_
      refine lv_bipush (v := 10) hx hb dX7_pin_23 (by decide) ?_
      refine lv_isub hx hb dX7_pin_25 ?_
      refine lv_aload_n hx hb dX7_pin_26 rfl (lv_at hl 0 rfl) ?_
      refine lv_iload_n hx hb dX7_pin_27 rfl (lv_at hl 1 rfl) ?_
      obtain ⟨r14, hF, E⟩ := bn_e E
      refine callVfi (wo := (wX7 cI cZ a v_pins v_bars v_taped v_lined v_at v_fault v_name v_low v_high v_tape v_line v_imagePins v_imageBars v_imageName v_imageLow v_imageHigh v_isKept v_to v_carries v_seen v_rank v_one v_other v_thought v_gone v_tied v_part v_lack v_down v_parts v_lacks v_downs v_sort v_items v_item v_carried v_first v_second)) h0 (c_X7_lettersOf l D cI cZ cS a v_pins v_bars v_taped v_lined v_at v_fault v_name v_low v_high v_tape v_line v_imagePins v_imageBars v_imageName v_imageLow v_imageHigh v_isKept v_to v_carries v_seen v_rank v_one v_other v_thought v_gone v_tied v_part v_lack v_down v_parts v_lacks v_downs v_sort v_items v_item v_carried v_first v_second p1 r14 hF) (gV wq_827 wq_829 wp_38 wq_8 wq_830) hdX7_lettersOf ⟨Nat.le_of_ble_eq_true rfl, Nat.le_of_ble_eq_true rfl⟩ ⟨Nat.le_refl _, Nat.le_refl _⟩ hP hD hS hA 0 7 rfl rfl rfl hl.1 rfl (Nat.le_of_ble_eq_true rfl) dX7_pin_28 (fun H locs hP hD hS => ?_)
      refine lv_icmp_ge (tgt := 50) hx hb dX7_pin_31 (by decide) (fun c15 => ?_) (fun c15 => ?_)
      · have E := br_p E c15
        refine lv_iconst (v := (-1)) hx hb dX7_pin_50 (by decide) ?_
        exact hfin _ (Option.some.inj E) _ _ _ _ hP hD hS dX7_pin_51
      · have E := br_n E c15
        refine lv_aload_n hx hb dX7_pin_34 rfl (lv_at hl 0 rfl) ?_
        refine gf_X7_9 h0 hP 0 rfl rfl dX7_pin_35 ?_
        refine lv_iconst (v := 4) hx hb dX7_pin_38 (by decide) ?_
        refine lv_iload_n hx hb dX7_pin_39 rfl (lv_at hl 1 rfl) ?_
        refine lv_imul hx hb dX7_pin_40 ?_
        refine lv_iload_n hx hb dX7_pin_41 rfl (lv_at hl 2 rfl) ?_
        refine lv_iadd hx hb dX7_pin_42 ?_
        refine lv_bipush (v := 10) hx hb dX7_pin_43 (by decide) ?_
        refine lv_isub hx hb dX7_pin_45 ?_
        obtain ⟨g16, E⟩ := gd_e E
        refine aldi hx hb hK hP 1 rfl rfl g16 dX7_pin_46 ?_
        refine lv_goto (tgt := 51) hx hb dX7_pin_47 (by decide) ?_
        exact hfin _ (Option.some.inj E) _ _ _ _ hP hD hS dX7_pin_51
  · have E := br_p E c2
    refine lv_bipush (v := (-2)) hx hb dX7_pin_8 (by decide) ?_
    exact hfin _ (Option.some.inj E) _ _ _ _ hP hD hS dX7_pin_10
theorem hdX7_wouldCarry : yX7_wouldCarry.cls = RX7 ∧ yX7_wouldCarry.cls ≠ "java/lang/invoke/MethodHandle" ∧ yX7_wouldCarry.cls ≠ "java/lang/invoke/VarHandle" ∧ (parseMethodDescriptor yX7_wouldCarry.desc).map (fun d => d.parameters.length) = some 2 := by decide +kernel
noncomputable def FX7_wouldCarry_b42 (p1 p2 : Int32) (v_low v_high v_carries : Nat → Int32) (k6 : Int32 → (Nat → Int32) → Int32 → Int32 → Option (Int32 × (Nat → Int32) × Int32 × Int32)) (l3 : Int32) (v_to : Nat → Int32) (v_seen v_rank : Int32) : Option (Int32 × (Nat → Int32) × Int32 × Int32) := (k6 (l3 + 1) v_to v_seen v_rank)
noncomputable def FX7_wouldCarry_b6 (p1 p2 : Int32) (v_low v_high v_carries : Nat → Int32)  (k6 : Int32 → (Nat → Int32) → Int32 → Int32 → Option (Int32 × (Nat → Int32) × Int32 × Int32)) (l3 : Int32) (v_to : Nat → Int32) (v_seen v_rank : Int32) : Option (Int32 × (Nat → Int32) × Int32 × Int32) := (if p1 ≤ l3 then (gd (vp_in p1 24) (gd (vp_in p1 24) ((FX7_brings (v_low p1.toNatClampNeg) (v_high p1.toNatClampNeg) v_to v_seen).bind (fun r4 => (gd (r4.1 = 0 ∨ r4.1 = 1) (some (r4.1, r4.2.1, r4.2.2, v_rank))))))) else (gd (vp_in l3 24) (if (v_carries l3.toNatClampNeg) = 0 then (FX7_wouldCarry_b42 p1 p2 v_low v_high v_carries k6 l3 v_to v_seen v_rank) else (if l3 = p2 then (FX7_wouldCarry_b42 p1 p2 v_low v_high v_carries k6 l3 v_to v_seen v_rank) else (gd (vp_in l3 24) (gd (vp_in l3 24) ((FX7_comes (v_low l3.toNatClampNeg) (v_high l3.toNatClampNeg) v_to v_seen v_rank).bind (fun r11 => (FX7_wouldCarry_b42 p1 p2 v_low v_high v_carries k6 l3 r11.2.1 r11.2.2.1 r11.2.2.2)))))))))
noncomputable def FX7_wouldCarry_h6 (p1 p2 : Int32) (v_low v_high v_carries : Nat → Int32)  : Nat → Int32 → (Nat → Int32) → Int32 → Int32 → Option (Int32 × (Nat → Int32) × Int32 × Int32)
  | 0 => fun _ _ _ _ => none
  | n + 1 => fun l3 v_to v_seen v_rank => FX7_wouldCarry_b6 p1 p2 v_low v_high v_carries  (FX7_wouldCarry_h6 p1 p2 v_low v_high v_carries  n) l3 v_to v_seen v_rank
noncomputable def FX7_wouldCarry (p1 p2 : Int32) (v_low v_high v_to v_carries : Nat → Int32) (v_seen v_rank : Int32) : Option (Int32 × (Nat → Int32) × Int32 × Int32) := ((FX7_empties v_to v_rank).bind (fun r12 => (FX7_wouldCarry_h6 p1 p2 v_low v_high v_carries  5000 0 r12.1 v_seen r12.2)))
set_option maxHeartbeats 4000000 in
set_option maxRecDepth 100000 in
theorem c_X7_wouldCarry (l : Launch) (D : va_G) (cI cZ cS : ClassId) (a : Nat → Nat) (v_pins v_bars v_taped v_lined v_at v_fault : Int32) (v_name v_low v_high v_tape v_line : Nat → Int32) (v_imagePins v_imageBars : Int32) (v_imageName v_imageLow v_imageHigh : Nat → Int32) (v_isKept : Int32) (v_to v_carries : Nat → Int32) (v_seen v_rank : Int32) (v_one v_other : Nat → Int32) (v_thought v_gone : Int32) (v_tied v_part v_lack v_down : Nat → Int32) (v_parts v_lacks v_downs : Int32) (v_sort v_items v_item v_carried : Nat → Int32) (v_first v_second : Int32) (p1 p2 : Int32) (u : Int32 × (Nat → Int32) × Int32 × Int32) (hF : FX7_wouldCarry p1 p2 v_low v_high v_to v_carries v_seen v_rank = some u) : MCi l D (tyL cI cZ cS) yX7_wouldCarry cX7_wouldCarry 4 (some .boolean) 17 387 [.ref (a 0), .int p1, .int p2] (wX7 cI cZ a v_pins v_bars v_taped v_lined v_at v_fault v_name v_low v_high v_tape v_line v_imagePins v_imageBars v_imageName v_imageLow v_imageHigh v_isKept v_to v_carries v_seen v_rank v_one v_other v_thought v_gone v_tied v_part v_lack v_down v_parts v_lacks v_downs v_sort v_items v_item v_carried v_first v_second) (wX7 cI cZ a v_pins v_bars v_taped v_lined v_at v_fault v_name v_low v_high v_tape v_line v_imagePins v_imageBars v_imageName v_imageLow v_imageHigh v_isKept u.2.1 v_carries u.2.2.1 u.2.2.2 v_one v_other v_thought v_gone v_tied v_part v_lack v_down v_parts v_lacks v_downs v_sort v_items v_item v_carried v_first v_second) u.1 := by
  refine MCz.mk (by decide) (Nat.le_of_ble_eq_true rfl) ?_
  intro p e s m args below meth c A ls Q h0 hP hD hA hS hl hfin0
  have hfin : ∀ (u' : Int32 × (Nat → Int32) × Int32 × Int32), u' = u → ∀ (H : Heap) (locs : List Loc) (ls : Array Slot) (pc : Nat), (u'.1 = 0 ∨ u'.1 = 1) → va_P D vwCl (wX7 cI cZ a v_pins v_bars v_taped v_lined v_at v_fault v_name v_low v_high v_tape v_line v_imagePins v_imageBars v_imageName v_imageLow v_imageHigh v_isKept u'.2.1 v_carries u'.2.2.1 u'.2.2.2 v_one v_other v_thought v_gone v_tied v_part v_lack v_down v_parts v_lacks v_downs v_sort v_items v_item v_carried v_first v_second) H → va_D A (wX7 cI cZ a v_pins v_bars v_taped v_lined v_at v_fault v_name v_low v_high v_tape v_line v_imagePins v_imageBars v_imageName v_imageLow v_imageHigh v_isKept u'.2.1 v_carries u'.2.2.1 u'.2.2.2 v_one v_other v_thought v_gone v_tied v_part v_lack v_down v_parts v_lacks v_downs v_sort v_items v_item v_carried v_first v_second) → va_S A s.heap H locs → decode cX7_wouldCarry pc = .ok (.ireturn, 1) → W p l e (uR 17 387) s m args below meth c H locs 0 0 Q (F0 m pc ls [.int u'.1]) := by intro u' hu; subst hu; exact hfin0
  clear hfin0
  obtain ⟨hx, hb, hr, hlk, hml, hown, hts, hK⟩ := id h0
  have hl : lv_has ls 4 [(0, .ref (a 0)), (1, .int p1), (2, .int p2)] := hl
  have E := hF
  have J6 : ∀ (n6 : Nat) (l3 : Int32) (v_to : Nat → Int32) (v_seen v_rank : Int32) (H : Heap) (locs : List Loc) (ls : Array Slot), FX7_wouldCarry_h6 p1 p2 v_low v_high v_carries  n6 l3 v_to v_seen v_rank = some u → va_P D vwCl (wX7 cI cZ a v_pins v_bars v_taped v_lined v_at v_fault v_name v_low v_high v_tape v_line v_imagePins v_imageBars v_imageName v_imageLow v_imageHigh v_isKept v_to v_carries v_seen v_rank v_one v_other v_thought v_gone v_tied v_part v_lack v_down v_parts v_lacks v_downs v_sort v_items v_item v_carried v_first v_second) H → va_D A (wX7 cI cZ a v_pins v_bars v_taped v_lined v_at v_fault v_name v_low v_high v_tape v_line v_imagePins v_imageBars v_imageName v_imageLow v_imageHigh v_isKept v_to v_carries v_seen v_rank v_one v_other v_thought v_gone v_tied v_part v_lack v_down v_parts v_lacks v_downs v_sort v_items v_item v_carried v_first v_second) → va_S A s.heap H locs → lv_has ls 4 [(0, .ref (a 0)), (1, .int p1), (2, .int p2), (3, .int l3)] → W p l e (uR 17 387) s m args below meth c H locs 0 0 Q (F0 m 6 ls []) := by
    intro n6
    induction n6 with
    | zero => intro l3 v_to v_seen v_rank H locs ls E; exact none_e E
    | succ n6 ih6 =>
      intro l3 v_to v_seen v_rank H locs ls E hP hD hS hl
      have E : FX7_wouldCarry_b6 p1 p2 v_low v_high v_carries  (FX7_wouldCarry_h6 p1 p2 v_low v_high v_carries  n6) l3 v_to v_seen v_rank = some u := E
      have J42 : ∀ (l3 : Int32) (v_to : Nat → Int32) (v_seen v_rank : Int32) (H : Heap) (locs : List Loc) (ls : Array Slot), FX7_wouldCarry_b42 p1 p2 v_low v_high v_carries (FX7_wouldCarry_h6 p1 p2 v_low v_high v_carries  n6) l3 v_to v_seen v_rank = some u → va_P D vwCl (wX7 cI cZ a v_pins v_bars v_taped v_lined v_at v_fault v_name v_low v_high v_tape v_line v_imagePins v_imageBars v_imageName v_imageLow v_imageHigh v_isKept v_to v_carries v_seen v_rank v_one v_other v_thought v_gone v_tied v_part v_lack v_down v_parts v_lacks v_downs v_sort v_items v_item v_carried v_first v_second) H → va_D A (wX7 cI cZ a v_pins v_bars v_taped v_lined v_at v_fault v_name v_low v_high v_tape v_line v_imagePins v_imageBars v_imageName v_imageLow v_imageHigh v_isKept v_to v_carries v_seen v_rank v_one v_other v_thought v_gone v_tied v_part v_lack v_down v_parts v_lacks v_downs v_sort v_items v_item v_carried v_first v_second) → va_S A s.heap H locs → lv_has ls 4 [(0, .ref (a 0)), (1, .int p1), (2, .int p2), (3, .int l3)] → W p l e (uR 17 387) s m args below meth c H locs 0 0 Q (F0 m 42 ls []) := by
        intro l3 v_to v_seen v_rank H locs ls E hP hD hS hl
        refine lv_iinc (v := (l3 + 1)) (lv' := [(3, .int (l3 + 1)), (0, .ref (a 0)), (1, .int p1), (2, .int p2)]) hx hb dX7_wouldCarry_42 hl (k := 3) rfl rfl (by decide) rfl (fun ls hl => ?_)
        refine lv_goto (tgt := 6) hx hb dX7_wouldCarry_45 (by decide) ?_
        exact ih6 _ _ _ _ _ _ _ E hP hD hS (lv_sub hl [1, 2, 3, 0] rfl)
      refine lv_iload_n hx hb dX7_wouldCarry_6 rfl (lv_at hl 3 rfl) ?_
      refine lv_iload_n hx hb dX7_wouldCarry_7 rfl (lv_at hl 1 rfl) ?_
      refine lv_icmp_ge (tgt := 48) hx hb dX7_wouldCarry_8 (by decide) (fun c1 => ?_) (fun c1 => ?_)
      · have E := br_p E c1
        refine lv_aload_n hx hb dX7_wouldCarry_48 rfl (lv_at hl 0 rfl) ?_
        refine lv_aload_n hx hb dX7_wouldCarry_49 rfl (lv_at hl 0 rfl) ?_
        refine gf_X7_13 h0 hP 0 rfl rfl dX7_wouldCarry_50 ?_
        refine lv_iload_n hx hb dX7_wouldCarry_53 rfl (lv_at hl 1 rfl) ?_
        obtain ⟨g2, E⟩ := gd_e E
        refine aldi hx hb hK hP 2 rfl rfl g2 dX7_wouldCarry_54 ?_
        refine lv_aload_n hx hb dX7_wouldCarry_55 rfl (lv_at hl 0 rfl) ?_
        refine gf_X7_16 h0 hP 0 rfl rfl dX7_wouldCarry_56 ?_
        refine lv_iload_n hx hb dX7_wouldCarry_59 rfl (lv_at hl 1 rfl) ?_
        obtain ⟨g3, E⟩ := gd_e E
        refine aldi hx hb hK hP 3 rfl rfl g3 dX7_wouldCarry_60 ?_
        obtain ⟨r4, hF, E⟩ := bn_e E
        refine callVfi (wo := (wX7 cI cZ a v_pins v_bars v_taped v_lined v_at v_fault v_name v_low v_high v_tape v_line v_imagePins v_imageBars v_imageName v_imageLow v_imageHigh v_isKept r4.2.1 v_carries r4.2.2 v_rank v_one v_other v_thought v_gone v_tied v_part v_lack v_down v_parts v_lacks v_downs v_sort v_items v_item v_carried v_first v_second)) h0 (c_X7_brings l D cI cZ cS a v_pins v_bars v_taped v_lined v_at v_fault v_name v_low v_high v_tape v_line v_imagePins v_imageBars v_imageName v_imageLow v_imageHigh v_isKept v_to v_carries v_seen v_rank v_one v_other v_thought v_gone v_tied v_part v_lack v_down v_parts v_lacks v_downs v_sort v_items v_item v_carried v_first v_second (v_low p1.toNatClampNeg) (v_high p1.toNatClampNeg) r4 hF) (gV wq_771 wq_773 wp_28 wq_8 wq_774) hdX7_brings ⟨Nat.le_of_ble_eq_true rfl, Nat.le_of_ble_eq_true rfl⟩ ⟨Nat.le_refl _, Nat.le_refl _⟩ hP hD hS hA 0 7 rfl rfl rfl hl.1 rfl (Nat.le_of_ble_eq_true rfl) dX7_wouldCarry_61 (fun H locs hP hD hS => ?_)
        obtain ⟨z5, E⟩ := gd_e E
        exact hfin _ (Option.some.inj E) _ _ _ _ z5 hP hD hS dX7_wouldCarry_64
      · have E := br_n E c1
        refine lv_aload_n hx hb dX7_wouldCarry_11 rfl (lv_at hl 0 rfl) ?_
        refine gf_X7_37 h0 hP 0 rfl rfl dX7_wouldCarry_12 ?_
        refine lv_iload_n hx hb dX7_wouldCarry_15 rfl (lv_at hl 3 rfl) ?_
        obtain ⟨g6, E⟩ := gd_e E
        refine aldz hx hb hK hP 10 rfl rfl g6 dX7_wouldCarry_16 ?_
        refine lv_if_eq (tgt := 42) hx hb dX7_wouldCarry_17 (by decide) (fun c7 => ?_) (fun c7 => ?_)
        · have E := br_p E c7
          exact J42 _ _ _ _ _ _ _ E hP hD hS (lv_sub hl [0, 1, 2, 3] rfl)
        · have E := br_n E c7
          refine lv_iload_n hx hb dX7_wouldCarry_20 rfl (lv_at hl 3 rfl) ?_
          refine lv_iload_n hx hb dX7_wouldCarry_21 rfl (lv_at hl 2 rfl) ?_
          refine lv_icmp_eq (tgt := 42) hx hb dX7_wouldCarry_22 (by decide) (fun c8 => ?_) (fun c8 => ?_)
          · have E := br_p E c8
            exact J42 _ _ _ _ _ _ _ E hP hD hS (lv_sub hl [0, 1, 2, 3] rfl)
          · have E := br_n E c8
            refine lv_aload_n hx hb dX7_wouldCarry_25 rfl (lv_at hl 0 rfl) ?_
            refine lv_aload_n hx hb dX7_wouldCarry_26 rfl (lv_at hl 0 rfl) ?_
            refine gf_X7_13 h0 hP 0 rfl rfl dX7_wouldCarry_27 ?_
            refine lv_iload_n hx hb dX7_wouldCarry_30 rfl (lv_at hl 3 rfl) ?_
            obtain ⟨g9, E⟩ := gd_e E
            refine aldi hx hb hK hP 2 rfl rfl g9 dX7_wouldCarry_31 ?_
            refine lv_aload_n hx hb dX7_wouldCarry_32 rfl (lv_at hl 0 rfl) ?_
            refine gf_X7_16 h0 hP 0 rfl rfl dX7_wouldCarry_33 ?_
            refine lv_iload_n hx hb dX7_wouldCarry_36 rfl (lv_at hl 3 rfl) ?_
            obtain ⟨g10, E⟩ := gd_e E
            refine aldi hx hb hK hP 3 rfl rfl g10 dX7_wouldCarry_37 ?_
            obtain ⟨r11, hF, E⟩ := bn_e E
            refine callVfi (wo := (wX7 cI cZ a v_pins v_bars v_taped v_lined v_at v_fault v_name v_low v_high v_tape v_line v_imagePins v_imageBars v_imageName v_imageLow v_imageHigh v_isKept r11.2.1 v_carries r11.2.2.1 r11.2.2.2 v_one v_other v_thought v_gone v_tied v_part v_lack v_down v_parts v_lacks v_downs v_sort v_items v_item v_carried v_first v_second)) h0 (c_X7_comes l D cI cZ cS a v_pins v_bars v_taped v_lined v_at v_fault v_name v_low v_high v_tape v_line v_imagePins v_imageBars v_imageName v_imageLow v_imageHigh v_isKept v_to v_carries v_seen v_rank v_one v_other v_thought v_gone v_tied v_part v_lack v_down v_parts v_lacks v_downs v_sort v_items v_item v_carried v_first v_second (v_low l3.toNatClampNeg) (v_high l3.toNatClampNeg) r11 hF) (gV wq_767 wq_769 wp_27 wq_8 wq_770) hdX7_comes ⟨Nat.le_of_ble_eq_true rfl, Nat.le_of_ble_eq_true rfl⟩ ⟨Nat.le_refl _, Nat.le_refl _⟩ hP hD hS hA 0 7 rfl rfl rfl hl.1 rfl (Nat.le_of_ble_eq_true rfl) dX7_wouldCarry_38 (fun H locs hP hD hS => ?_)
            refine lv_pop hx hb dX7_wouldCarry_41 rfl ?_
            exact J42 _ _ _ _ _ _ _ E hP hD hS (lv_sub hl [0, 1, 2, 3] rfl)
  refine lv_aload_n hx hb dX7_wouldCarry_0 rfl (lv_at hl 0 rfl) ?_
  obtain ⟨r12, hF, E⟩ := bn_e E
  refine callVfv (wo := (wX7 cI cZ a v_pins v_bars v_taped v_lined v_at v_fault v_name v_low v_high v_tape v_line v_imagePins v_imageBars v_imageName v_imageLow v_imageHigh v_isKept r12.1 v_carries v_seen r12.2 v_one v_other v_thought v_gone v_tied v_part v_lack v_down v_parts v_lacks v_downs v_sort v_items v_item v_carried v_first v_second)) h0 (c_X7_empties l D cI cZ cS a v_pins v_bars v_taped v_lined v_at v_fault v_name v_low v_high v_tape v_line v_imagePins v_imageBars v_imageName v_imageLow v_imageHigh v_isKept v_to v_carries v_seen v_rank v_one v_other v_thought v_gone v_tied v_part v_lack v_down v_parts v_lacks v_downs v_sort v_items v_item v_carried v_first v_second r12 hF) (gV wq_763 wq_765 wp_26 wq_8 wq_766) hdX7_empties ⟨Nat.le_of_ble_eq_true rfl, Nat.le_of_ble_eq_true rfl⟩ ⟨Nat.le_refl _, Nat.le_refl _⟩ hP hD hS hA 0 7 rfl rfl rfl hl.1 rfl (Nat.le_of_ble_eq_true rfl) dX7_wouldCarry_1 (fun H locs hP hD hS => ?_)
  refine lv_iconst (v := 0) hx hb dX7_wouldCarry_4 (by decide) ?_
  refine lv_istore_n (lv' := [(3, .int 0), (0, .ref (a 0)), (1, .int p1), (2, .int p2)]) hx hb dX7_wouldCarry_5 rfl hl (by decide) rfl (fun ls hl => ?_)
  exact J6 5000 _ _ _ _ _ _ _ E hP hD hS (lv_sub hl [1, 2, 3, 0] rfl)
theorem hdX7_ring : yX7_ring.cls = RX7 ∧ yX7_ring.cls ≠ "java/lang/invoke/MethodHandle" ∧ yX7_ring.cls ≠ "java/lang/invoke/VarHandle" ∧ (parseMethodDescriptor yX7_ring.desc).map (fun d => d.parameters.length) = some 1 := by decide +kernel
noncomputable def FX7_ring_b68 (p1 v_bars : Int32) (v_low v_high : Nat → Int32) (k39 : Int32 → Int32 → (Nat → Int32) → (Nat → Int32) → Int32 → Int32 → Option (Int32 × (Nat → Int32) × (Nat → Int32) × Int32 × Int32)) (l2 l3 : Int32) (v_to v_carries : Nat → Int32) (v_seen v_rank : Int32) : Option (Int32 × (Nat → Int32) × (Nat → Int32) × Int32 × Int32) := (k39 l2 (l3 + 1) v_to v_carries v_seen v_rank)
noncomputable def FX7_ring_b39 (p1 v_bars : Int32) (v_low v_high : Nat → Int32)  (k39 : Int32 → Int32 → (Nat → Int32) → (Nat → Int32) → Int32 → Int32 → Option (Int32 × (Nat → Int32) × (Nat → Int32) × Int32 × Int32)) (l2 l3 : Int32) (v_to v_carries : Nat → Int32) (v_seen v_rank : Int32) : Option (Int32 × (Nat → Int32) × (Nat → Int32) × Int32 × Int32) := (if p1 ≤ l3 then (some (l2, v_to, v_carries, v_seen, v_rank)) else (gd (vp_in l3 24) (if (v_carries l3.toNatClampNeg) = 0 then (FX7_ring_b68 p1 v_bars v_low v_high k39 l2 l3 v_to v_carries v_seen v_rank) else ((FX7_wouldCarry p1 l3 v_low v_high v_to v_carries v_seen v_rank).bind (fun r4 => (if r4.1 = 0 then (FX7_ring_b68 p1 v_bars v_low v_high k39 l2 l3 r4.2.1 v_carries r4.2.2.1 r4.2.2.2) else (FX7_ring_b68 p1 v_bars v_low v_high k39 (l2 ||| ((1 : Int32) <<< (l3 &&& 31))) l3 r4.2.1 v_carries r4.2.2.1 r4.2.2.2)))))))
noncomputable def FX7_ring_h39 (p1 v_bars : Int32) (v_low v_high : Nat → Int32)  : Nat → Int32 → Int32 → (Nat → Int32) → (Nat → Int32) → Int32 → Int32 → Option (Int32 × (Nat → Int32) × (Nat → Int32) × Int32 × Int32)
  | 0 => fun _ _ _ _ _ _ => none
  | n + 1 => fun l2 l3 v_to v_carries v_seen v_rank => FX7_ring_b39 p1 v_bars v_low v_high  (FX7_ring_h39 p1 v_bars v_low v_high  n) l2 l3 v_to v_carries v_seen v_rank
noncomputable def FX7_ring (p1 : Int32) (v_bars : Int32) (v_low v_high v_to v_carries : Nat → Int32) (v_seen v_rank : Int32) : Option (Int32 × (Nat → Int32) × (Nat → Int32) × Int32 × Int32) := ((FX7_isIn p1 0 (v_bars - 1)).bind (fun r6 => (if r6 = 0 then (some ((-12), v_to, v_carries, v_seen, v_rank)) else ((FX7_carriesAll v_bars v_low v_high v_to v_carries v_seen v_rank).bind (fun r8 => (gd (vp_in p1 24) (if (r8.2.1 p1.toNatClampNeg) = 0 then (FX7_ring_h39 p1 v_bars v_low v_high  5000 ((1 : Int32) <<< (p1 &&& 31)) 0 r8.1 r8.2.1 r8.2.2.1 r8.2.2.2) else (some ((-3), r8.1, r8.2.1, r8.2.2.1, r8.2.2.2)))))))))
set_option maxHeartbeats 4000000 in
set_option maxRecDepth 100000 in
theorem c_X7_ring (l : Launch) (D : va_G) (cI cZ cS : ClassId) (a : Nat → Nat) (v_pins v_bars v_taped v_lined v_at v_fault : Int32) (v_name v_low v_high v_tape v_line : Nat → Int32) (v_imagePins v_imageBars : Int32) (v_imageName v_imageLow v_imageHigh : Nat → Int32) (v_isKept : Int32) (v_to v_carries : Nat → Int32) (v_seen v_rank : Int32) (v_one v_other : Nat → Int32) (v_thought v_gone : Int32) (v_tied v_part v_lack v_down : Nat → Int32) (v_parts v_lacks v_downs : Int32) (v_sort v_items v_item v_carried : Nat → Int32) (v_first v_second : Int32) (p1 : Int32) (u : Int32 × (Nat → Int32) × (Nat → Int32) × Int32 × Int32) (hF : FX7_ring p1 v_bars v_low v_high v_to v_carries v_seen v_rank = some u) : MCi l D (tyL cI cZ cS) yX7_ring cX7_ring 4 (some .int) 18 410 [.ref (a 0), .int p1] (wX7 cI cZ a v_pins v_bars v_taped v_lined v_at v_fault v_name v_low v_high v_tape v_line v_imagePins v_imageBars v_imageName v_imageLow v_imageHigh v_isKept v_to v_carries v_seen v_rank v_one v_other v_thought v_gone v_tied v_part v_lack v_down v_parts v_lacks v_downs v_sort v_items v_item v_carried v_first v_second) (wX7 cI cZ a v_pins v_bars v_taped v_lined v_at v_fault v_name v_low v_high v_tape v_line v_imagePins v_imageBars v_imageName v_imageLow v_imageHigh v_isKept u.2.1 u.2.2.1 u.2.2.2.1 u.2.2.2.2 v_one v_other v_thought v_gone v_tied v_part v_lack v_down v_parts v_lacks v_downs v_sort v_items v_item v_carried v_first v_second) u.1 := by
  refine MCi.mk (by decide) (Nat.le_of_ble_eq_true rfl) ?_
  intro p e s m args below meth c A ls Q h0 hP hD hA hS hl hfin0
  have hfin : ∀ (u' : Int32 × (Nat → Int32) × (Nat → Int32) × Int32 × Int32), u' = u → ∀ (H : Heap) (locs : List Loc) (ls : Array Slot) (pc : Nat), va_P D vwCl (wX7 cI cZ a v_pins v_bars v_taped v_lined v_at v_fault v_name v_low v_high v_tape v_line v_imagePins v_imageBars v_imageName v_imageLow v_imageHigh v_isKept u'.2.1 u'.2.2.1 u'.2.2.2.1 u'.2.2.2.2 v_one v_other v_thought v_gone v_tied v_part v_lack v_down v_parts v_lacks v_downs v_sort v_items v_item v_carried v_first v_second) H → va_D A (wX7 cI cZ a v_pins v_bars v_taped v_lined v_at v_fault v_name v_low v_high v_tape v_line v_imagePins v_imageBars v_imageName v_imageLow v_imageHigh v_isKept u'.2.1 u'.2.2.1 u'.2.2.2.1 u'.2.2.2.2 v_one v_other v_thought v_gone v_tied v_part v_lack v_down v_parts v_lacks v_downs v_sort v_items v_item v_carried v_first v_second) → va_S A s.heap H locs → decode cX7_ring pc = .ok (.ireturn, 1) → W p l e (uR 18 410) s m args below meth c H locs 0 0 Q (F0 m pc ls [.int u'.1]) := by intro u' hu; subst hu; exact hfin0
  clear hfin0
  obtain ⟨hx, hb, hr, hlk, hml, hown, hts, hK⟩ := id h0
  have hl : lv_has ls 4 [(0, .ref (a 0)), (1, .int p1)] := hl
  have E := hF
  have J39 : ∀ (n39 : Nat) (l2 l3 : Int32) (v_to v_carries : Nat → Int32) (v_seen v_rank : Int32) (H : Heap) (locs : List Loc) (ls : Array Slot), FX7_ring_h39 p1 v_bars v_low v_high  n39 l2 l3 v_to v_carries v_seen v_rank = some u → va_P D vwCl (wX7 cI cZ a v_pins v_bars v_taped v_lined v_at v_fault v_name v_low v_high v_tape v_line v_imagePins v_imageBars v_imageName v_imageLow v_imageHigh v_isKept v_to v_carries v_seen v_rank v_one v_other v_thought v_gone v_tied v_part v_lack v_down v_parts v_lacks v_downs v_sort v_items v_item v_carried v_first v_second) H → va_D A (wX7 cI cZ a v_pins v_bars v_taped v_lined v_at v_fault v_name v_low v_high v_tape v_line v_imagePins v_imageBars v_imageName v_imageLow v_imageHigh v_isKept v_to v_carries v_seen v_rank v_one v_other v_thought v_gone v_tied v_part v_lack v_down v_parts v_lacks v_downs v_sort v_items v_item v_carried v_first v_second) → va_S A s.heap H locs → lv_has ls 4 [(0, .ref (a 0)), (1, .int p1), (2, .int l2), (3, .int l3)] → W p l e (uR 18 410) s m args below meth c H locs 0 0 Q (F0 m 39 ls []) := by
    intro n39
    induction n39 with
    | zero => intro l2 l3 v_to v_carries v_seen v_rank H locs ls E; exact none_e E
    | succ n39 ih39 =>
      intro l2 l3 v_to v_carries v_seen v_rank H locs ls E hP hD hS hl
      have E : FX7_ring_b39 p1 v_bars v_low v_high  (FX7_ring_h39 p1 v_bars v_low v_high  n39) l2 l3 v_to v_carries v_seen v_rank = some u := E
      have J68 : ∀ (l2 l3 : Int32) (v_to v_carries : Nat → Int32) (v_seen v_rank : Int32) (H : Heap) (locs : List Loc) (ls : Array Slot), FX7_ring_b68 p1 v_bars v_low v_high (FX7_ring_h39 p1 v_bars v_low v_high  n39) l2 l3 v_to v_carries v_seen v_rank = some u → va_P D vwCl (wX7 cI cZ a v_pins v_bars v_taped v_lined v_at v_fault v_name v_low v_high v_tape v_line v_imagePins v_imageBars v_imageName v_imageLow v_imageHigh v_isKept v_to v_carries v_seen v_rank v_one v_other v_thought v_gone v_tied v_part v_lack v_down v_parts v_lacks v_downs v_sort v_items v_item v_carried v_first v_second) H → va_D A (wX7 cI cZ a v_pins v_bars v_taped v_lined v_at v_fault v_name v_low v_high v_tape v_line v_imagePins v_imageBars v_imageName v_imageLow v_imageHigh v_isKept v_to v_carries v_seen v_rank v_one v_other v_thought v_gone v_tied v_part v_lack v_down v_parts v_lacks v_downs v_sort v_items v_item v_carried v_first v_second) → va_S A s.heap H locs → lv_has ls 4 [(0, .ref (a 0)), (1, .int p1), (2, .int l2), (3, .int l3)] → W p l e (uR 18 410) s m args below meth c H locs 0 0 Q (F0 m 68 ls []) := by
        intro l2 l3 v_to v_carries v_seen v_rank H locs ls E hP hD hS hl
        refine lv_iinc (v := (l3 + 1)) (lv' := [(3, .int (l3 + 1)), (0, .ref (a 0)), (1, .int p1), (2, .int l2)]) hx hb dX7_ring_68 hl (k := 3) rfl rfl (by decide) rfl (fun ls hl => ?_)
        refine lv_goto (tgt := 39) hx hb dX7_ring_71 (by decide) ?_
        exact ih39 _ _ _ _ _ _ _ _ _ E hP hD hS (lv_sub hl [1, 2, 3, 0] rfl)
      refine lv_iload_n hx hb dX7_ring_39 rfl (lv_at hl 3 rfl) ?_
      refine lv_iload_n hx hb dX7_ring_40 rfl (lv_at hl 1 rfl) ?_
      refine lv_icmp_ge (tgt := 74) hx hb dX7_ring_41 (by decide) (fun c1 => ?_) (fun c1 => ?_)
      · have E := br_p E c1
        refine lv_iload_n hx hb dX7_ring_74 rfl (lv_at hl 2 rfl) ?_
        exact hfin _ (Option.some.inj E) _ _ _ _ hP hD hS dX7_ring_75
      · have E := br_n E c1
        refine lv_aload_n hx hb dX7_ring_44 rfl (lv_at hl 0 rfl) ?_
        refine gf_X7_37 h0 hP 0 rfl rfl dX7_ring_45 ?_
        refine lv_iload_n hx hb dX7_ring_48 rfl (lv_at hl 3 rfl) ?_
        obtain ⟨g2, E⟩ := gd_e E
        refine aldz hx hb hK hP 10 rfl rfl g2 dX7_ring_49 ?_
        refine lv_if_eq (tgt := 68) hx hb dX7_ring_50 (by decide) (fun c3 => ?_) (fun c3 => ?_)
        · have E := br_p E c3
          exact J68 _ _ _ _ _ _ _ _ _ E hP hD hS (lv_sub hl [0, 1, 2, 3] rfl)
        · have E := br_n E c3
          refine lv_aload_n hx hb dX7_ring_53 rfl (lv_at hl 0 rfl) ?_
          refine lv_iload_n hx hb dX7_ring_54 rfl (lv_at hl 1 rfl) ?_
          refine lv_iload_n hx hb dX7_ring_55 rfl (lv_at hl 3 rfl) ?_
          obtain ⟨r4, hF, E⟩ := bn_e E
          refine callVfi (wo := (wX7 cI cZ a v_pins v_bars v_taped v_lined v_at v_fault v_name v_low v_high v_tape v_line v_imagePins v_imageBars v_imageName v_imageLow v_imageHigh v_isKept r4.2.1 v_carries r4.2.2.1 r4.2.2.2 v_one v_other v_thought v_gone v_tied v_part v_lack v_down v_parts v_lacks v_downs v_sort v_items v_item v_carried v_first v_second)) h0 (c_X7_wouldCarry l D cI cZ cS a v_pins v_bars v_taped v_lined v_at v_fault v_name v_low v_high v_tape v_line v_imagePins v_imageBars v_imageName v_imageLow v_imageHigh v_isKept v_to v_carries v_seen v_rank v_one v_other v_thought v_gone v_tied v_part v_lack v_down v_parts v_lacks v_downs v_sort v_items v_item v_carried v_first v_second p1 l3 r4 hF) (gV wq_846 wq_848 wp_41 wq_8 wq_849) hdX7_wouldCarry ⟨Nat.le_of_ble_eq_true rfl, Nat.le_of_ble_eq_true rfl⟩ ⟨Nat.le_refl _, Nat.le_refl _⟩ hP hD hS hA 0 7 rfl rfl rfl hl.1 rfl (Nat.le_of_ble_eq_true rfl) dX7_ring_56 (fun H locs hP hD hS => ?_)
          refine lv_if_eq (tgt := 68) hx hb dX7_ring_59 (by decide) (fun c5 => ?_) (fun c5 => ?_)
          · have E := br_p E c5
            exact J68 _ _ _ _ _ _ _ _ _ E hP hD hS (lv_sub hl [0, 1, 2, 3] rfl)
          · have E := br_n E c5
            refine lv_iload_n hx hb dX7_ring_62 rfl (lv_at hl 2 rfl) ?_
            refine lv_iconst (v := 1) hx hb dX7_ring_63 (by decide) ?_
            refine lv_iload_n hx hb dX7_ring_64 rfl (lv_at hl 3 rfl) ?_
            refine lv_ishl hx hb dX7_ring_65 ?_
            refine lv_ior hx hb dX7_ring_66 ?_
            refine lv_istore_n (lv' := [(2, .int (l2 ||| ((1 : Int32) <<< (l3 &&& 31)))), (0, .ref (a 0)), (1, .int p1), (3, .int l3)]) hx hb dX7_ring_67 rfl hl (by decide) rfl (fun ls hl => ?_)
            exact J68 _ _ _ _ _ _ _ _ _ E hP hD hS (lv_sub hl [1, 2, 0, 3] rfl)
  refine lv_iload_n hx hb dX7_ring_0 rfl (lv_at hl 1 rfl) ?_
  refine lv_iconst (v := 0) hx hb dX7_ring_1 (by decide) ?_
  refine lv_aload_n hx hb dX7_ring_2 rfl (lv_at hl 0 rfl) ?_
  refine gf_X7_106 h0 hP 0 rfl rfl dX7_ring_3 ?_
  refine lv_iconst (v := 1) hx hb dX7_ring_6 (by decide) ?_
  refine lv_isub hx hb dX7_ring_7 ?_
  obtain ⟨r6, hF, E⟩ := bn_e E
  refine callSi (wo := (wX7 cI cZ a v_pins v_bars v_taped v_lined v_at v_fault v_name v_low v_high v_tape v_line v_imagePins v_imageBars v_imageName v_imageLow v_imageHigh v_isKept v_to v_carries v_seen v_rank v_one v_other v_thought v_gone v_tied v_part v_lack v_down v_parts v_lacks v_downs v_sort v_items v_item v_carried v_first v_second)) h0 (c_X7_isIn l D cI cZ cS p1 0 (v_bars - 1) r6 hF) (gS wq_734 wq_735 wq_8 wq_736) hdX7_isIn ⟨Nat.le_of_ble_eq_true rfl, Nat.le_of_ble_eq_true rfl⟩ ⟨Nat.le_refl _, Nat.le_refl _⟩ hP hD hS hA [] rfl rfl rfl rfl hl.1 rfl (Nat.le_of_ble_eq_true rfl) dX7_ring_8 (fun H locs hP hD hS => ?_)
  refine lv_if_ne (tgt := 17) hx hb dX7_ring_11 (by decide) (fun c7 => ?_) (fun c7 => ?_)
  · have E := br_n E c7
    refine lv_aload_n hx hb dX7_ring_17 rfl (lv_at hl 0 rfl) ?_
    obtain ⟨r8, hF, E⟩ := bn_e E
    refine callVfv (wo := (wX7 cI cZ a v_pins v_bars v_taped v_lined v_at v_fault v_name v_low v_high v_tape v_line v_imagePins v_imageBars v_imageName v_imageLow v_imageHigh v_isKept r8.1 r8.2.1 r8.2.2.1 r8.2.2.2 v_one v_other v_thought v_gone v_tied v_part v_lack v_down v_parts v_lacks v_downs v_sort v_items v_item v_carried v_first v_second)) h0 (c_X7_carriesAll l D cI cZ cS a v_pins v_bars v_taped v_lined v_at v_fault v_name v_low v_high v_tape v_line v_imagePins v_imageBars v_imageName v_imageLow v_imageHigh v_isKept v_to v_carries v_seen v_rank v_one v_other v_thought v_gone v_tied v_part v_lack v_down v_parts v_lacks v_downs v_sort v_items v_item v_carried v_first v_second r8 hF) (gV wq_759 wq_761 wp_25 wq_8 wq_762) hdX7_carriesAll ⟨Nat.le_of_ble_eq_true rfl, Nat.le_of_ble_eq_true rfl⟩ ⟨Nat.le_refl _, Nat.le_refl _⟩ hP hD hS hA 0 7 rfl rfl rfl hl.1 rfl (Nat.le_of_ble_eq_true rfl) dX7_ring_18 (fun H locs hP hD hS => ?_)
    refine lv_aload_n hx hb dX7_ring_21 rfl (lv_at hl 0 rfl) ?_
    refine gf_X7_37 h0 hP 0 rfl rfl dX7_ring_22 ?_
    refine lv_iload_n hx hb dX7_ring_25 rfl (lv_at hl 1 rfl) ?_
    obtain ⟨g9, E⟩ := gd_e E
    refine aldz hx hb hK hP 10 rfl rfl g9 dX7_ring_26 ?_
    refine lv_if_eq (tgt := 33) hx hb dX7_ring_27 (by decide) (fun c10 => ?_) (fun c10 => ?_)
    · have E := br_p E c10
      refine lv_iconst (v := 1) hx hb dX7_ring_33 (by decide) ?_
      refine lv_iload_n hx hb dX7_ring_34 rfl (lv_at hl 1 rfl) ?_
      refine lv_ishl hx hb dX7_ring_35 ?_
      refine lv_istore_n (lv' := [(2, .int ((1 : Int32) <<< (p1 &&& 31))), (0, .ref (a 0)), (1, .int p1)]) hx hb dX7_ring_36 rfl hl (by decide) rfl (fun ls hl => ?_)
      refine lv_iconst (v := 0) hx hb dX7_ring_37 (by decide) ?_
      refine lv_istore_n (lv' := [(3, .int 0), (2, .int ((1 : Int32) <<< (p1 &&& 31))), (0, .ref (a 0)), (1, .int p1)]) hx hb dX7_ring_38 rfl hl (by decide) rfl (fun ls hl => ?_)
      exact J39 5000 _ _ _ _ _ _ _ _ _ E hP hD hS (lv_sub hl [2, 3, 1, 0] rfl)
    · have E := br_n E c10
      refine lv_bipush (v := (-3)) hx hb dX7_ring_30 (by decide) ?_
      exact hfin _ (Option.some.inj E) _ _ _ _ hP hD hS dX7_ring_32
  · have E := br_p E c7
    refine lv_bipush (v := (-12)) hx hb dX7_ring_14 (by decide) ?_
    exact hfin _ (Option.some.inj E) _ _ _ _ hP hD hS dX7_ring_16
theorem hdX7_worst : yX7_worst.cls = RX7 ∧ yX7_worst.cls ≠ "java/lang/invoke/MethodHandle" ∧ yX7_worst.cls ≠ "java/lang/invoke/VarHandle" ∧ (parseMethodDescriptor yX7_worst.desc).map (fun d => d.parameters.length) = some 1 := by decide +kernel
noncomputable def FX7_worst_b145 (p1 v_pins v_bars : Int32) (v_low v_high : Nat → Int32) (k30 : Int32 → Int32 → Int32 → Option (Int32)) (l2 l3 l4 : Int32) : Option (Int32) := (k30 l2 l3 (l4 + 1))
noncomputable def FX7_worst_b139 (p1 v_pins v_bars : Int32) (v_low v_high : Nat → Int32) (k30 : Int32 → Int32 → Int32 → Option (Int32)) (l4 l6 : Int32) : Option (Int32) := (FX7_worst_b145 p1 v_pins v_bars v_low v_high k30 l4 l6 l4)
noncomputable def FX7_worst_b68 (p1 v_pins v_bars : Int32) (v_low v_high : Nat → Int32) (k30 : Int32 → Int32 → Int32 → Option (Int32)) (k68 : Int32 → Int32 → Int32 → Int32 → Int32 → Int32 → Option (Int32)) (l2 l3 l4 l5 l6 l7 : Int32) : Option (Int32) := (if v_bars ≤ l7 then (if l2 = 0 then (FX7_worst_b139 p1 v_pins v_bars v_low v_high k30 l4 l6) else (if l6 < l3 then (FX7_worst_b145 p1 v_pins v_bars v_low v_high k30 l2 l3 l4) else (if l6 = l3 then ((FX7_bits l2).bind (fun r5 => (if l5 < r5 then (FX7_worst_b139 p1 v_pins v_bars v_low v_high k30 l4 l6) else (FX7_worst_b145 p1 v_pins v_bars v_low v_high k30 l2 l3 l4)))) else (FX7_worst_b139 p1 v_pins v_bars v_low v_high k30 l4 l6)))) else (gd (vp_in l7 24) (gd (vp_in l7 24) (k68 l2 l3 l4 l5 (l6 + (((l4 >>> ((v_low l7.toNatClampNeg) &&& 31)) &&& (l4 >>> ((v_high l7.toNatClampNeg) &&& 31))) &&& 1)) (l7 + 1)))))
noncomputable def FX7_worst_h68 (p1 v_pins v_bars : Int32) (v_low v_high : Nat → Int32) (k30 : Int32 → Int32 → Int32 → Option (Int32)) : Nat → Int32 → Int32 → Int32 → Int32 → Int32 → Int32 → Option (Int32)
  | 0 => fun _ _ _ _ _ _ => none
  | n + 1 => fun l2 l3 l4 l5 l6 l7 => FX7_worst_b68 p1 v_pins v_bars v_low v_high k30 (FX7_worst_h68 p1 v_pins v_bars v_low v_high k30 n) l2 l3 l4 l5 l6 l7
noncomputable def FX7_worst_b30 (p1 v_pins v_bars : Int32) (v_low v_high : Nat → Int32)  (k30 : Int32 → Int32 → Int32 → Option (Int32)) (l2 l3 l4 : Int32) : Option (Int32) := (if ((1 : Int32) <<< (v_pins &&& 31)) ≤ l4 then (if p1 = 0 then (some (1000 + l3)) else (some l2)) else ((FX7_bits l4).bind (fun r11 => (if 2 ≤ r11 then (FX7_worst_h68 p1 v_pins v_bars v_low v_high k30 5000 l2 l3 l4 r11 (3 - (2 * r11)) 0) else (FX7_worst_b145 p1 v_pins v_bars v_low v_high k30 l2 l3 l4)))))
noncomputable def FX7_worst_h30 (p1 v_pins v_bars : Int32) (v_low v_high : Nat → Int32)  : Nat → Int32 → Int32 → Int32 → Option (Int32)
  | 0 => fun _ _ _ => none
  | n + 1 => fun l2 l3 l4 => FX7_worst_b30 p1 v_pins v_bars v_low v_high  (FX7_worst_h30 p1 v_pins v_bars v_low v_high  n) l2 l3 l4
noncomputable def FX7_worst (p1 : Int32) (v_pins v_bars : Int32) (v_low v_high : Nat → Int32) : Option (Int32) := ((FX7_isIn p1 0 1).bind (fun r13 => (if r13 = 0 then (some (-2)) else (if 2 ≤ v_pins then (FX7_worst_h30 p1 v_pins v_bars v_low v_high  5000 0 0 0) else (some (-3))))))
set_option maxHeartbeats 4000000 in
set_option maxRecDepth 100000 in
theorem c_X7_worst (l : Launch) (D : va_G) (cI cZ cS : ClassId) (a : Nat → Nat) (v_pins v_bars v_taped v_lined v_at v_fault : Int32) (v_name v_low v_high v_tape v_line : Nat → Int32) (v_imagePins v_imageBars : Int32) (v_imageName v_imageLow v_imageHigh : Nat → Int32) (v_isKept : Int32) (v_to v_carries : Nat → Int32) (v_seen v_rank : Int32) (v_one v_other : Nat → Int32) (v_thought v_gone : Int32) (v_tied v_part v_lack v_down : Nat → Int32) (v_parts v_lacks v_downs : Int32) (v_sort v_items v_item v_carried : Nat → Int32) (v_first v_second : Int32) (p1 : Int32) (u : Int32) (hF : FX7_worst p1 v_pins v_bars v_low v_high = some u) : MCi l D (tyL cI cZ cS) yX7_worst cX7_worst 8 (some .int) 1 22 [.ref (a 0), .int p1] (wX7 cI cZ a v_pins v_bars v_taped v_lined v_at v_fault v_name v_low v_high v_tape v_line v_imagePins v_imageBars v_imageName v_imageLow v_imageHigh v_isKept v_to v_carries v_seen v_rank v_one v_other v_thought v_gone v_tied v_part v_lack v_down v_parts v_lacks v_downs v_sort v_items v_item v_carried v_first v_second) (wX7 cI cZ a v_pins v_bars v_taped v_lined v_at v_fault v_name v_low v_high v_tape v_line v_imagePins v_imageBars v_imageName v_imageLow v_imageHigh v_isKept v_to v_carries v_seen v_rank v_one v_other v_thought v_gone v_tied v_part v_lack v_down v_parts v_lacks v_downs v_sort v_items v_item v_carried v_first v_second) u := by
  refine MCi.mk (by decide) (Nat.le_of_ble_eq_true rfl) ?_
  intro p e s m args below meth c A ls Q h0 hP hD hA hS hl hfin0
  have hfin : ∀ (u' : Int32), u' = u → ∀ (H : Heap) (locs : List Loc) (ls : Array Slot) (pc : Nat), va_P D vwCl (wX7 cI cZ a v_pins v_bars v_taped v_lined v_at v_fault v_name v_low v_high v_tape v_line v_imagePins v_imageBars v_imageName v_imageLow v_imageHigh v_isKept v_to v_carries v_seen v_rank v_one v_other v_thought v_gone v_tied v_part v_lack v_down v_parts v_lacks v_downs v_sort v_items v_item v_carried v_first v_second) H → va_D A (wX7 cI cZ a v_pins v_bars v_taped v_lined v_at v_fault v_name v_low v_high v_tape v_line v_imagePins v_imageBars v_imageName v_imageLow v_imageHigh v_isKept v_to v_carries v_seen v_rank v_one v_other v_thought v_gone v_tied v_part v_lack v_down v_parts v_lacks v_downs v_sort v_items v_item v_carried v_first v_second) → va_S A s.heap H locs → decode cX7_worst pc = .ok (.ireturn, 1) → W p l e (uR 1 22) s m args below meth c H locs 0 0 Q (F0 m pc ls [.int u']) := by intro u' hu; subst hu; exact hfin0
  clear hfin0
  obtain ⟨hx, hb, hr, hlk, hml, hown, hts, hK⟩ := id h0
  have hl : lv_has ls 8 [(0, .ref (a 0)), (1, .int p1)] := hl
  have E := hF
  have J30 : ∀ (n30 : Nat) (l2 l3 l4 : Int32) (H : Heap) (locs : List Loc) (ls : Array Slot), FX7_worst_h30 p1 v_pins v_bars v_low v_high  n30 l2 l3 l4 = some u → va_P D vwCl (wX7 cI cZ a v_pins v_bars v_taped v_lined v_at v_fault v_name v_low v_high v_tape v_line v_imagePins v_imageBars v_imageName v_imageLow v_imageHigh v_isKept v_to v_carries v_seen v_rank v_one v_other v_thought v_gone v_tied v_part v_lack v_down v_parts v_lacks v_downs v_sort v_items v_item v_carried v_first v_second) H → va_D A (wX7 cI cZ a v_pins v_bars v_taped v_lined v_at v_fault v_name v_low v_high v_tape v_line v_imagePins v_imageBars v_imageName v_imageLow v_imageHigh v_isKept v_to v_carries v_seen v_rank v_one v_other v_thought v_gone v_tied v_part v_lack v_down v_parts v_lacks v_downs v_sort v_items v_item v_carried v_first v_second) → va_S A s.heap H locs → lv_has ls 8 [(0, .ref (a 0)), (1, .int p1), (2, .int l2), (3, .int l3), (4, .int l4)] → W p l e (uR 1 22) s m args below meth c H locs 0 0 Q (F0 m 30 ls []) := by
    intro n30
    induction n30 with
    | zero => intro l2 l3 l4 H locs ls E; exact none_e E
    | succ n30 ih30 =>
      intro l2 l3 l4 H locs ls E hP hD hS hl
      have E : FX7_worst_b30 p1 v_pins v_bars v_low v_high  (FX7_worst_h30 p1 v_pins v_bars v_low v_high  n30) l2 l3 l4 = some u := E
      have J145 : ∀ (l2 l3 l4 : Int32) (H : Heap) (locs : List Loc) (ls : Array Slot), FX7_worst_b145 p1 v_pins v_bars v_low v_high (FX7_worst_h30 p1 v_pins v_bars v_low v_high  n30) l2 l3 l4 = some u → va_P D vwCl (wX7 cI cZ a v_pins v_bars v_taped v_lined v_at v_fault v_name v_low v_high v_tape v_line v_imagePins v_imageBars v_imageName v_imageLow v_imageHigh v_isKept v_to v_carries v_seen v_rank v_one v_other v_thought v_gone v_tied v_part v_lack v_down v_parts v_lacks v_downs v_sort v_items v_item v_carried v_first v_second) H → va_D A (wX7 cI cZ a v_pins v_bars v_taped v_lined v_at v_fault v_name v_low v_high v_tape v_line v_imagePins v_imageBars v_imageName v_imageLow v_imageHigh v_isKept v_to v_carries v_seen v_rank v_one v_other v_thought v_gone v_tied v_part v_lack v_down v_parts v_lacks v_downs v_sort v_items v_item v_carried v_first v_second) → va_S A s.heap H locs → lv_has ls 8 [(0, .ref (a 0)), (1, .int p1), (2, .int l2), (3, .int l3), (4, .int l4)] → W p l e (uR 1 22) s m args below meth c H locs 0 0 Q (F0 m 145 ls []) := by
        intro l2 l3 l4 H locs ls E hP hD hS hl
        refine lv_iinc (v := (l4 + 1)) (lv' := [(4, .int (l4 + 1)), (0, .ref (a 0)), (1, .int p1), (2, .int l2), (3, .int l3)]) hx hb dX7_worst_145 hl (k := 4) rfl rfl (by decide) rfl (fun ls hl => ?_)
        refine lv_goto (tgt := 30) hx hb dX7_worst_148 (by decide) ?_
        exact ih30 _ _ _ _ _ _ E hP hD hS (lv_sub hl [1, 2, 3, 4, 0] rfl)
      have J139 : ∀ (l4 l6 : Int32) (H : Heap) (locs : List Loc) (ls : Array Slot), FX7_worst_b139 p1 v_pins v_bars v_low v_high (FX7_worst_h30 p1 v_pins v_bars v_low v_high  n30) l4 l6 = some u → va_P D vwCl (wX7 cI cZ a v_pins v_bars v_taped v_lined v_at v_fault v_name v_low v_high v_tape v_line v_imagePins v_imageBars v_imageName v_imageLow v_imageHigh v_isKept v_to v_carries v_seen v_rank v_one v_other v_thought v_gone v_tied v_part v_lack v_down v_parts v_lacks v_downs v_sort v_items v_item v_carried v_first v_second) H → va_D A (wX7 cI cZ a v_pins v_bars v_taped v_lined v_at v_fault v_name v_low v_high v_tape v_line v_imagePins v_imageBars v_imageName v_imageLow v_imageHigh v_isKept v_to v_carries v_seen v_rank v_one v_other v_thought v_gone v_tied v_part v_lack v_down v_parts v_lacks v_downs v_sort v_items v_item v_carried v_first v_second) → va_S A s.heap H locs → lv_has ls 8 [(0, .ref (a 0)), (1, .int p1), (4, .int l4), (6, .int l6)] → W p l e (uR 1 22) s m args below meth c H locs 0 0 Q (F0 m 139 ls []) := by
        intro l4 l6 H locs ls E hP hD hS hl
        refine lv_iload hx hb dX7_worst_139 (lv_at hl 2 rfl) ?_
        refine lv_istore_n (lv' := [(2, .int l4), (0, .ref (a 0)), (1, .int p1), (4, .int l4), (6, .int l6)]) hx hb dX7_worst_141 rfl hl (by decide) rfl (fun ls hl => ?_)
        refine lv_iload hx hb dX7_worst_142 (lv_at hl 4 rfl) ?_
        refine lv_istore_n (lv' := [(3, .int l6), (2, .int l4), (0, .ref (a 0)), (1, .int p1), (4, .int l4), (6, .int l6)]) hx hb dX7_worst_144 rfl hl (by decide) rfl (fun ls hl => ?_)
        exact J145 _ _ _ _ _ _ E hP hD hS (lv_sub hl [2, 3, 1, 0, 4] rfl)
      have J68 : ∀ (n68 : Nat) (l2 l3 l4 l5 l6 l7 : Int32) (H : Heap) (locs : List Loc) (ls : Array Slot), FX7_worst_h68 p1 v_pins v_bars v_low v_high (FX7_worst_h30 p1 v_pins v_bars v_low v_high  n30) n68 l2 l3 l4 l5 l6 l7 = some u → va_P D vwCl (wX7 cI cZ a v_pins v_bars v_taped v_lined v_at v_fault v_name v_low v_high v_tape v_line v_imagePins v_imageBars v_imageName v_imageLow v_imageHigh v_isKept v_to v_carries v_seen v_rank v_one v_other v_thought v_gone v_tied v_part v_lack v_down v_parts v_lacks v_downs v_sort v_items v_item v_carried v_first v_second) H → va_D A (wX7 cI cZ a v_pins v_bars v_taped v_lined v_at v_fault v_name v_low v_high v_tape v_line v_imagePins v_imageBars v_imageName v_imageLow v_imageHigh v_isKept v_to v_carries v_seen v_rank v_one v_other v_thought v_gone v_tied v_part v_lack v_down v_parts v_lacks v_downs v_sort v_items v_item v_carried v_first v_second) → va_S A s.heap H locs → lv_has ls 8 [(0, .ref (a 0)), (1, .int p1), (2, .int l2), (3, .int l3), (4, .int l4), (5, .int l5), (6, .int l6), (7, .int l7)] → W p l e (uR 1 22) s m args below meth c H locs 0 0 Q (F0 m 68 ls []) := by
        intro n68
        induction n68 with
        | zero => intro l2 l3 l4 l5 l6 l7 H locs ls E; exact none_e E
        | succ n68 ih68 =>
          intro l2 l3 l4 l5 l6 l7 H locs ls E hP hD hS hl
          have E : FX7_worst_b68 p1 v_pins v_bars v_low v_high (FX7_worst_h30 p1 v_pins v_bars v_low v_high  n30) (FX7_worst_h68 p1 v_pins v_bars v_low v_high (FX7_worst_h30 p1 v_pins v_bars v_low v_high  n30) n68) l2 l3 l4 l5 l6 l7 = some u := E
          refine lv_iload hx hb dX7_worst_68 (lv_at hl 7 rfl) ?_
          refine lv_aload_n hx hb dX7_worst_70 rfl (lv_at hl 0 rfl) ?_
          refine gf_X7_106 h0 hP 0 rfl rfl dX7_worst_71 ?_
          refine lv_icmp_ge (tgt := 111) hx hb dX7_worst_74 (by decide) (fun c1 => ?_) (fun c1 => ?_)
          · have E := br_p E c1
            refine lv_iload_n hx hb dX7_worst_111 rfl (lv_at hl 2 rfl) ?_
            refine lv_if_eq (tgt := 139) hx hb dX7_worst_112 (by decide) (fun c2 => ?_) (fun c2 => ?_)
            · have E := br_p E c2
              exact J139 _ _ _ _ _ E hP hD hS (lv_sub hl [0, 1, 4, 6] rfl)
            · have E := br_n E c2
              refine lv_iload hx hb dX7_worst_115 (lv_at hl 6 rfl) ?_
              refine lv_iload_n hx hb dX7_worst_117 rfl (lv_at hl 3 rfl) ?_
              refine lv_icmp_lt (tgt := 145) hx hb dX7_worst_118 (by decide) (fun c3 => ?_) (fun c3 => ?_)
              · have E := br_p E c3
                exact J145 _ _ _ _ _ _ E hP hD hS (lv_sub hl [0, 1, 2, 3, 4] rfl)
              · have E := br_n E c3
                refine lv_iload hx hb dX7_worst_121 (lv_at hl 6 rfl) ?_
                refine lv_iload_n hx hb dX7_worst_123 rfl (lv_at hl 3 rfl) ?_
                refine lv_icmp_ne (tgt := 139) hx hb dX7_worst_124 (by decide) (fun c4 => ?_) (fun c4 => ?_)
                · have E := br_n E c4
                  exact J139 _ _ _ _ _ E hP hD hS (lv_sub hl [0, 1, 4, 6] rfl)
                · have E := br_p E c4
                  refine lv_iload hx hb dX7_worst_127 (lv_at hl 5 rfl) ?_
                  refine lv_iload_n hx hb dX7_worst_129 rfl (lv_at hl 2 rfl) ?_
                  obtain ⟨r5, hF, E⟩ := bn_e E
                  refine callSi (wo := (wX7 cI cZ a v_pins v_bars v_taped v_lined v_at v_fault v_name v_low v_high v_tape v_line v_imagePins v_imageBars v_imageName v_imageLow v_imageHigh v_isKept v_to v_carries v_seen v_rank v_one v_other v_thought v_gone v_tied v_part v_lack v_down v_parts v_lacks v_downs v_sort v_items v_item v_carried v_first v_second)) h0 (c_X7_bits l D cI cZ cS l2 r5 hF) (gS wq_835 wq_836 wq_8 wq_837) hdX7_bits ⟨Nat.le_of_ble_eq_true rfl, Nat.le_of_ble_eq_true rfl⟩ ⟨Nat.le_refl _, Nat.le_refl _⟩ hP hD hS hA [] rfl rfl rfl rfl hl.1 rfl (Nat.le_of_ble_eq_true rfl) dX7_worst_130 (fun H locs hP hD hS => ?_)
                  refine lv_icmp_lt (tgt := 139) hx hb dX7_worst_133 (by decide) (fun c6 => ?_) (fun c6 => ?_)
                  · have E := br_p E c6
                    exact J139 _ _ _ _ _ E hP hD hS (lv_sub hl [0, 1, 4, 6] rfl)
                  · have E := br_n E c6
                    refine lv_goto (tgt := 145) hx hb dX7_worst_136 (by decide) ?_
                    exact J145 _ _ _ _ _ _ E hP hD hS (lv_sub hl [0, 1, 2, 3, 4] rfl)
          · have E := br_n E c1
            refine lv_iload hx hb dX7_worst_77 (lv_at hl 6 rfl) ?_
            refine lv_iload hx hb dX7_worst_79 (lv_at hl 4 rfl) ?_
            refine lv_aload_n hx hb dX7_worst_81 rfl (lv_at hl 0 rfl) ?_
            refine gf_X7_13 h0 hP 0 rfl rfl dX7_worst_82 ?_
            refine lv_iload hx hb dX7_worst_85 (lv_at hl 7 rfl) ?_
            obtain ⟨g7, E⟩ := gd_e E
            refine aldi hx hb hK hP 2 rfl rfl g7 dX7_worst_87 ?_
            refine lv_ishr hx hb dX7_worst_88 ?_
            refine lv_iload hx hb dX7_worst_89 (lv_at hl 4 rfl) ?_
            refine lv_aload_n hx hb dX7_worst_91 rfl (lv_at hl 0 rfl) ?_
            refine gf_X7_16 h0 hP 0 rfl rfl dX7_worst_92 ?_
            refine lv_iload hx hb dX7_worst_95 (lv_at hl 7 rfl) ?_
            obtain ⟨g8, E⟩ := gd_e E
            refine aldi hx hb hK hP 3 rfl rfl g8 dX7_worst_97 ?_
            refine lv_ishr hx hb dX7_worst_98 ?_
            refine lv_iand hx hb dX7_worst_99 ?_
            refine lv_iconst (v := 1) hx hb dX7_worst_100 (by decide) ?_
            refine lv_iand hx hb dX7_worst_101 ?_
            refine lv_iadd hx hb dX7_worst_102 ?_
            refine lv_istore (lv' := [(6, .int (l6 + (((l4 >>> ((v_low l7.toNatClampNeg) &&& 31)) &&& (l4 >>> ((v_high l7.toNatClampNeg) &&& 31))) &&& 1))), (0, .ref (a 0)), (1, .int p1), (2, .int l2), (3, .int l3), (4, .int l4), (5, .int l5), (7, .int l7)]) hx hb dX7_worst_103 hl (by decide) rfl (fun ls hl => ?_)
            refine lv_iinc (v := (l7 + 1)) (lv' := [(7, .int (l7 + 1)), (6, .int (l6 + (((l4 >>> ((v_low l7.toNatClampNeg) &&& 31)) &&& (l4 >>> ((v_high l7.toNatClampNeg) &&& 31))) &&& 1))), (0, .ref (a 0)), (1, .int p1), (2, .int l2), (3, .int l3), (4, .int l4), (5, .int l5)]) hx hb dX7_worst_105 hl (k := 7) rfl rfl (by decide) rfl (fun ls hl => ?_)
            refine lv_goto (tgt := 68) hx hb dX7_worst_108 (by decide) ?_
            exact ih68 _ _ _ _ _ _ _ _ _ E hP hD hS (lv_sub hl [2, 3, 4, 5, 6, 7, 1, 0] rfl)
      refine lv_iload hx hb dX7_worst_30 (lv_at hl 4 rfl) ?_
      refine lv_iconst (v := 1) hx hb dX7_worst_32 (by decide) ?_
      refine lv_aload_n hx hb dX7_worst_33 rfl (lv_at hl 0 rfl) ?_
      refine gf_X7_71 h0 hP 0 rfl rfl dX7_worst_34 ?_
      refine lv_ishl hx hb dX7_worst_37 ?_
      refine lv_icmp_ge (tgt := 151) hx hb dX7_worst_38 (by decide) (fun c9 => ?_) (fun c9 => ?_)
      · have E := br_p E c9
        refine lv_iload_n hx hb dX7_worst_151 rfl (lv_at hl 1 rfl) ?_
        refine lv_if_ne (tgt := 163) hx hb dX7_worst_152 (by decide) (fun c10 => ?_) (fun c10 => ?_)
        · have E := br_n E c10
          refine lv_iload_n hx hb dX7_worst_163 rfl (lv_at hl 2 rfl) ?_
          exact hfin _ (Option.some.inj E) _ _ _ _ hP hD hS dX7_worst_164
        · have E := br_p E c10
          refine lv_sipush (v := 1000) hx hb dX7_worst_155 (by decide) ?_
          refine lv_iload_n hx hb dX7_worst_158 rfl (lv_at hl 3 rfl) ?_
          refine lv_iadd hx hb dX7_worst_159 ?_
          refine lv_goto (tgt := 164) hx hb dX7_worst_160 (by decide) ?_
          exact hfin _ (Option.some.inj E) _ _ _ _ hP hD hS dX7_worst_164
      · have E := br_n E c9
        refine lv_iload hx hb dX7_worst_41 (lv_at hl 4 rfl) ?_
        obtain ⟨r11, hF, E⟩ := bn_e E
        refine callSi (wo := (wX7 cI cZ a v_pins v_bars v_taped v_lined v_at v_fault v_name v_low v_high v_tape v_line v_imagePins v_imageBars v_imageName v_imageLow v_imageHigh v_isKept v_to v_carries v_seen v_rank v_one v_other v_thought v_gone v_tied v_part v_lack v_down v_parts v_lacks v_downs v_sort v_items v_item v_carried v_first v_second)) h0 (c_X7_bits l D cI cZ cS l4 r11 hF) (gS wq_835 wq_836 wq_8 wq_837) hdX7_bits ⟨Nat.le_of_ble_eq_true rfl, Nat.le_of_ble_eq_true rfl⟩ ⟨Nat.le_refl _, Nat.le_refl _⟩ hP hD hS hA [] rfl rfl rfl rfl hl.1 rfl (Nat.le_of_ble_eq_true rfl) dX7_worst_43 (fun H locs hP hD hS => ?_)
        refine lv_istore (lv' := [(5, .int r11), (0, .ref (a 0)), (1, .int p1), (2, .int l2), (3, .int l3), (4, .int l4)]) hx hb dX7_worst_46 hl (by decide) rfl (fun ls hl => ?_)
        refine lv_iload hx hb dX7_worst_48 (lv_at hl 0 rfl) ?_
        refine lv_iconst (v := 2) hx hb dX7_worst_50 (by decide) ?_
        refine lv_icmp_ge (tgt := 57) hx hb dX7_worst_51 (by decide) (fun c12 => ?_) (fun c12 => ?_)
        · have E := br_p E c12
          refine lv_iconst (v := 3) hx hb dX7_worst_57 (by decide) ?_
          refine lv_iconst (v := 2) hx hb dX7_worst_58 (by decide) ?_
          refine lv_iload hx hb dX7_worst_59 (lv_at hl 0 rfl) ?_
          refine lv_imul hx hb dX7_worst_61 ?_
          refine lv_isub hx hb dX7_worst_62 ?_
          refine lv_istore (lv' := [(6, .int (3 - (2 * r11))), (5, .int r11), (0, .ref (a 0)), (1, .int p1), (2, .int l2), (3, .int l3), (4, .int l4)]) hx hb dX7_worst_63 hl (by decide) rfl (fun ls hl => ?_)
          refine lv_iconst (v := 0) hx hb dX7_worst_65 (by decide) ?_
          refine lv_istore (lv' := [(7, .int 0), (6, .int (3 - (2 * r11))), (5, .int r11), (0, .ref (a 0)), (1, .int p1), (2, .int l2), (3, .int l3), (4, .int l4)]) hx hb dX7_worst_66 hl (by decide) rfl (fun ls hl => ?_)
          exact J68 5000 _ _ _ _ _ _ _ _ _ E hP hD hS (lv_sub hl [3, 4, 5, 6, 7, 2, 1, 0] rfl)
        · have E := br_n E c12
          refine lv_goto (tgt := 145) hx hb dX7_worst_54 (by decide) ?_
          exact J145 _ _ _ _ _ _ E hP hD hS (lv_sub hl [1, 2, 3, 4, 5] rfl)
  refine lv_iload_n hx hb dX7_worst_0 rfl (lv_at hl 1 rfl) ?_
  refine lv_iconst (v := 0) hx hb dX7_worst_1 (by decide) ?_
  refine lv_iconst (v := 1) hx hb dX7_worst_2 (by decide) ?_
  obtain ⟨r13, hF, E⟩ := bn_e E
  refine callSi (wo := (wX7 cI cZ a v_pins v_bars v_taped v_lined v_at v_fault v_name v_low v_high v_tape v_line v_imagePins v_imageBars v_imageName v_imageLow v_imageHigh v_isKept v_to v_carries v_seen v_rank v_one v_other v_thought v_gone v_tied v_part v_lack v_down v_parts v_lacks v_downs v_sort v_items v_item v_carried v_first v_second)) h0 (c_X7_isIn l D cI cZ cS p1 0 1 r13 hF) (gS wq_734 wq_735 wq_8 wq_736) hdX7_isIn ⟨Nat.le_of_ble_eq_true rfl, Nat.le_of_ble_eq_true rfl⟩ ⟨Nat.le_refl _, Nat.le_refl _⟩ hP hD hS hA [] rfl rfl rfl rfl hl.1 rfl (Nat.le_of_ble_eq_true rfl) dX7_worst_3 (fun H locs hP hD hS => ?_)
  refine lv_if_ne (tgt := 12) hx hb dX7_worst_6 (by decide) (fun c14 => ?_) (fun c14 => ?_)
  · have E := br_n E c14
    refine lv_aload_n hx hb dX7_worst_12 rfl (lv_at hl 0 rfl) ?_
    refine gf_X7_71 h0 hP 0 rfl rfl dX7_worst_13 ?_
    refine lv_iconst (v := 2) hx hb dX7_worst_16 (by decide) ?_
    refine lv_icmp_ge (tgt := 23) hx hb dX7_worst_17 (by decide) (fun c15 => ?_) (fun c15 => ?_)
    · have E := br_p E c15
      refine lv_iconst (v := 0) hx hb dX7_worst_23 (by decide) ?_
      refine lv_istore_n (lv' := [(2, .int 0), (0, .ref (a 0)), (1, .int p1)]) hx hb dX7_worst_24 rfl hl (by decide) rfl (fun ls hl => ?_)
      refine lv_iconst (v := 0) hx hb dX7_worst_25 (by decide) ?_
      refine lv_istore_n (lv' := [(3, .int 0), (2, .int 0), (0, .ref (a 0)), (1, .int p1)]) hx hb dX7_worst_26 rfl hl (by decide) rfl (fun ls hl => ?_)
      refine lv_iconst (v := 0) hx hb dX7_worst_27 (by decide) ?_
      refine lv_istore (lv' := [(4, .int 0), (3, .int 0), (2, .int 0), (0, .ref (a 0)), (1, .int p1)]) hx hb dX7_worst_28 hl (by decide) rfl (fun ls hl => ?_)
      exact J30 5000 _ _ _ _ _ _ E hP hD hS (lv_sub hl [3, 4, 2, 1, 0] rfl)
    · have E := br_n E c15
      refine lv_bipush (v := (-3)) hx hb dX7_worst_20 (by decide) ?_
      exact hfin _ (Option.some.inj E) _ _ _ _ hP hD hS dX7_worst_22
  · have E := br_p E c14
    refine lv_bipush (v := (-2)) hx hb dX7_worst_9 (by decide) ?_
    exact hfin _ (Option.some.inj E) _ _ _ _ hP hD hS dX7_worst_11
theorem hdX7_without : yX7_without.cls = RX7 ∧ yX7_without.cls ≠ "java/lang/invoke/MethodHandle" ∧ yX7_without.cls ≠ "java/lang/invoke/VarHandle" ∧ (parseMethodDescriptor yX7_without.desc).map (fun d => d.parameters.length) = some 1 := by decide +kernel
noncomputable def FX7_without (p1 : Int32) (v_pins v_bars : Int32) (v_low v_high v_to : Nat → Int32) (v_seen v_rank : Int32) : Option (Int32 × (Nat → Int32) × Int32 × Int32) := ((FX7_isIn p1 0 (v_bars - 1)).bind (fun r1 => (if r1 = 0 then (some ((-12), v_to, v_seen, v_rank)) else ((FX7_rankWithout p1 v_bars v_low v_high v_to v_seen v_rank).bind (fun r3 => (some (((2 * v_pins) - r3.1), r3.2.1, r3.2.2.1, r3.2.2.2)))))))
set_option maxHeartbeats 4000000 in
set_option maxRecDepth 100000 in
theorem c_X7_without (l : Launch) (D : va_G) (cI cZ cS : ClassId) (a : Nat → Nat) (v_pins v_bars v_taped v_lined v_at v_fault : Int32) (v_name v_low v_high v_tape v_line : Nat → Int32) (v_imagePins v_imageBars : Int32) (v_imageName v_imageLow v_imageHigh : Nat → Int32) (v_isKept : Int32) (v_to v_carries : Nat → Int32) (v_seen v_rank : Int32) (v_one v_other : Nat → Int32) (v_thought v_gone : Int32) (v_tied v_part v_lack v_down : Nat → Int32) (v_parts v_lacks v_downs : Int32) (v_sort v_items v_item v_carried : Nat → Int32) (v_first v_second : Int32) (p1 : Int32) (u : Int32 × (Nat → Int32) × Int32 × Int32) (hF : FX7_without p1 v_pins v_bars v_low v_high v_to v_seen v_rank = some u) : MCi l D (tyL cI cZ cS) yX7_without cX7_without 2 (some .int) 18 409 [.ref (a 0), .int p1] (wX7 cI cZ a v_pins v_bars v_taped v_lined v_at v_fault v_name v_low v_high v_tape v_line v_imagePins v_imageBars v_imageName v_imageLow v_imageHigh v_isKept v_to v_carries v_seen v_rank v_one v_other v_thought v_gone v_tied v_part v_lack v_down v_parts v_lacks v_downs v_sort v_items v_item v_carried v_first v_second) (wX7 cI cZ a v_pins v_bars v_taped v_lined v_at v_fault v_name v_low v_high v_tape v_line v_imagePins v_imageBars v_imageName v_imageLow v_imageHigh v_isKept u.2.1 v_carries u.2.2.1 u.2.2.2 v_one v_other v_thought v_gone v_tied v_part v_lack v_down v_parts v_lacks v_downs v_sort v_items v_item v_carried v_first v_second) u.1 := by
  refine MCi.mk (by decide) (Nat.le_of_ble_eq_true rfl) ?_
  intro p e s m args below meth c A ls Q h0 hP hD hA hS hl hfin0
  have hfin : ∀ (u' : Int32 × (Nat → Int32) × Int32 × Int32), u' = u → ∀ (H : Heap) (locs : List Loc) (ls : Array Slot) (pc : Nat), va_P D vwCl (wX7 cI cZ a v_pins v_bars v_taped v_lined v_at v_fault v_name v_low v_high v_tape v_line v_imagePins v_imageBars v_imageName v_imageLow v_imageHigh v_isKept u'.2.1 v_carries u'.2.2.1 u'.2.2.2 v_one v_other v_thought v_gone v_tied v_part v_lack v_down v_parts v_lacks v_downs v_sort v_items v_item v_carried v_first v_second) H → va_D A (wX7 cI cZ a v_pins v_bars v_taped v_lined v_at v_fault v_name v_low v_high v_tape v_line v_imagePins v_imageBars v_imageName v_imageLow v_imageHigh v_isKept u'.2.1 v_carries u'.2.2.1 u'.2.2.2 v_one v_other v_thought v_gone v_tied v_part v_lack v_down v_parts v_lacks v_downs v_sort v_items v_item v_carried v_first v_second) → va_S A s.heap H locs → decode cX7_without pc = .ok (.ireturn, 1) → W p l e (uR 18 409) s m args below meth c H locs 0 0 Q (F0 m pc ls [.int u'.1]) := by intro u' hu; subst hu; exact hfin0
  clear hfin0
  obtain ⟨hx, hb, hr, hlk, hml, hown, hts, hK⟩ := id h0
  have hl : lv_has ls 2 [(0, .ref (a 0)), (1, .int p1)] := hl
  have E := hF
  refine lv_iload_n hx hb dX7_without_0 rfl (lv_at hl 1 rfl) ?_
  refine lv_iconst (v := 0) hx hb dX7_without_1 (by decide) ?_
  refine lv_aload_n hx hb dX7_without_2 rfl (lv_at hl 0 rfl) ?_
  refine gf_X7_106 h0 hP 0 rfl rfl dX7_without_3 ?_
  refine lv_iconst (v := 1) hx hb dX7_without_6 (by decide) ?_
  refine lv_isub hx hb dX7_without_7 ?_
  obtain ⟨r1, hF, E⟩ := bn_e E
  refine callSi (wo := (wX7 cI cZ a v_pins v_bars v_taped v_lined v_at v_fault v_name v_low v_high v_tape v_line v_imagePins v_imageBars v_imageName v_imageLow v_imageHigh v_isKept v_to v_carries v_seen v_rank v_one v_other v_thought v_gone v_tied v_part v_lack v_down v_parts v_lacks v_downs v_sort v_items v_item v_carried v_first v_second)) h0 (c_X7_isIn l D cI cZ cS p1 0 (v_bars - 1) r1 hF) (gS wq_734 wq_735 wq_8 wq_736) hdX7_isIn ⟨Nat.le_of_ble_eq_true rfl, Nat.le_of_ble_eq_true rfl⟩ ⟨Nat.le_refl _, Nat.le_refl _⟩ hP hD hS hA [] rfl rfl rfl rfl hl.1 rfl (Nat.le_of_ble_eq_true rfl) dX7_without_8 (fun H locs hP hD hS => ?_)
  refine lv_if_eq (tgt := 29) hx hb dX7_without_11 (by decide) (fun c2 => ?_) (fun c2 => ?_)
  · have E := br_p E c2
    refine lv_bipush (v := (-12)) hx hb dX7_without_29 (by decide) ?_
    exact hfin _ (Option.some.inj E) _ _ _ _ hP hD hS dX7_without_31
  · have E := br_n E c2
    refine lv_iconst (v := 2) hx hb dX7_without_14 (by decide) ?_
    refine lv_aload_n hx hb dX7_without_15 rfl (lv_at hl 0 rfl) ?_
    refine gf_X7_71 h0 hP 0 rfl rfl dX7_without_16 ?_
    refine lv_imul hx hb dX7_without_19 ?_
    refine lv_aload_n hx hb dX7_without_20 rfl (lv_at hl 0 rfl) ?_
    refine lv_iload_n hx hb dX7_without_21 rfl (lv_at hl 1 rfl) ?_
    obtain ⟨r3, hF, E⟩ := bn_e E
    refine callVfi (wo := (wX7 cI cZ a v_pins v_bars v_taped v_lined v_at v_fault v_name v_low v_high v_tape v_line v_imagePins v_imageBars v_imageName v_imageLow v_imageHigh v_isKept r3.2.1 v_carries r3.2.2.1 r3.2.2.2 v_one v_other v_thought v_gone v_tied v_part v_lack v_down v_parts v_lacks v_downs v_sort v_items v_item v_carried v_first v_second)) h0 (c_X7_rankWithout l D cI cZ cS a v_pins v_bars v_taped v_lined v_at v_fault v_name v_low v_high v_tape v_line v_imagePins v_imageBars v_imageName v_imageLow v_imageHigh v_isKept v_to v_carries v_seen v_rank v_one v_other v_thought v_gone v_tied v_part v_lack v_down v_parts v_lacks v_downs v_sort v_items v_item v_carried v_first v_second p1 r3 hF) (gV wq_803 wq_805 wp_34 wq_8 wq_806) hdX7_rankWithout ⟨Nat.le_of_ble_eq_true rfl, Nat.le_of_ble_eq_true rfl⟩ ⟨Nat.le_refl _, Nat.le_refl _⟩ hP hD hS hA 0 7 rfl rfl rfl hl.1 rfl (Nat.le_of_ble_eq_true rfl) dX7_without_22 (fun H locs hP hD hS => ?_)
    refine lv_isub hx hb dX7_without_25 ?_
    refine lv_goto (tgt := 31) hx hb dX7_without_26 (by decide) ?_
    exact hfin _ (Option.some.inj E) _ _ _ _ hP hD hS dX7_without_31
theorem hdX7_with : yX7_with.cls = RX7 ∧ yX7_with.cls ≠ "java/lang/invoke/MethodHandle" ∧ yX7_with.cls ≠ "java/lang/invoke/VarHandle" ∧ (parseMethodDescriptor yX7_with.desc).map (fun d => d.parameters.length) = some 2 := by decide +kernel
noncomputable def FX7_with (p1 p2 : Int32) (v_pins v_bars : Int32) (v_low v_high v_to v_carries : Nat → Int32) (v_seen v_rank : Int32) : Option (Int32 × (Nat → Int32) × (Nat → Int32) × Int32 × Int32) := ((FX7_areTwo p1 p2 v_pins).bind (fun r1 => (if r1 = 0 then (some ((-2), v_to, v_carries, v_seen, v_rank)) else ((FX7_carriesAll v_bars v_low v_high v_to v_carries v_seen v_rank).bind (fun r3 => ((FX7_comes p1 p2 r3.1 r3.2.2.1 r3.2.2.2).bind (fun r4 => (some (((2 * v_pins) - r4.2.2.2), r4.2.1, r3.2.1, r4.2.2.1, r4.2.2.2)))))))))
set_option maxHeartbeats 4000000 in
set_option maxRecDepth 100000 in
theorem c_X7_with (l : Launch) (D : va_G) (cI cZ cS : ClassId) (a : Nat → Nat) (v_pins v_bars v_taped v_lined v_at v_fault : Int32) (v_name v_low v_high v_tape v_line : Nat → Int32) (v_imagePins v_imageBars : Int32) (v_imageName v_imageLow v_imageHigh : Nat → Int32) (v_isKept : Int32) (v_to v_carries : Nat → Int32) (v_seen v_rank : Int32) (v_one v_other : Nat → Int32) (v_thought v_gone : Int32) (v_tied v_part v_lack v_down : Nat → Int32) (v_parts v_lacks v_downs : Int32) (v_sort v_items v_item v_carried : Nat → Int32) (v_first v_second : Int32) (p1 p2 : Int32) (u : Int32 × (Nat → Int32) × (Nat → Int32) × Int32 × Int32) (hF : FX7_with p1 p2 v_pins v_bars v_low v_high v_to v_carries v_seen v_rank = some u) : MCi l D (tyL cI cZ cS) yX7_with cX7_with 3 (some .int) 18 408 [.ref (a 0), .int p1, .int p2] (wX7 cI cZ a v_pins v_bars v_taped v_lined v_at v_fault v_name v_low v_high v_tape v_line v_imagePins v_imageBars v_imageName v_imageLow v_imageHigh v_isKept v_to v_carries v_seen v_rank v_one v_other v_thought v_gone v_tied v_part v_lack v_down v_parts v_lacks v_downs v_sort v_items v_item v_carried v_first v_second) (wX7 cI cZ a v_pins v_bars v_taped v_lined v_at v_fault v_name v_low v_high v_tape v_line v_imagePins v_imageBars v_imageName v_imageLow v_imageHigh v_isKept u.2.1 u.2.2.1 u.2.2.2.1 u.2.2.2.2 v_one v_other v_thought v_gone v_tied v_part v_lack v_down v_parts v_lacks v_downs v_sort v_items v_item v_carried v_first v_second) u.1 := by
  refine MCi.mk (by decide) (Nat.le_of_ble_eq_true rfl) ?_
  intro p e s m args below meth c A ls Q h0 hP hD hA hS hl hfin0
  have hfin : ∀ (u' : Int32 × (Nat → Int32) × (Nat → Int32) × Int32 × Int32), u' = u → ∀ (H : Heap) (locs : List Loc) (ls : Array Slot) (pc : Nat), va_P D vwCl (wX7 cI cZ a v_pins v_bars v_taped v_lined v_at v_fault v_name v_low v_high v_tape v_line v_imagePins v_imageBars v_imageName v_imageLow v_imageHigh v_isKept u'.2.1 u'.2.2.1 u'.2.2.2.1 u'.2.2.2.2 v_one v_other v_thought v_gone v_tied v_part v_lack v_down v_parts v_lacks v_downs v_sort v_items v_item v_carried v_first v_second) H → va_D A (wX7 cI cZ a v_pins v_bars v_taped v_lined v_at v_fault v_name v_low v_high v_tape v_line v_imagePins v_imageBars v_imageName v_imageLow v_imageHigh v_isKept u'.2.1 u'.2.2.1 u'.2.2.2.1 u'.2.2.2.2 v_one v_other v_thought v_gone v_tied v_part v_lack v_down v_parts v_lacks v_downs v_sort v_items v_item v_carried v_first v_second) → va_S A s.heap H locs → decode cX7_with pc = .ok (.ireturn, 1) → W p l e (uR 18 408) s m args below meth c H locs 0 0 Q (F0 m pc ls [.int u'.1]) := by intro u' hu; subst hu; exact hfin0
  clear hfin0
  obtain ⟨hx, hb, hr, hlk, hml, hown, hts, hK⟩ := id h0
  have hl : lv_has ls 3 [(0, .ref (a 0)), (1, .int p1), (2, .int p2)] := hl
  have E := hF
  refine lv_aload_n hx hb dX7_with_0 rfl (lv_at hl 0 rfl) ?_
  refine lv_iload_n hx hb dX7_with_1 rfl (lv_at hl 1 rfl) ?_
  refine lv_iload_n hx hb dX7_with_2 rfl (lv_at hl 2 rfl) ?_
  obtain ⟨r1, hF, E⟩ := bn_e E
  refine callVfi (wo := (wX7 cI cZ a v_pins v_bars v_taped v_lined v_at v_fault v_name v_low v_high v_tape v_line v_imagePins v_imageBars v_imageName v_imageLow v_imageHigh v_isKept v_to v_carries v_seen v_rank v_one v_other v_thought v_gone v_tied v_part v_lack v_down v_parts v_lacks v_downs v_sort v_items v_item v_carried v_first v_second)) h0 (c_X7_areTwo l D cI cZ cS a v_pins v_bars v_taped v_lined v_at v_fault v_name v_low v_high v_tape v_line v_imagePins v_imageBars v_imageName v_imageLow v_imageHigh v_isKept v_to v_carries v_seen v_rank v_one v_other v_thought v_gone v_tied v_part v_lack v_down v_parts v_lacks v_downs v_sort v_items v_item v_carried v_first v_second p1 p2 r1 hF) (gV wq_726 wq_728 wp_21 wq_8 wq_729) hdX7_areTwo ⟨Nat.le_of_ble_eq_true rfl, Nat.le_of_ble_eq_true rfl⟩ ⟨Nat.le_refl _, Nat.le_refl _⟩ hP hD hS hA 0 7 rfl rfl rfl hl.1 rfl (Nat.le_of_ble_eq_true rfl) dX7_with_3 (fun H locs hP hD hS => ?_)
  refine lv_if_ne (tgt := 12) hx hb dX7_with_6 (by decide) (fun c2 => ?_) (fun c2 => ?_)
  · have E := br_n E c2
    refine lv_aload_n hx hb dX7_with_12 rfl (lv_at hl 0 rfl) ?_
    obtain ⟨r3, hF, E⟩ := bn_e E
    refine callVfv (wo := (wX7 cI cZ a v_pins v_bars v_taped v_lined v_at v_fault v_name v_low v_high v_tape v_line v_imagePins v_imageBars v_imageName v_imageLow v_imageHigh v_isKept r3.1 r3.2.1 r3.2.2.1 r3.2.2.2 v_one v_other v_thought v_gone v_tied v_part v_lack v_down v_parts v_lacks v_downs v_sort v_items v_item v_carried v_first v_second)) h0 (c_X7_carriesAll l D cI cZ cS a v_pins v_bars v_taped v_lined v_at v_fault v_name v_low v_high v_tape v_line v_imagePins v_imageBars v_imageName v_imageLow v_imageHigh v_isKept v_to v_carries v_seen v_rank v_one v_other v_thought v_gone v_tied v_part v_lack v_down v_parts v_lacks v_downs v_sort v_items v_item v_carried v_first v_second r3 hF) (gV wq_759 wq_761 wp_25 wq_8 wq_762) hdX7_carriesAll ⟨Nat.le_of_ble_eq_true rfl, Nat.le_of_ble_eq_true rfl⟩ ⟨Nat.le_refl _, Nat.le_refl _⟩ hP hD hS hA 0 7 rfl rfl rfl hl.1 rfl (Nat.le_of_ble_eq_true rfl) dX7_with_13 (fun H locs hP hD hS => ?_)
    refine lv_aload_n hx hb dX7_with_16 rfl (lv_at hl 0 rfl) ?_
    refine lv_iload_n hx hb dX7_with_17 rfl (lv_at hl 1 rfl) ?_
    refine lv_iload_n hx hb dX7_with_18 rfl (lv_at hl 2 rfl) ?_
    obtain ⟨r4, hF, E⟩ := bn_e E
    refine callVfi (wo := (wX7 cI cZ a v_pins v_bars v_taped v_lined v_at v_fault v_name v_low v_high v_tape v_line v_imagePins v_imageBars v_imageName v_imageLow v_imageHigh v_isKept r4.2.1 r3.2.1 r4.2.2.1 r4.2.2.2 v_one v_other v_thought v_gone v_tied v_part v_lack v_down v_parts v_lacks v_downs v_sort v_items v_item v_carried v_first v_second)) h0 (c_X7_comes l D cI cZ cS a v_pins v_bars v_taped v_lined v_at v_fault v_name v_low v_high v_tape v_line v_imagePins v_imageBars v_imageName v_imageLow v_imageHigh v_isKept r3.1 r3.2.1 r3.2.2.1 r3.2.2.2 v_one v_other v_thought v_gone v_tied v_part v_lack v_down v_parts v_lacks v_downs v_sort v_items v_item v_carried v_first v_second p1 p2 r4 hF) (gV wq_767 wq_769 wp_27 wq_8 wq_770) hdX7_comes ⟨Nat.le_of_ble_eq_true rfl, Nat.le_of_ble_eq_true rfl⟩ ⟨Nat.le_refl _, Nat.le_refl _⟩ hP hD hS hA 0 7 rfl rfl rfl hl.1 rfl (Nat.le_of_ble_eq_true rfl) dX7_with_19 (fun H locs hP hD hS => ?_)
    refine lv_pop hx hb dX7_with_22 rfl ?_
    refine lv_iconst (v := 2) hx hb dX7_with_23 (by decide) ?_
    refine lv_aload_n hx hb dX7_with_24 rfl (lv_at hl 0 rfl) ?_
    refine gf_X7_71 h0 hP 0 rfl rfl dX7_with_25 ?_
    refine lv_imul hx hb dX7_with_28 ?_
    refine lv_aload_n hx hb dX7_with_29 rfl (lv_at hl 0 rfl) ?_
    refine gf_X7_83 h0 hP 0 rfl rfl dX7_with_30 ?_
    refine lv_isub hx hb dX7_with_33 ?_
    exact hfin _ (Option.some.inj E) _ _ _ _ hP hD hS dX7_with_34
  · have E := br_p E c2
    refine lv_bipush (v := (-2)) hx hb dX7_with_9 (by decide) ?_
    exact hfin _ (Option.some.inj E) _ _ _ _ hP hD hS dX7_with_11
theorem hdX7_findsLacking : yX7_findsLacking.cls = RX7 ∧ yX7_findsLacking.cls ≠ "java/lang/invoke/MethodHandle" ∧ yX7_findsLacking.cls ≠ "java/lang/invoke/VarHandle" ∧ (parseMethodDescriptor yX7_findsLacking.desc).map (fun d => d.parameters.length) = some 0 := by decide +kernel
noncomputable def FX7_findsLacking_b89 (v_pins v_bars : Int32) (v_low v_high : Nat → Int32) (k11 : Int32 → (Nat → Int32) → (Nat → Int32) → Int32 → Int32 → (Nat → Int32) → Int32 → Option ((Nat → Int32) × (Nat → Int32) × Int32 × Int32 × (Nat → Int32) × Int32)) (l1 : Int32) (v_to v_carries : Nat → Int32) (v_seen v_rank : Int32) (v_lack : Nat → Int32) (v_lacks : Int32) : Option ((Nat → Int32) × (Nat → Int32) × Int32 × Int32 × (Nat → Int32) × Int32) := (k11 (l1 + 1) v_to v_carries v_seen v_rank v_lack v_lacks)
noncomputable def FX7_findsLacking_b83 (v_pins v_bars : Int32) (v_low v_high : Nat → Int32) (k11 : Int32 → (Nat → Int32) → (Nat → Int32) → Int32 → Int32 → (Nat → Int32) → Int32 → Option ((Nat → Int32) × (Nat → Int32) × Int32 × Int32 × (Nat → Int32) × Int32)) (k23 : Int32 → Int32 → (Nat → Int32) → (Nat → Int32) → Int32 → Int32 → (Nat → Int32) → Int32 → Option ((Nat → Int32) × (Nat → Int32) × Int32 × Int32 × (Nat → Int32) × Int32)) (l1 l2 : Int32) (v_to v_carries : Nat → Int32) (v_seen v_rank : Int32) (v_lack : Nat → Int32) (v_lacks : Int32) : Option ((Nat → Int32) × (Nat → Int32) × Int32 × Int32 × (Nat → Int32) × Int32) := (k23 l1 (l2 + 1) v_to v_carries v_seen v_rank v_lack v_lacks)
noncomputable def FX7_findsLacking_b23 (v_pins v_bars : Int32) (v_low v_high : Nat → Int32) (k11 : Int32 → (Nat → Int32) → (Nat → Int32) → Int32 → Int32 → (Nat → Int32) → Int32 → Option ((Nat → Int32) × (Nat → Int32) × Int32 × Int32 × (Nat → Int32) × Int32)) (k23 : Int32 → Int32 → (Nat → Int32) → (Nat → Int32) → Int32 → Int32 → (Nat → Int32) → Int32 → Option ((Nat → Int32) × (Nat → Int32) × Int32 × Int32 × (Nat → Int32) × Int32)) (l1 l2 : Int32) (v_to v_carries : Nat → Int32) (v_seen v_rank : Int32) (v_lack : Nat → Int32) (v_lacks : Int32) : Option ((Nat → Int32) × (Nat → Int32) × Int32 × Int32 × (Nat → Int32) × Int32) := (if v_pins ≤ l2 then (FX7_findsLacking_b89 v_pins v_bars v_low v_high k11 l1 v_to v_carries v_seen v_rank v_lack v_lacks) else (if ((2 * v_pins) - 3) ≤ v_rank then (FX7_findsLacking_b89 v_pins v_bars v_low v_high k11 l1 v_to v_carries v_seen v_rank v_lack v_lacks) else ((FX7_comes l1 l2 v_to v_seen v_rank).bind (fun r3 => (if r3.1 = 0 then (FX7_findsLacking_b83 v_pins v_bars v_low v_high k11 k23 l1 l2 r3.2.1 v_carries r3.2.2.1 r3.2.2.2 v_lack v_lacks) else (gd (vp_in v_lacks 144) (FX7_findsLacking_b83 v_pins v_bars v_low v_high k11 k23 l1 l2 r3.2.1 v_carries r3.2.2.1 r3.2.2.2 (upd v_lack v_lacks.toNatClampNeg ((100 * l1) + l2)) (v_lacks + 1))))))))
noncomputable def FX7_findsLacking_h23 (v_pins v_bars : Int32) (v_low v_high : Nat → Int32) (k11 : Int32 → (Nat → Int32) → (Nat → Int32) → Int32 → Int32 → (Nat → Int32) → Int32 → Option ((Nat → Int32) × (Nat → Int32) × Int32 × Int32 × (Nat → Int32) × Int32)) : Nat → Int32 → Int32 → (Nat → Int32) → (Nat → Int32) → Int32 → Int32 → (Nat → Int32) → Int32 → Option ((Nat → Int32) × (Nat → Int32) × Int32 × Int32 × (Nat → Int32) × Int32)
  | 0 => fun _ _ _ _ _ _ _ _ => none
  | n + 1 => fun l1 l2 v_to v_carries v_seen v_rank v_lack v_lacks => FX7_findsLacking_b23 v_pins v_bars v_low v_high k11 (FX7_findsLacking_h23 v_pins v_bars v_low v_high k11 n) l1 l2 v_to v_carries v_seen v_rank v_lack v_lacks
noncomputable def FX7_findsLacking_b11 (v_pins v_bars : Int32) (v_low v_high : Nat → Int32)  (k11 : Int32 → (Nat → Int32) → (Nat → Int32) → Int32 → Int32 → (Nat → Int32) → Int32 → Option ((Nat → Int32) × (Nat → Int32) × Int32 × Int32 × (Nat → Int32) × Int32)) (l1 : Int32) (v_to v_carries : Nat → Int32) (v_seen v_rank : Int32) (v_lack : Nat → Int32) (v_lacks : Int32) : Option ((Nat → Int32) × (Nat → Int32) × Int32 × Int32 × (Nat → Int32) × Int32) := (if v_pins ≤ l1 then (some (v_to, v_carries, v_seen, v_rank, v_lack, v_lacks)) else (FX7_findsLacking_h23 v_pins v_bars v_low v_high k11 5000 l1 (l1 + 1) v_to v_carries v_seen v_rank v_lack v_lacks))
noncomputable def FX7_findsLacking_h11 (v_pins v_bars : Int32) (v_low v_high : Nat → Int32)  : Nat → Int32 → (Nat → Int32) → (Nat → Int32) → Int32 → Int32 → (Nat → Int32) → Int32 → Option ((Nat → Int32) × (Nat → Int32) × Int32 × Int32 × (Nat → Int32) × Int32)
  | 0 => fun _ _ _ _ _ _ _ => none
  | n + 1 => fun l1 v_to v_carries v_seen v_rank v_lack v_lacks => FX7_findsLacking_b11 v_pins v_bars v_low v_high  (FX7_findsLacking_h11 v_pins v_bars v_low v_high  n) l1 v_to v_carries v_seen v_rank v_lack v_lacks
noncomputable def FX7_findsLacking (v_pins v_bars : Int32) (v_low v_high v_to v_carries : Nat → Int32) (v_seen v_rank : Int32) (v_lack : Nat → Int32) (v_lacks : Int32) : Option ((Nat → Int32) × (Nat → Int32) × Int32 × Int32 × (Nat → Int32) × Int32) := ((FX7_carriesAll v_bars v_low v_high v_to v_carries v_seen v_rank).bind (fun r7 => (FX7_findsLacking_h11 v_pins v_bars v_low v_high  5000 0 r7.1 r7.2.1 r7.2.2.1 r7.2.2.2 v_lack 0)))
set_option maxHeartbeats 4000000 in
set_option maxRecDepth 100000 in
theorem c_X7_findsLacking (l : Launch) (D : va_G) (cI cZ cS : ClassId) (a : Nat → Nat) (v_pins v_bars v_taped v_lined v_at v_fault : Int32) (v_name v_low v_high v_tape v_line : Nat → Int32) (v_imagePins v_imageBars : Int32) (v_imageName v_imageLow v_imageHigh : Nat → Int32) (v_isKept : Int32) (v_to v_carries : Nat → Int32) (v_seen v_rank : Int32) (v_one v_other : Nat → Int32) (v_thought v_gone : Int32) (v_tied v_part v_lack v_down : Nat → Int32) (v_parts v_lacks v_downs : Int32) (v_sort v_items v_item v_carried : Nat → Int32) (v_first v_second : Int32)  (u : (Nat → Int32) × (Nat → Int32) × Int32 × Int32 × (Nat → Int32) × Int32) (hF : FX7_findsLacking v_pins v_bars v_low v_high v_to v_carries v_seen v_rank v_lack v_lacks = some u) : MCv l D (tyL cI cZ cS) yX7_findsLacking cX7_findsLacking 3 none 18 408 [.ref (a 0)] (wX7 cI cZ a v_pins v_bars v_taped v_lined v_at v_fault v_name v_low v_high v_tape v_line v_imagePins v_imageBars v_imageName v_imageLow v_imageHigh v_isKept v_to v_carries v_seen v_rank v_one v_other v_thought v_gone v_tied v_part v_lack v_down v_parts v_lacks v_downs v_sort v_items v_item v_carried v_first v_second) (wX7 cI cZ a v_pins v_bars v_taped v_lined v_at v_fault v_name v_low v_high v_tape v_line v_imagePins v_imageBars v_imageName v_imageLow v_imageHigh v_isKept u.1 u.2.1 u.2.2.1 u.2.2.2.1 v_one v_other v_thought v_gone v_tied v_part u.2.2.2.2.1 v_down v_parts u.2.2.2.2.2 v_downs v_sort v_items v_item v_carried v_first v_second) := by
  refine MCv.mk (by decide) (Nat.le_of_ble_eq_true rfl) ?_
  intro p e s m args below meth c A ls Q h0 hP hD hA hS hl hfin0
  have hfin : ∀ (u' : (Nat → Int32) × (Nat → Int32) × Int32 × Int32 × (Nat → Int32) × Int32), u' = u → ∀ (H : Heap) (locs : List Loc) (ls : Array Slot) (pc : Nat), va_P D vwCl (wX7 cI cZ a v_pins v_bars v_taped v_lined v_at v_fault v_name v_low v_high v_tape v_line v_imagePins v_imageBars v_imageName v_imageLow v_imageHigh v_isKept u'.1 u'.2.1 u'.2.2.1 u'.2.2.2.1 v_one v_other v_thought v_gone v_tied v_part u'.2.2.2.2.1 v_down v_parts u'.2.2.2.2.2 v_downs v_sort v_items v_item v_carried v_first v_second) H → va_D A (wX7 cI cZ a v_pins v_bars v_taped v_lined v_at v_fault v_name v_low v_high v_tape v_line v_imagePins v_imageBars v_imageName v_imageLow v_imageHigh v_isKept u'.1 u'.2.1 u'.2.2.1 u'.2.2.2.1 v_one v_other v_thought v_gone v_tied v_part u'.2.2.2.2.1 v_down v_parts u'.2.2.2.2.2 v_downs v_sort v_items v_item v_carried v_first v_second) → va_S A s.heap H locs → decode cX7_findsLacking pc = .ok (.return_, 1) → W p l e (uR 18 408) s m args below meth c H locs 0 0 Q (F0 m pc ls []) := by intro u' hu; subst hu; exact hfin0
  clear hfin0
  obtain ⟨hx, hb, hr, hlk, hml, hown, hts, hK⟩ := id h0
  have hl : lv_has ls 3 [(0, .ref (a 0))] := hl
  have E := hF
  have J11 : ∀ (n11 : Nat) (l1 : Int32) (v_to v_carries : Nat → Int32) (v_seen v_rank : Int32) (v_lack : Nat → Int32) (v_lacks : Int32) (H : Heap) (locs : List Loc) (ls : Array Slot), FX7_findsLacking_h11 v_pins v_bars v_low v_high  n11 l1 v_to v_carries v_seen v_rank v_lack v_lacks = some u → va_P D vwCl (wX7 cI cZ a v_pins v_bars v_taped v_lined v_at v_fault v_name v_low v_high v_tape v_line v_imagePins v_imageBars v_imageName v_imageLow v_imageHigh v_isKept v_to v_carries v_seen v_rank v_one v_other v_thought v_gone v_tied v_part v_lack v_down v_parts v_lacks v_downs v_sort v_items v_item v_carried v_first v_second) H → va_D A (wX7 cI cZ a v_pins v_bars v_taped v_lined v_at v_fault v_name v_low v_high v_tape v_line v_imagePins v_imageBars v_imageName v_imageLow v_imageHigh v_isKept v_to v_carries v_seen v_rank v_one v_other v_thought v_gone v_tied v_part v_lack v_down v_parts v_lacks v_downs v_sort v_items v_item v_carried v_first v_second) → va_S A s.heap H locs → lv_has ls 3 [(0, .ref (a 0)), (1, .int l1)] → W p l e (uR 18 408) s m args below meth c H locs 0 0 Q (F0 m 11 ls []) := by
    intro n11
    induction n11 with
    | zero => intro l1 v_to v_carries v_seen v_rank v_lack v_lacks H locs ls E; exact none_e E
    | succ n11 ih11 =>
      intro l1 v_to v_carries v_seen v_rank v_lack v_lacks H locs ls E hP hD hS hl
      have E : FX7_findsLacking_b11 v_pins v_bars v_low v_high  (FX7_findsLacking_h11 v_pins v_bars v_low v_high  n11) l1 v_to v_carries v_seen v_rank v_lack v_lacks = some u := E
      have J89 : ∀ (l1 : Int32) (v_to v_carries : Nat → Int32) (v_seen v_rank : Int32) (v_lack : Nat → Int32) (v_lacks : Int32) (H : Heap) (locs : List Loc) (ls : Array Slot), FX7_findsLacking_b89 v_pins v_bars v_low v_high (FX7_findsLacking_h11 v_pins v_bars v_low v_high  n11) l1 v_to v_carries v_seen v_rank v_lack v_lacks = some u → va_P D vwCl (wX7 cI cZ a v_pins v_bars v_taped v_lined v_at v_fault v_name v_low v_high v_tape v_line v_imagePins v_imageBars v_imageName v_imageLow v_imageHigh v_isKept v_to v_carries v_seen v_rank v_one v_other v_thought v_gone v_tied v_part v_lack v_down v_parts v_lacks v_downs v_sort v_items v_item v_carried v_first v_second) H → va_D A (wX7 cI cZ a v_pins v_bars v_taped v_lined v_at v_fault v_name v_low v_high v_tape v_line v_imagePins v_imageBars v_imageName v_imageLow v_imageHigh v_isKept v_to v_carries v_seen v_rank v_one v_other v_thought v_gone v_tied v_part v_lack v_down v_parts v_lacks v_downs v_sort v_items v_item v_carried v_first v_second) → va_S A s.heap H locs → lv_has ls 3 [(0, .ref (a 0)), (1, .int l1)] → W p l e (uR 18 408) s m args below meth c H locs 0 0 Q (F0 m 89 ls []) := by
        intro l1 v_to v_carries v_seen v_rank v_lack v_lacks H locs ls E hP hD hS hl
        refine lv_iinc (v := (l1 + 1)) (lv' := [(1, .int (l1 + 1)), (0, .ref (a 0))]) hx hb dX7_findsLacking_89 hl (k := 1) rfl rfl (by decide) rfl (fun ls hl => ?_)
        refine lv_goto (tgt := 11) hx hb dX7_findsLacking_92 (by decide) ?_
        exact ih11 _ _ _ _ _ _ _ _ _ _ E hP hD hS (lv_sub hl [1, 0] rfl)
      have J23 : ∀ (n23 : Nat) (l1 l2 : Int32) (v_to v_carries : Nat → Int32) (v_seen v_rank : Int32) (v_lack : Nat → Int32) (v_lacks : Int32) (H : Heap) (locs : List Loc) (ls : Array Slot), FX7_findsLacking_h23 v_pins v_bars v_low v_high (FX7_findsLacking_h11 v_pins v_bars v_low v_high  n11) n23 l1 l2 v_to v_carries v_seen v_rank v_lack v_lacks = some u → va_P D vwCl (wX7 cI cZ a v_pins v_bars v_taped v_lined v_at v_fault v_name v_low v_high v_tape v_line v_imagePins v_imageBars v_imageName v_imageLow v_imageHigh v_isKept v_to v_carries v_seen v_rank v_one v_other v_thought v_gone v_tied v_part v_lack v_down v_parts v_lacks v_downs v_sort v_items v_item v_carried v_first v_second) H → va_D A (wX7 cI cZ a v_pins v_bars v_taped v_lined v_at v_fault v_name v_low v_high v_tape v_line v_imagePins v_imageBars v_imageName v_imageLow v_imageHigh v_isKept v_to v_carries v_seen v_rank v_one v_other v_thought v_gone v_tied v_part v_lack v_down v_parts v_lacks v_downs v_sort v_items v_item v_carried v_first v_second) → va_S A s.heap H locs → lv_has ls 3 [(0, .ref (a 0)), (1, .int l1), (2, .int l2)] → W p l e (uR 18 408) s m args below meth c H locs 0 0 Q (F0 m 23 ls []) := by
        intro n23
        induction n23 with
        | zero => intro l1 l2 v_to v_carries v_seen v_rank v_lack v_lacks H locs ls E; exact none_e E
        | succ n23 ih23 =>
          intro l1 l2 v_to v_carries v_seen v_rank v_lack v_lacks H locs ls E hP hD hS hl
          have E : FX7_findsLacking_b23 v_pins v_bars v_low v_high (FX7_findsLacking_h11 v_pins v_bars v_low v_high  n11) (FX7_findsLacking_h23 v_pins v_bars v_low v_high (FX7_findsLacking_h11 v_pins v_bars v_low v_high  n11) n23) l1 l2 v_to v_carries v_seen v_rank v_lack v_lacks = some u := E
          have J83 : ∀ (l1 l2 : Int32) (v_to v_carries : Nat → Int32) (v_seen v_rank : Int32) (v_lack : Nat → Int32) (v_lacks : Int32) (H : Heap) (locs : List Loc) (ls : Array Slot), FX7_findsLacking_b83 v_pins v_bars v_low v_high (FX7_findsLacking_h11 v_pins v_bars v_low v_high  n11) (FX7_findsLacking_h23 v_pins v_bars v_low v_high (FX7_findsLacking_h11 v_pins v_bars v_low v_high  n11) n23) l1 l2 v_to v_carries v_seen v_rank v_lack v_lacks = some u → va_P D vwCl (wX7 cI cZ a v_pins v_bars v_taped v_lined v_at v_fault v_name v_low v_high v_tape v_line v_imagePins v_imageBars v_imageName v_imageLow v_imageHigh v_isKept v_to v_carries v_seen v_rank v_one v_other v_thought v_gone v_tied v_part v_lack v_down v_parts v_lacks v_downs v_sort v_items v_item v_carried v_first v_second) H → va_D A (wX7 cI cZ a v_pins v_bars v_taped v_lined v_at v_fault v_name v_low v_high v_tape v_line v_imagePins v_imageBars v_imageName v_imageLow v_imageHigh v_isKept v_to v_carries v_seen v_rank v_one v_other v_thought v_gone v_tied v_part v_lack v_down v_parts v_lacks v_downs v_sort v_items v_item v_carried v_first v_second) → va_S A s.heap H locs → lv_has ls 3 [(0, .ref (a 0)), (1, .int l1), (2, .int l2)] → W p l e (uR 18 408) s m args below meth c H locs 0 0 Q (F0 m 83 ls []) := by
            intro l1 l2 v_to v_carries v_seen v_rank v_lack v_lacks H locs ls E hP hD hS hl
            refine lv_iinc (v := (l2 + 1)) (lv' := [(2, .int (l2 + 1)), (0, .ref (a 0)), (1, .int l1)]) hx hb dX7_findsLacking_83 hl (k := 2) rfl rfl (by decide) rfl (fun ls hl => ?_)
            refine lv_goto (tgt := 23) hx hb dX7_findsLacking_86 (by decide) ?_
            exact ih23 _ _ _ _ _ _ _ _ _ _ _ E hP hD hS (lv_sub hl [1, 2, 0] rfl)
          refine lv_iload_n hx hb dX7_findsLacking_23 rfl (lv_at hl 2 rfl) ?_
          refine lv_aload_n hx hb dX7_findsLacking_24 rfl (lv_at hl 0 rfl) ?_
          refine gf_X7_71 h0 hP 0 rfl rfl dX7_findsLacking_25 ?_
          refine lv_icmp_ge (tgt := 89) hx hb dX7_findsLacking_28 (by decide) (fun c1 => ?_) (fun c1 => ?_)
          · have E := br_p E c1
            exact J89 _ _ _ _ _ _ _ _ _ _ E hP hD hS (lv_sub hl [0, 1] rfl)
          · have E := br_n E c1
            refine lv_aload_n hx hb dX7_findsLacking_31 rfl (lv_at hl 0 rfl) ?_
            refine gf_X7_83 h0 hP 0 rfl rfl dX7_findsLacking_32 ?_
            refine lv_iconst (v := 2) hx hb dX7_findsLacking_35 (by decide) ?_
            refine lv_aload_n hx hb dX7_findsLacking_36 rfl (lv_at hl 0 rfl) ?_
            refine gf_X7_71 h0 hP 0 rfl rfl dX7_findsLacking_37 ?_
            refine lv_imul hx hb dX7_findsLacking_40 ?_
            refine lv_iconst (v := 3) hx hb dX7_findsLacking_41 (by decide) ?_
            refine lv_isub hx hb dX7_findsLacking_42 ?_
            refine lv_icmp_ge (tgt := 89) hx hb dX7_findsLacking_43 (by decide) (fun c2 => ?_) (fun c2 => ?_)
            · have E := br_p E c2
              exact J89 _ _ _ _ _ _ _ _ _ _ E hP hD hS (lv_sub hl [0, 1] rfl)
            · have E := br_n E c2
              refine lv_aload_n hx hb dX7_findsLacking_46 rfl (lv_at hl 0 rfl) ?_
              refine lv_iload_n hx hb dX7_findsLacking_47 rfl (lv_at hl 1 rfl) ?_
              refine lv_iload_n hx hb dX7_findsLacking_48 rfl (lv_at hl 2 rfl) ?_
              obtain ⟨r3, hF, E⟩ := bn_e E
              refine callVfi (wo := (wX7 cI cZ a v_pins v_bars v_taped v_lined v_at v_fault v_name v_low v_high v_tape v_line v_imagePins v_imageBars v_imageName v_imageLow v_imageHigh v_isKept r3.2.1 v_carries r3.2.2.1 r3.2.2.2 v_one v_other v_thought v_gone v_tied v_part v_lack v_down v_parts v_lacks v_downs v_sort v_items v_item v_carried v_first v_second)) h0 (c_X7_comes l D cI cZ cS a v_pins v_bars v_taped v_lined v_at v_fault v_name v_low v_high v_tape v_line v_imagePins v_imageBars v_imageName v_imageLow v_imageHigh v_isKept v_to v_carries v_seen v_rank v_one v_other v_thought v_gone v_tied v_part v_lack v_down v_parts v_lacks v_downs v_sort v_items v_item v_carried v_first v_second l1 l2 r3 hF) (gV wq_767 wq_769 wp_27 wq_8 wq_770) hdX7_comes ⟨Nat.le_of_ble_eq_true rfl, Nat.le_of_ble_eq_true rfl⟩ ⟨Nat.le_refl _, Nat.le_refl _⟩ hP hD hS hA 0 7 rfl rfl rfl hl.1 rfl (Nat.le_of_ble_eq_true rfl) dX7_findsLacking_49 (fun H locs hP hD hS => ?_)
              refine lv_if_ne (tgt := 58) hx hb dX7_findsLacking_52 (by decide) (fun c4 => ?_) (fun c4 => ?_)
              · have E := br_n E c4
                refine lv_aload_n hx hb dX7_findsLacking_58 rfl (lv_at hl 0 rfl) ?_
                refine gf_X7_53 h0 hP 0 rfl rfl dX7_findsLacking_59 ?_
                refine lv_aload_n hx hb dX7_findsLacking_62 rfl (lv_at hl 0 rfl) ?_
                refine gf_X7_173 h0 hP 0 rfl rfl dX7_findsLacking_63 ?_
                refine lv_bipush (v := 100) hx hb dX7_findsLacking_66 (by decide) ?_
                refine lv_iload_n hx hb dX7_findsLacking_68 rfl (lv_at hl 1 rfl) ?_
                refine lv_imul hx hb dX7_findsLacking_69 ?_
                refine lv_iload_n hx hb dX7_findsLacking_70 rfl (lv_at hl 2 rfl) ?_
                refine lv_iadd hx hb dX7_findsLacking_71 ?_
                obtain ⟨g5, E⟩ := gd_e E
                refine asti (wo := (wX7 cI cZ a v_pins v_bars v_taped v_lined v_at v_fault v_name v_low v_high v_tape v_line v_imagePins v_imageBars v_imageName v_imageLow v_imageHigh v_isKept r3.2.1 v_carries r3.2.2.1 r3.2.2.2 v_one v_other v_thought v_gone v_tied v_part (upd v_lack v_lacks.toNatClampNeg ((100 * l1) + l2)) v_down v_parts v_lacks v_downs v_sort v_items v_item v_carried v_first v_second)) hx hb hK hP hD hS 15 rfl rfl g5 rfl dX7_findsLacking_72 (fun H locs hP hD hS => ?_)
                refine lv_aload_n hx hb dX7_findsLacking_73 rfl (lv_at hl 0 rfl) ?_
                refine lv_dup hx hb dX7_findsLacking_74 rfl ?_
                refine gf_X7_173 h0 hP 0 rfl rfl dX7_findsLacking_75 ?_
                refine lv_iconst (v := 1) hx hb dX7_findsLacking_78 (by decide) ?_
                refine lv_iadd hx hb dX7_findsLacking_79 ?_
                refine pf_X7_173 (wo := (wX7 cI cZ a v_pins v_bars v_taped v_lined v_at v_fault v_name v_low v_high v_tape v_line v_imagePins v_imageBars v_imageName v_imageLow v_imageHigh v_isKept r3.2.1 v_carries r3.2.2.1 r3.2.2.2 v_one v_other v_thought v_gone v_tied v_part (upd v_lack v_lacks.toNatClampNeg ((100 * l1) + l2)) v_down v_parts (v_lacks + 1) v_downs v_sort v_items v_item v_carried v_first v_second)) h0 hP hD hS 0 rfl (Nat.le_of_ble_eq_true rfl) rfl dX7_findsLacking_80 (fun H locs hP hD hS => ?_)
                exact J83 _ _ _ _ _ _ _ _ _ _ _ E hP hD hS (lv_sub hl [0, 1, 2] rfl)
              · have E := br_p E c4
                refine lv_goto (tgt := 83) hx hb dX7_findsLacking_55 (by decide) ?_
                exact J83 _ _ _ _ _ _ _ _ _ _ _ E hP hD hS (lv_sub hl [0, 1, 2] rfl)
      refine lv_iload_n hx hb dX7_findsLacking_11 rfl (lv_at hl 1 rfl) ?_
      refine lv_aload_n hx hb dX7_findsLacking_12 rfl (lv_at hl 0 rfl) ?_
      refine gf_X7_71 h0 hP 0 rfl rfl dX7_findsLacking_13 ?_
      refine lv_icmp_ge (tgt := 95) hx hb dX7_findsLacking_16 (by decide) (fun c6 => ?_) (fun c6 => ?_)
      · have E := br_p E c6
        exact hfin _ (Option.some.inj E) _ _ _ _ hP hD hS dX7_findsLacking_95
      · have E := br_n E c6
        refine lv_iload_n hx hb dX7_findsLacking_19 rfl (lv_at hl 1 rfl) ?_
        refine lv_iconst (v := 1) hx hb dX7_findsLacking_20 (by decide) ?_
        refine lv_iadd hx hb dX7_findsLacking_21 ?_
        refine lv_istore_n (lv' := [(2, .int (l1 + 1)), (0, .ref (a 0)), (1, .int l1)]) hx hb dX7_findsLacking_22 rfl hl (by decide) rfl (fun ls hl => ?_)
        exact J23 5000 _ _ _ _ _ _ _ _ _ _ _ E hP hD hS (lv_sub hl [1, 2, 0] rfl)
  refine lv_aload_n hx hb dX7_findsLacking_0 rfl (lv_at hl 0 rfl) ?_
  obtain ⟨r7, hF, E⟩ := bn_e E
  refine callVfv (wo := (wX7 cI cZ a v_pins v_bars v_taped v_lined v_at v_fault v_name v_low v_high v_tape v_line v_imagePins v_imageBars v_imageName v_imageLow v_imageHigh v_isKept r7.1 r7.2.1 r7.2.2.1 r7.2.2.2 v_one v_other v_thought v_gone v_tied v_part v_lack v_down v_parts v_lacks v_downs v_sort v_items v_item v_carried v_first v_second)) h0 (c_X7_carriesAll l D cI cZ cS a v_pins v_bars v_taped v_lined v_at v_fault v_name v_low v_high v_tape v_line v_imagePins v_imageBars v_imageName v_imageLow v_imageHigh v_isKept v_to v_carries v_seen v_rank v_one v_other v_thought v_gone v_tied v_part v_lack v_down v_parts v_lacks v_downs v_sort v_items v_item v_carried v_first v_second r7 hF) (gV wq_759 wq_761 wp_25 wq_8 wq_762) hdX7_carriesAll ⟨Nat.le_of_ble_eq_true rfl, Nat.le_of_ble_eq_true rfl⟩ ⟨Nat.le_refl _, Nat.le_refl _⟩ hP hD hS hA 0 7 rfl rfl rfl hl.1 rfl (Nat.le_of_ble_eq_true rfl) dX7_findsLacking_1 (fun H locs hP hD hS => ?_)
  refine lv_aload_n hx hb dX7_findsLacking_4 rfl (lv_at hl 0 rfl) ?_
  refine lv_iconst (v := 0) hx hb dX7_findsLacking_5 (by decide) ?_
  refine pf_X7_173 (wo := (wX7 cI cZ a v_pins v_bars v_taped v_lined v_at v_fault v_name v_low v_high v_tape v_line v_imagePins v_imageBars v_imageName v_imageLow v_imageHigh v_isKept r7.1 r7.2.1 r7.2.2.1 r7.2.2.2 v_one v_other v_thought v_gone v_tied v_part v_lack v_down v_parts 0 v_downs v_sort v_items v_item v_carried v_first v_second)) h0 hP hD hS 0 rfl (Nat.le_of_ble_eq_true rfl) rfl dX7_findsLacking_6 (fun H locs hP hD hS => ?_)
  refine lv_iconst (v := 0) hx hb dX7_findsLacking_9 (by decide) ?_
  refine lv_istore_n (lv' := [(1, .int 0), (0, .ref (a 0))]) hx hb dX7_findsLacking_10 rfl hl (by decide) rfl (fun ls hl => ?_)
  exact J11 5000 _ _ _ _ _ _ _ _ _ _ E hP hD hS (lv_sub hl [1, 0] rfl)
theorem hdX7_lacking : yX7_lacking.cls = RX7 ∧ yX7_lacking.cls ≠ "java/lang/invoke/MethodHandle" ∧ yX7_lacking.cls ≠ "java/lang/invoke/VarHandle" ∧ (parseMethodDescriptor yX7_lacking.desc).map (fun d => d.parameters.length) = some 1 := by decide +kernel
noncomputable def FX7_lacking (p1 : Int32) (v_pins v_bars : Int32) (v_low v_high v_to v_carries : Nat → Int32) (v_seen v_rank : Int32) (v_lack : Nat → Int32) (v_lacks : Int32) : Option (Int32 × (Nat → Int32) × (Nat → Int32) × Int32 × Int32 × (Nat → Int32) × Int32) := ((FX7_findsLacking v_pins v_bars v_low v_high v_to v_carries v_seen v_rank v_lack v_lacks).bind (fun r1 => (if p1 = (-1) then (some (r1.2.2.2.2.2, r1.1, r1.2.1, r1.2.2.1, r1.2.2.2.1, r1.2.2.2.2.1, r1.2.2.2.2.2)) else ((FX7_isIn p1 0 (r1.2.2.2.2.2 - 1)).bind (fun r3 => (if r3 = 0 then (some ((-12), r1.1, r1.2.1, r1.2.2.1, r1.2.2.2.1, r1.2.2.2.2.1, r1.2.2.2.2.2)) else (gd (vp_in p1 144) (some ((r1.2.2.2.2.1 p1.toNatClampNeg), r1.1, r1.2.1, r1.2.2.1, r1.2.2.2.1, r1.2.2.2.2.1, r1.2.2.2.2.2)))))))))
set_option maxHeartbeats 4000000 in
set_option maxRecDepth 100000 in
theorem c_X7_lacking (l : Launch) (D : va_G) (cI cZ cS : ClassId) (a : Nat → Nat) (v_pins v_bars v_taped v_lined v_at v_fault : Int32) (v_name v_low v_high v_tape v_line : Nat → Int32) (v_imagePins v_imageBars : Int32) (v_imageName v_imageLow v_imageHigh : Nat → Int32) (v_isKept : Int32) (v_to v_carries : Nat → Int32) (v_seen v_rank : Int32) (v_one v_other : Nat → Int32) (v_thought v_gone : Int32) (v_tied v_part v_lack v_down : Nat → Int32) (v_parts v_lacks v_downs : Int32) (v_sort v_items v_item v_carried : Nat → Int32) (v_first v_second : Int32) (p1 : Int32) (u : Int32 × (Nat → Int32) × (Nat → Int32) × Int32 × Int32 × (Nat → Int32) × Int32) (hF : FX7_lacking p1 v_pins v_bars v_low v_high v_to v_carries v_seen v_rank v_lack v_lacks = some u) : MCi l D (tyL cI cZ cS) yX7_lacking cX7_lacking 2 (some .int) 19 430 [.ref (a 0), .int p1] (wX7 cI cZ a v_pins v_bars v_taped v_lined v_at v_fault v_name v_low v_high v_tape v_line v_imagePins v_imageBars v_imageName v_imageLow v_imageHigh v_isKept v_to v_carries v_seen v_rank v_one v_other v_thought v_gone v_tied v_part v_lack v_down v_parts v_lacks v_downs v_sort v_items v_item v_carried v_first v_second) (wX7 cI cZ a v_pins v_bars v_taped v_lined v_at v_fault v_name v_low v_high v_tape v_line v_imagePins v_imageBars v_imageName v_imageLow v_imageHigh v_isKept u.2.1 u.2.2.1 u.2.2.2.1 u.2.2.2.2.1 v_one v_other v_thought v_gone v_tied v_part u.2.2.2.2.2.1 v_down v_parts u.2.2.2.2.2.2 v_downs v_sort v_items v_item v_carried v_first v_second) u.1 := by
  refine MCi.mk (by decide) (Nat.le_of_ble_eq_true rfl) ?_
  intro p e s m args below meth c A ls Q h0 hP hD hA hS hl hfin0
  have hfin : ∀ (u' : Int32 × (Nat → Int32) × (Nat → Int32) × Int32 × Int32 × (Nat → Int32) × Int32), u' = u → ∀ (H : Heap) (locs : List Loc) (ls : Array Slot) (pc : Nat), va_P D vwCl (wX7 cI cZ a v_pins v_bars v_taped v_lined v_at v_fault v_name v_low v_high v_tape v_line v_imagePins v_imageBars v_imageName v_imageLow v_imageHigh v_isKept u'.2.1 u'.2.2.1 u'.2.2.2.1 u'.2.2.2.2.1 v_one v_other v_thought v_gone v_tied v_part u'.2.2.2.2.2.1 v_down v_parts u'.2.2.2.2.2.2 v_downs v_sort v_items v_item v_carried v_first v_second) H → va_D A (wX7 cI cZ a v_pins v_bars v_taped v_lined v_at v_fault v_name v_low v_high v_tape v_line v_imagePins v_imageBars v_imageName v_imageLow v_imageHigh v_isKept u'.2.1 u'.2.2.1 u'.2.2.2.1 u'.2.2.2.2.1 v_one v_other v_thought v_gone v_tied v_part u'.2.2.2.2.2.1 v_down v_parts u'.2.2.2.2.2.2 v_downs v_sort v_items v_item v_carried v_first v_second) → va_S A s.heap H locs → decode cX7_lacking pc = .ok (.ireturn, 1) → W p l e (uR 19 430) s m args below meth c H locs 0 0 Q (F0 m pc ls [.int u'.1]) := by intro u' hu; subst hu; exact hfin0
  clear hfin0
  obtain ⟨hx, hb, hr, hlk, hml, hown, hts, hK⟩ := id h0
  have hl : lv_has ls 2 [(0, .ref (a 0)), (1, .int p1)] := hl
  have E := hF
  refine lv_aload_n hx hb dX7_lacking_0 rfl (lv_at hl 0 rfl) ?_
  obtain ⟨r1, hF, E⟩ := bn_e E
  refine callVfv (wo := (wX7 cI cZ a v_pins v_bars v_taped v_lined v_at v_fault v_name v_low v_high v_tape v_line v_imagePins v_imageBars v_imageName v_imageLow v_imageHigh v_isKept r1.1 r1.2.1 r1.2.2.1 r1.2.2.2.1 v_one v_other v_thought v_gone v_tied v_part r1.2.2.2.2.1 v_down v_parts r1.2.2.2.2.2 v_downs v_sort v_items v_item v_carried v_first v_second)) h0 (c_X7_findsLacking l D cI cZ cS a v_pins v_bars v_taped v_lined v_at v_fault v_name v_low v_high v_tape v_line v_imagePins v_imageBars v_imageName v_imageLow v_imageHigh v_isKept v_to v_carries v_seen v_rank v_one v_other v_thought v_gone v_tied v_part v_lack v_down v_parts v_lacks v_downs v_sort v_items v_item v_carried v_first v_second r1 hF) (gV wq_866 wq_868 wp_42 wq_8 wq_869) hdX7_findsLacking ⟨Nat.le_of_ble_eq_true rfl, Nat.le_of_ble_eq_true rfl⟩ ⟨Nat.le_refl _, Nat.le_refl _⟩ hP hD hS hA 0 7 rfl rfl rfl hl.1 rfl (Nat.le_of_ble_eq_true rfl) dX7_lacking_1 (fun H locs hP hD hS => ?_)
  refine lv_iload_n hx hb dX7_lacking_4 rfl (lv_at hl 1 rfl) ?_
  refine lv_iconst (v := (-1)) hx hb dX7_lacking_5 (by decide) ?_
  refine lv_icmp_ne (tgt := 16) hx hb dX7_lacking_6 (by decide) (fun c2 => ?_) (fun c2 => ?_)
  · have E := br_n E c2
    refine lv_iload_n hx hb dX7_lacking_16 rfl (lv_at hl 1 rfl) ?_
    refine lv_iconst (v := 0) hx hb dX7_lacking_17 (by decide) ?_
    refine lv_aload_n hx hb dX7_lacking_18 rfl (lv_at hl 0 rfl) ?_
    refine gf_X7_173 h0 hP 0 rfl rfl dX7_lacking_19 ?_
    refine lv_iconst (v := 1) hx hb dX7_lacking_22 (by decide) ?_
    refine lv_isub hx hb dX7_lacking_23 ?_
    obtain ⟨r3, hF, E⟩ := bn_e E
    refine callSi (wo := (wX7 cI cZ a v_pins v_bars v_taped v_lined v_at v_fault v_name v_low v_high v_tape v_line v_imagePins v_imageBars v_imageName v_imageLow v_imageHigh v_isKept r1.1 r1.2.1 r1.2.2.1 r1.2.2.2.1 v_one v_other v_thought v_gone v_tied v_part r1.2.2.2.2.1 v_down v_parts r1.2.2.2.2.2 v_downs v_sort v_items v_item v_carried v_first v_second)) h0 (c_X7_isIn l D cI cZ cS p1 0 (r1.2.2.2.2.2 - 1) r3 hF) (gS wq_734 wq_735 wq_8 wq_736) hdX7_isIn ⟨Nat.le_of_ble_eq_true rfl, Nat.le_of_ble_eq_true rfl⟩ ⟨Nat.le_refl _, Nat.le_refl _⟩ hP hD hS hA [] rfl rfl rfl rfl hl.1 rfl (Nat.le_of_ble_eq_true rfl) dX7_lacking_24 (fun H locs hP hD hS => ?_)
    refine lv_if_eq (tgt := 39) hx hb dX7_lacking_27 (by decide) (fun c4 => ?_) (fun c4 => ?_)
    · have E := br_p E c4
      refine lv_bipush (v := (-12)) hx hb dX7_lacking_39 (by decide) ?_
      exact hfin _ (Option.some.inj E) _ _ _ _ hP hD hS dX7_lacking_41
    · have E := br_n E c4
      refine lv_aload_n hx hb dX7_lacking_30 rfl (lv_at hl 0 rfl) ?_
      refine gf_X7_53 h0 hP 0 rfl rfl dX7_lacking_31 ?_
      refine lv_iload_n hx hb dX7_lacking_34 rfl (lv_at hl 1 rfl) ?_
      obtain ⟨g5, E⟩ := gd_e E
      refine aldi hx hb hK hP 15 rfl rfl g5 dX7_lacking_35 ?_
      refine lv_goto (tgt := 41) hx hb dX7_lacking_36 (by decide) ?_
      exact hfin _ (Option.some.inj E) _ _ _ _ hP hD hS dX7_lacking_41
  · have E := br_p E c2
    refine lv_aload_n hx hb dX7_lacking_9 rfl (lv_at hl 0 rfl) ?_
    refine gf_X7_173 h0 hP 0 rfl rfl dX7_lacking_10 ?_
    refine lv_goto (tgt := 41) hx hb dX7_lacking_13 (by decide) ?_
    exact hfin _ (Option.some.inj E) _ _ _ _ hP hD hS dX7_lacking_41
theorem hdX7_barsOf : yX7_barsOf.cls = RX7 ∧ yX7_barsOf.cls ≠ "java/lang/invoke/MethodHandle" ∧ yX7_barsOf.cls ≠ "java/lang/invoke/VarHandle" ∧ (parseMethodDescriptor yX7_barsOf.desc).map (fun d => d.parameters.length) = some 1 := by decide +kernel
noncomputable def FX7_barsOf_b38 (p1 : Int32) (v_one v_other : Nat → Int32) (v_thought : Int32) (k4 : Int32 → Int32 → Option (Int32)) (l3 t0 t1 : Int32) : Option (Int32) := (k4 (t0 + t1) (l3 + 1))
noncomputable def FX7_barsOf_b33 (p1 : Int32) (v_one v_other : Nat → Int32) (v_thought : Int32) (k4 : Int32 → Int32 → Option (Int32)) (l3 t0 : Int32) : Option (Int32) := (FX7_barsOf_b38 p1 v_one v_other v_thought k4 l3 t0 1)
noncomputable def FX7_barsOf_b4 (p1 : Int32) (v_one v_other : Nat → Int32) (v_thought : Int32)  (k4 : Int32 → Int32 → Option (Int32)) (l2 l3 : Int32) : Option (Int32) := (if v_thought ≤ l3 then (some l2) else (gd (vp_in l3 72) (if (v_one l3.toNatClampNeg) = p1 then (FX7_barsOf_b33 p1 v_one v_other v_thought k4 l3 l2) else (gd (vp_in l3 72) (if (v_other l3.toNatClampNeg) = p1 then (FX7_barsOf_b33 p1 v_one v_other v_thought k4 l3 l2) else (FX7_barsOf_b38 p1 v_one v_other v_thought k4 l3 l2 0))))))
noncomputable def FX7_barsOf_h4 (p1 : Int32) (v_one v_other : Nat → Int32) (v_thought : Int32)  : Nat → Int32 → Int32 → Option (Int32)
  | 0 => fun _ _ => none
  | n + 1 => fun l2 l3 => FX7_barsOf_b4 p1 v_one v_other v_thought  (FX7_barsOf_h4 p1 v_one v_other v_thought  n) l2 l3
noncomputable def FX7_barsOf (p1 : Int32) (v_one v_other : Nat → Int32) (v_thought : Int32) : Option (Int32) := (FX7_barsOf_h4 p1 v_one v_other v_thought  5000 0 0)
set_option maxHeartbeats 4000000 in
set_option maxRecDepth 100000 in
theorem c_X7_barsOf (l : Launch) (D : va_G) (cI cZ cS : ClassId) (a : Nat → Nat) (v_pins v_bars v_taped v_lined v_at v_fault : Int32) (v_name v_low v_high v_tape v_line : Nat → Int32) (v_imagePins v_imageBars : Int32) (v_imageName v_imageLow v_imageHigh : Nat → Int32) (v_isKept : Int32) (v_to v_carries : Nat → Int32) (v_seen v_rank : Int32) (v_one v_other : Nat → Int32) (v_thought v_gone : Int32) (v_tied v_part v_lack v_down : Nat → Int32) (v_parts v_lacks v_downs : Int32) (v_sort v_items v_item v_carried : Nat → Int32) (v_first v_second : Int32) (p1 : Int32) (u : Int32) (hF : FX7_barsOf p1 v_one v_other v_thought = some u) : MCi l D (tyL cI cZ cS) yX7_barsOf cX7_barsOf 4 (some .int) 0 0 [.ref (a 0), .int p1] (wX7 cI cZ a v_pins v_bars v_taped v_lined v_at v_fault v_name v_low v_high v_tape v_line v_imagePins v_imageBars v_imageName v_imageLow v_imageHigh v_isKept v_to v_carries v_seen v_rank v_one v_other v_thought v_gone v_tied v_part v_lack v_down v_parts v_lacks v_downs v_sort v_items v_item v_carried v_first v_second) (wX7 cI cZ a v_pins v_bars v_taped v_lined v_at v_fault v_name v_low v_high v_tape v_line v_imagePins v_imageBars v_imageName v_imageLow v_imageHigh v_isKept v_to v_carries v_seen v_rank v_one v_other v_thought v_gone v_tied v_part v_lack v_down v_parts v_lacks v_downs v_sort v_items v_item v_carried v_first v_second) u := by
  refine MCi.mk (by decide) (Nat.le_of_ble_eq_true rfl) ?_
  intro p e s m args below meth c A ls Q h0 hP hD hA hS hl hfin0
  have hfin : ∀ (u' : Int32), u' = u → ∀ (H : Heap) (locs : List Loc) (ls : Array Slot) (pc : Nat), va_P D vwCl (wX7 cI cZ a v_pins v_bars v_taped v_lined v_at v_fault v_name v_low v_high v_tape v_line v_imagePins v_imageBars v_imageName v_imageLow v_imageHigh v_isKept v_to v_carries v_seen v_rank v_one v_other v_thought v_gone v_tied v_part v_lack v_down v_parts v_lacks v_downs v_sort v_items v_item v_carried v_first v_second) H → va_D A (wX7 cI cZ a v_pins v_bars v_taped v_lined v_at v_fault v_name v_low v_high v_tape v_line v_imagePins v_imageBars v_imageName v_imageLow v_imageHigh v_isKept v_to v_carries v_seen v_rank v_one v_other v_thought v_gone v_tied v_part v_lack v_down v_parts v_lacks v_downs v_sort v_items v_item v_carried v_first v_second) → va_S A s.heap H locs → decode cX7_barsOf pc = .ok (.ireturn, 1) → W p l e (uR 0 0) s m args below meth c H locs 0 0 Q (F0 m pc ls [.int u']) := by intro u' hu; subst hu; exact hfin0
  clear hfin0
  obtain ⟨hx, hb, hr, hlk, hml, hown, hts, hK⟩ := id h0
  have hl : lv_has ls 4 [(0, .ref (a 0)), (1, .int p1)] := hl
  have E := hF
  have J4 : ∀ (n4 : Nat) (l2 l3 : Int32) (H : Heap) (locs : List Loc) (ls : Array Slot), FX7_barsOf_h4 p1 v_one v_other v_thought  n4 l2 l3 = some u → va_P D vwCl (wX7 cI cZ a v_pins v_bars v_taped v_lined v_at v_fault v_name v_low v_high v_tape v_line v_imagePins v_imageBars v_imageName v_imageLow v_imageHigh v_isKept v_to v_carries v_seen v_rank v_one v_other v_thought v_gone v_tied v_part v_lack v_down v_parts v_lacks v_downs v_sort v_items v_item v_carried v_first v_second) H → va_D A (wX7 cI cZ a v_pins v_bars v_taped v_lined v_at v_fault v_name v_low v_high v_tape v_line v_imagePins v_imageBars v_imageName v_imageLow v_imageHigh v_isKept v_to v_carries v_seen v_rank v_one v_other v_thought v_gone v_tied v_part v_lack v_down v_parts v_lacks v_downs v_sort v_items v_item v_carried v_first v_second) → va_S A s.heap H locs → lv_has ls 4 [(0, .ref (a 0)), (1, .int p1), (2, .int l2), (3, .int l3)] → W p l e (uR 0 0) s m args below meth c H locs 0 0 Q (F0 m 4 ls []) := by
    intro n4
    induction n4 with
    | zero => intro l2 l3 H locs ls E; exact none_e E
    | succ n4 ih4 =>
      intro l2 l3 H locs ls E hP hD hS hl
      have E : FX7_barsOf_b4 p1 v_one v_other v_thought  (FX7_barsOf_h4 p1 v_one v_other v_thought  n4) l2 l3 = some u := E
      have J38 : ∀ (l3 t0 t1 : Int32) (H : Heap) (locs : List Loc) (ls : Array Slot), FX7_barsOf_b38 p1 v_one v_other v_thought (FX7_barsOf_h4 p1 v_one v_other v_thought  n4) l3 t0 t1 = some u → va_P D vwCl (wX7 cI cZ a v_pins v_bars v_taped v_lined v_at v_fault v_name v_low v_high v_tape v_line v_imagePins v_imageBars v_imageName v_imageLow v_imageHigh v_isKept v_to v_carries v_seen v_rank v_one v_other v_thought v_gone v_tied v_part v_lack v_down v_parts v_lacks v_downs v_sort v_items v_item v_carried v_first v_second) H → va_D A (wX7 cI cZ a v_pins v_bars v_taped v_lined v_at v_fault v_name v_low v_high v_tape v_line v_imagePins v_imageBars v_imageName v_imageLow v_imageHigh v_isKept v_to v_carries v_seen v_rank v_one v_other v_thought v_gone v_tied v_part v_lack v_down v_parts v_lacks v_downs v_sort v_items v_item v_carried v_first v_second) → va_S A s.heap H locs → lv_has ls 4 [(0, .ref (a 0)), (1, .int p1), (3, .int l3)] → W p l e (uR 0 0) s m args below meth c H locs 0 0 Q (F0 m 38 ls [.int t1, .int t0]) := by
        intro l3 t0 t1 H locs ls E hP hD hS hl
        refine lv_iadd hx hb dX7_barsOf_38 ?_
        refine lv_istore_n (lv' := [(2, .int (t0 + t1)), (0, .ref (a 0)), (1, .int p1), (3, .int l3)]) hx hb dX7_barsOf_39 rfl hl (by decide) rfl (fun ls hl => ?_)
        refine lv_iinc (v := (l3 + 1)) (lv' := [(3, .int (l3 + 1)), (2, .int (t0 + t1)), (0, .ref (a 0)), (1, .int p1)]) hx hb dX7_barsOf_40 hl (k := 3) rfl rfl (by decide) rfl (fun ls hl => ?_)
        refine lv_goto (tgt := 4) hx hb dX7_barsOf_43 (by decide) ?_
        exact ih4 _ _ _ _ _ E hP hD hS (lv_sub hl [2, 3, 1, 0] rfl)
      have J33 : ∀ (l3 t0 : Int32) (H : Heap) (locs : List Loc) (ls : Array Slot), FX7_barsOf_b33 p1 v_one v_other v_thought (FX7_barsOf_h4 p1 v_one v_other v_thought  n4) l3 t0 = some u → va_P D vwCl (wX7 cI cZ a v_pins v_bars v_taped v_lined v_at v_fault v_name v_low v_high v_tape v_line v_imagePins v_imageBars v_imageName v_imageLow v_imageHigh v_isKept v_to v_carries v_seen v_rank v_one v_other v_thought v_gone v_tied v_part v_lack v_down v_parts v_lacks v_downs v_sort v_items v_item v_carried v_first v_second) H → va_D A (wX7 cI cZ a v_pins v_bars v_taped v_lined v_at v_fault v_name v_low v_high v_tape v_line v_imagePins v_imageBars v_imageName v_imageLow v_imageHigh v_isKept v_to v_carries v_seen v_rank v_one v_other v_thought v_gone v_tied v_part v_lack v_down v_parts v_lacks v_downs v_sort v_items v_item v_carried v_first v_second) → va_S A s.heap H locs → lv_has ls 4 [(0, .ref (a 0)), (1, .int p1), (3, .int l3)] → W p l e (uR 0 0) s m args below meth c H locs 0 0 Q (F0 m 33 ls [.int t0]) := by
        intro l3 t0 H locs ls E hP hD hS hl
        refine lv_iconst (v := 1) hx hb dX7_barsOf_33 (by decide) ?_
        refine lv_goto (tgt := 38) hx hb dX7_barsOf_34 (by decide) ?_
        exact J38 _ _ _ _ _ _ E hP hD hS (lv_sub hl [0, 1, 2] rfl)
      refine lv_iload_n hx hb dX7_barsOf_4 rfl (lv_at hl 3 rfl) ?_
      refine lv_aload_n hx hb dX7_barsOf_5 rfl (lv_at hl 0 rfl) ?_
      refine gf_X7_179 h0 hP 0 rfl rfl dX7_barsOf_6 ?_
      refine lv_icmp_ge (tgt := 46) hx hb dX7_barsOf_9 (by decide) (fun c1 => ?_) (fun c1 => ?_)
      · have E := br_p E c1
        refine lv_iload_n hx hb dX7_barsOf_46 rfl (lv_at hl 2 rfl) ?_
        exact hfin _ (Option.some.inj E) _ _ _ _ hP hD hS dX7_barsOf_47
      · have E := br_n E c1
        refine lv_iload_n hx hb dX7_barsOf_12 rfl (lv_at hl 2 rfl) ?_
        refine lv_aload_n hx hb dX7_barsOf_13 rfl (lv_at hl 0 rfl) ?_
        refine gf_X7_41 h0 hP 0 rfl rfl dX7_barsOf_14 ?_
        refine lv_iload_n hx hb dX7_barsOf_17 rfl (lv_at hl 3 rfl) ?_
        obtain ⟨g2, E⟩ := gd_e E
        refine aldi hx hb hK hP 11 rfl rfl g2 dX7_barsOf_18 ?_
        refine lv_iload_n hx hb dX7_barsOf_19 rfl (lv_at hl 1 rfl) ?_
        refine lv_icmp_eq (tgt := 33) hx hb dX7_barsOf_20 (by decide) (fun c3 => ?_) (fun c3 => ?_)
        · have E := br_p E c3
          exact J33 _ _ _ _ _ E hP hD hS (lv_sub hl [0, 1, 3] rfl)
        · have E := br_n E c3
          refine lv_aload_n hx hb dX7_barsOf_23 rfl (lv_at hl 0 rfl) ?_
          refine gf_X7_44 h0 hP 0 rfl rfl dX7_barsOf_24 ?_
          refine lv_iload_n hx hb dX7_barsOf_27 rfl (lv_at hl 3 rfl) ?_
          obtain ⟨g4, E⟩ := gd_e E
          refine aldi hx hb hK hP 12 rfl rfl g4 dX7_barsOf_28 ?_
          refine lv_iload_n hx hb dX7_barsOf_29 rfl (lv_at hl 1 rfl) ?_
          refine lv_icmp_ne (tgt := 37) hx hb dX7_barsOf_30 (by decide) (fun c5 => ?_) (fun c5 => ?_)
          · have E := br_n E c5
            refine lv_iconst (v := 0) hx hb dX7_barsOf_37 (by decide) ?_
            exact J38 _ _ _ _ _ _ E hP hD hS (lv_sub hl [0, 1, 3] rfl)
          · have E := br_p E c5
            exact J33 _ _ _ _ _ E hP hD hS (lv_sub hl [0, 1, 3] rfl)
  refine lv_iconst (v := 0) hx hb dX7_barsOf_0 (by decide) ?_
  refine lv_istore_n (lv' := [(2, .int 0), (0, .ref (a 0)), (1, .int p1)]) hx hb dX7_barsOf_1 rfl hl (by decide) rfl (fun ls hl => ?_)
  refine lv_iconst (v := 0) hx hb dX7_barsOf_2 (by decide) ?_
  refine lv_istore_n (lv' := [(3, .int 0), (2, .int 0), (0, .ref (a 0)), (1, .int p1)]) hx hb dX7_barsOf_3 rfl hl (by decide) rfl (fun ls hl => ?_)
  exact J4 5000 _ _ _ _ _ E hP hD hS (lv_sub hl [2, 3, 1, 0] rfl)
theorem hdX7_firstOf : yX7_firstOf.cls = RX7 ∧ yX7_firstOf.cls ≠ "java/lang/invoke/MethodHandle" ∧ yX7_firstOf.cls ≠ "java/lang/invoke/VarHandle" ∧ (parseMethodDescriptor yX7_firstOf.desc).map (fun d => d.parameters.length) = some 1 := by decide +kernel
noncomputable def FX7_firstOf_b32 (p1 v_pins : Int32) (v_one v_other : Nat → Int32) (v_thought v_gone : Int32) (k2 : Int32 → Option (Int32)) (l2 : Int32) : Option (Int32) := (k2 (l2 + 1))
noncomputable def FX7_firstOf_b2 (p1 v_pins : Int32) (v_one v_other : Nat → Int32) (v_thought v_gone : Int32)  (k2 : Int32 → Option (Int32)) (l2 : Int32) : Option (Int32) := (if v_pins ≤ l2 then (some (-1)) else (if ((v_gone >>> (l2 &&& 31)) &&& 1) = 0 then ((FX7_barsOf l2 v_one v_other v_thought).bind (fun r3 => (if r3 = p1 then (some l2) else (FX7_firstOf_b32 p1 v_pins v_one v_other v_thought v_gone k2 l2)))) else (FX7_firstOf_b32 p1 v_pins v_one v_other v_thought v_gone k2 l2)))
noncomputable def FX7_firstOf_h2 (p1 v_pins : Int32) (v_one v_other : Nat → Int32) (v_thought v_gone : Int32)  : Nat → Int32 → Option (Int32)
  | 0 => fun _ => none
  | n + 1 => fun l2 => FX7_firstOf_b2 p1 v_pins v_one v_other v_thought v_gone  (FX7_firstOf_h2 p1 v_pins v_one v_other v_thought v_gone  n) l2
noncomputable def FX7_firstOf (p1 : Int32) (v_pins : Int32) (v_one v_other : Nat → Int32) (v_thought v_gone : Int32) : Option (Int32) := (FX7_firstOf_h2 p1 v_pins v_one v_other v_thought v_gone  5000 0)
set_option maxHeartbeats 4000000 in
set_option maxRecDepth 100000 in
theorem c_X7_firstOf (l : Launch) (D : va_G) (cI cZ cS : ClassId) (a : Nat → Nat) (v_pins v_bars v_taped v_lined v_at v_fault : Int32) (v_name v_low v_high v_tape v_line : Nat → Int32) (v_imagePins v_imageBars : Int32) (v_imageName v_imageLow v_imageHigh : Nat → Int32) (v_isKept : Int32) (v_to v_carries : Nat → Int32) (v_seen v_rank : Int32) (v_one v_other : Nat → Int32) (v_thought v_gone : Int32) (v_tied v_part v_lack v_down : Nat → Int32) (v_parts v_lacks v_downs : Int32) (v_sort v_items v_item v_carried : Nat → Int32) (v_first v_second : Int32) (p1 : Int32) (u : Int32) (hF : FX7_firstOf p1 v_pins v_one v_other v_thought v_gone = some u) : MCi l D (tyL cI cZ cS) yX7_firstOf cX7_firstOf 3 (some .int) 1 23 [.ref (a 0), .int p1] (wX7 cI cZ a v_pins v_bars v_taped v_lined v_at v_fault v_name v_low v_high v_tape v_line v_imagePins v_imageBars v_imageName v_imageLow v_imageHigh v_isKept v_to v_carries v_seen v_rank v_one v_other v_thought v_gone v_tied v_part v_lack v_down v_parts v_lacks v_downs v_sort v_items v_item v_carried v_first v_second) (wX7 cI cZ a v_pins v_bars v_taped v_lined v_at v_fault v_name v_low v_high v_tape v_line v_imagePins v_imageBars v_imageName v_imageLow v_imageHigh v_isKept v_to v_carries v_seen v_rank v_one v_other v_thought v_gone v_tied v_part v_lack v_down v_parts v_lacks v_downs v_sort v_items v_item v_carried v_first v_second) u := by
  refine MCi.mk (by decide) (Nat.le_of_ble_eq_true rfl) ?_
  intro p e s m args below meth c A ls Q h0 hP hD hA hS hl hfin0
  have hfin : ∀ (u' : Int32), u' = u → ∀ (H : Heap) (locs : List Loc) (ls : Array Slot) (pc : Nat), va_P D vwCl (wX7 cI cZ a v_pins v_bars v_taped v_lined v_at v_fault v_name v_low v_high v_tape v_line v_imagePins v_imageBars v_imageName v_imageLow v_imageHigh v_isKept v_to v_carries v_seen v_rank v_one v_other v_thought v_gone v_tied v_part v_lack v_down v_parts v_lacks v_downs v_sort v_items v_item v_carried v_first v_second) H → va_D A (wX7 cI cZ a v_pins v_bars v_taped v_lined v_at v_fault v_name v_low v_high v_tape v_line v_imagePins v_imageBars v_imageName v_imageLow v_imageHigh v_isKept v_to v_carries v_seen v_rank v_one v_other v_thought v_gone v_tied v_part v_lack v_down v_parts v_lacks v_downs v_sort v_items v_item v_carried v_first v_second) → va_S A s.heap H locs → decode cX7_firstOf pc = .ok (.ireturn, 1) → W p l e (uR 1 23) s m args below meth c H locs 0 0 Q (F0 m pc ls [.int u']) := by intro u' hu; subst hu; exact hfin0
  clear hfin0
  obtain ⟨hx, hb, hr, hlk, hml, hown, hts, hK⟩ := id h0
  have hl : lv_has ls 3 [(0, .ref (a 0)), (1, .int p1)] := hl
  have E := hF
  have J2 : ∀ (n2 : Nat) (l2 : Int32) (H : Heap) (locs : List Loc) (ls : Array Slot), FX7_firstOf_h2 p1 v_pins v_one v_other v_thought v_gone  n2 l2 = some u → va_P D vwCl (wX7 cI cZ a v_pins v_bars v_taped v_lined v_at v_fault v_name v_low v_high v_tape v_line v_imagePins v_imageBars v_imageName v_imageLow v_imageHigh v_isKept v_to v_carries v_seen v_rank v_one v_other v_thought v_gone v_tied v_part v_lack v_down v_parts v_lacks v_downs v_sort v_items v_item v_carried v_first v_second) H → va_D A (wX7 cI cZ a v_pins v_bars v_taped v_lined v_at v_fault v_name v_low v_high v_tape v_line v_imagePins v_imageBars v_imageName v_imageLow v_imageHigh v_isKept v_to v_carries v_seen v_rank v_one v_other v_thought v_gone v_tied v_part v_lack v_down v_parts v_lacks v_downs v_sort v_items v_item v_carried v_first v_second) → va_S A s.heap H locs → lv_has ls 3 [(0, .ref (a 0)), (1, .int p1), (2, .int l2)] → W p l e (uR 1 23) s m args below meth c H locs 0 0 Q (F0 m 2 ls []) := by
    intro n2
    induction n2 with
    | zero => intro l2 H locs ls E; exact none_e E
    | succ n2 ih2 =>
      intro l2 H locs ls E hP hD hS hl
      have E : FX7_firstOf_b2 p1 v_pins v_one v_other v_thought v_gone  (FX7_firstOf_h2 p1 v_pins v_one v_other v_thought v_gone  n2) l2 = some u := E
      have J32 : ∀ (l2 : Int32) (H : Heap) (locs : List Loc) (ls : Array Slot), FX7_firstOf_b32 p1 v_pins v_one v_other v_thought v_gone (FX7_firstOf_h2 p1 v_pins v_one v_other v_thought v_gone  n2) l2 = some u → va_P D vwCl (wX7 cI cZ a v_pins v_bars v_taped v_lined v_at v_fault v_name v_low v_high v_tape v_line v_imagePins v_imageBars v_imageName v_imageLow v_imageHigh v_isKept v_to v_carries v_seen v_rank v_one v_other v_thought v_gone v_tied v_part v_lack v_down v_parts v_lacks v_downs v_sort v_items v_item v_carried v_first v_second) H → va_D A (wX7 cI cZ a v_pins v_bars v_taped v_lined v_at v_fault v_name v_low v_high v_tape v_line v_imagePins v_imageBars v_imageName v_imageLow v_imageHigh v_isKept v_to v_carries v_seen v_rank v_one v_other v_thought v_gone v_tied v_part v_lack v_down v_parts v_lacks v_downs v_sort v_items v_item v_carried v_first v_second) → va_S A s.heap H locs → lv_has ls 3 [(0, .ref (a 0)), (1, .int p1), (2, .int l2)] → W p l e (uR 1 23) s m args below meth c H locs 0 0 Q (F0 m 32 ls []) := by
        intro l2 H locs ls E hP hD hS hl
        refine lv_iinc (v := (l2 + 1)) (lv' := [(2, .int (l2 + 1)), (0, .ref (a 0)), (1, .int p1)]) hx hb dX7_firstOf_32 hl (k := 2) rfl rfl (by decide) rfl (fun ls hl => ?_)
        refine lv_goto (tgt := 2) hx hb dX7_firstOf_35 (by decide) ?_
        exact ih2 _ _ _ _ E hP hD hS (lv_sub hl [1, 2, 0] rfl)
      refine lv_iload_n hx hb dX7_firstOf_2 rfl (lv_at hl 2 rfl) ?_
      refine lv_aload_n hx hb dX7_firstOf_3 rfl (lv_at hl 0 rfl) ?_
      refine gf_X7_71 h0 hP 0 rfl rfl dX7_firstOf_4 ?_
      refine lv_icmp_ge (tgt := 38) hx hb dX7_firstOf_7 (by decide) (fun c1 => ?_) (fun c1 => ?_)
      · have E := br_p E c1
        refine lv_iconst (v := (-1)) hx hb dX7_firstOf_38 (by decide) ?_
        exact hfin _ (Option.some.inj E) _ _ _ _ hP hD hS dX7_firstOf_39
      · have E := br_n E c1
        refine lv_aload_n hx hb dX7_firstOf_10 rfl (lv_at hl 0 rfl) ?_
        refine gf_X7_182 h0 hP 0 rfl rfl dX7_firstOf_11 ?_
        refine lv_iload_n hx hb dX7_firstOf_14 rfl (lv_at hl 2 rfl) ?_
        refine lv_ishr hx hb dX7_firstOf_15 ?_
        refine lv_iconst (v := 1) hx hb dX7_firstOf_16 (by decide) ?_
        refine lv_iand hx hb dX7_firstOf_17 ?_
        refine lv_if_ne (tgt := 32) hx hb dX7_firstOf_18 (by decide) (fun c2 => ?_) (fun c2 => ?_)
        · have E := br_n E c2
          exact J32 _ _ _ _ E hP hD hS (lv_sub hl [0, 1, 2] rfl)
        · have E := br_p E c2
          refine lv_aload_n hx hb dX7_firstOf_21 rfl (lv_at hl 0 rfl) ?_
          refine lv_iload_n hx hb dX7_firstOf_22 rfl (lv_at hl 2 rfl) ?_
          obtain ⟨r3, hF, E⟩ := bn_e E
          refine callVfi (wo := (wX7 cI cZ a v_pins v_bars v_taped v_lined v_at v_fault v_name v_low v_high v_tape v_line v_imagePins v_imageBars v_imageName v_imageLow v_imageHigh v_isKept v_to v_carries v_seen v_rank v_one v_other v_thought v_gone v_tied v_part v_lack v_down v_parts v_lacks v_downs v_sort v_items v_item v_carried v_first v_second)) h0 (c_X7_barsOf l D cI cZ cS a v_pins v_bars v_taped v_lined v_at v_fault v_name v_low v_high v_tape v_line v_imagePins v_imageBars v_imageName v_imageLow v_imageHigh v_isKept v_to v_carries v_seen v_rank v_one v_other v_thought v_gone v_tied v_part v_lack v_down v_parts v_lacks v_downs v_sort v_items v_item v_carried v_first v_second l2 r3 hF) (gV wq_882 wq_884 wp_45 wq_8 wq_885) hdX7_barsOf ⟨Nat.le_of_ble_eq_true rfl, Nat.le_of_ble_eq_true rfl⟩ ⟨Nat.le_refl _, Nat.le_refl _⟩ hP hD hS hA 0 7 rfl rfl rfl hl.1 rfl (Nat.le_of_ble_eq_true rfl) dX7_firstOf_23 (fun H locs hP hD hS => ?_)
          refine lv_iload_n hx hb dX7_firstOf_26 rfl (lv_at hl 1 rfl) ?_
          refine lv_icmp_ne (tgt := 32) hx hb dX7_firstOf_27 (by decide) (fun c4 => ?_) (fun c4 => ?_)
          · have E := br_n E c4
            exact J32 _ _ _ _ E hP hD hS (lv_sub hl [0, 1, 2] rfl)
          · have E := br_p E c4
            refine lv_iload_n hx hb dX7_firstOf_30 rfl (lv_at hl 2 rfl) ?_
            exact hfin _ (Option.some.inj E) _ _ _ _ hP hD hS dX7_firstOf_31
  refine lv_iconst (v := 0) hx hb dX7_firstOf_0 (by decide) ?_
  refine lv_istore_n (lv' := [(2, .int 0), (0, .ref (a 0)), (1, .int p1)]) hx hb dX7_firstOf_1 rfl hl (by decide) rfl (fun ls hl => ?_)
  exact J2 5000 _ _ _ _ E hP hD hS (lv_sub hl [1, 2, 0] rfl)
