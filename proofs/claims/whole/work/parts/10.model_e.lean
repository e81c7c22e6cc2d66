theorem hdX7_sheet : yX7_sheet.cls = RX7 ∧ yX7_sheet.cls ≠ "java/lang/invoke/MethodHandle" ∧ yX7_sheet.cls ≠ "java/lang/invoke/VarHandle" ∧ (parseMethodDescriptor yX7_sheet.desc).map (fun d => d.parameters.length) = some 3 := by decide +kernel
noncomputable def FX7_sheet_b65 (p1 p2 p3 : Int32)  (k65 : Int32 → (Nat → Int32) → (Nat → Int32) → (Nat → Int32) → Option (Int32 × (Nat → Int32) × (Nat → Int32) × (Nat → Int32))) (l4 : Int32) (v_sort v_items v_item : Nat → Int32) : Option (Int32 × (Nat → Int32) × (Nat → Int32) × (Nat → Int32)) := (if 40 ≤ l4 then (some (1, v_sort, v_items, v_item)) else (gd (vp_in ((40 * p1) + l4) 160) (k65 (l4 + 1) v_sort v_items (upd v_item ((40 * p1) + l4).toNatClampNeg 0))))
noncomputable def FX7_sheet_h65 (p1 p2 p3 : Int32)  : Nat → Int32 → (Nat → Int32) → (Nat → Int32) → (Nat → Int32) → Option (Int32 × (Nat → Int32) × (Nat → Int32) × (Nat → Int32))
  | 0 => fun _ _ _ _ => none
  | n + 1 => fun l4 v_sort v_items v_item => FX7_sheet_b65 p1 p2 p3  (FX7_sheet_h65 p1 p2 p3  n) l4 v_sort v_items v_item
noncomputable def FX7_sheet_b61 (p1 p2 p3 : Int32)  (t1 t2 : Int32) (v_sort v_items v_item : Nat → Int32) : Option (Int32 × (Nat → Int32) × (Nat → Int32) × (Nat → Int32)) := (gd (vp_in t1 4) (FX7_sheet_h65 p1 p2 p3  5000 0 v_sort (upd v_items t1.toNatClampNeg t2) v_item))
noncomputable def FX7_sheet_b40 (p1 p2 p3 : Int32)  (v_sort v_items v_item : Nat → Int32) : Option (Int32 × (Nat → Int32) × (Nat → Int32) × (Nat → Int32)) := (gd (vp_in p1 4) (if 0 ≤ p2 then (FX7_sheet_b61 p1 p2 p3  p1 p3 (upd v_sort p1.toNatClampNeg p2) v_items v_item) else (FX7_sheet_b61 p1 p2 p3  p1 0 (upd v_sort p1.toNatClampNeg p2) v_items v_item)))
noncomputable def FX7_sheet_b29 (p1 p2 p3 : Int32)  (v_sort v_items v_item : Nat → Int32) : Option (Int32 × (Nat → Int32) × (Nat → Int32) × (Nat → Int32)) := (if p2 < 0 then (FX7_sheet_b40 p1 p2 p3  v_sort v_items v_item) else (if 0 ≤ p3 then (FX7_sheet_b40 p1 p2 p3  v_sort v_items v_item) else (some ((-14), v_sort, v_items, v_item))))
noncomputable def FX7_sheet (p1 p2 p3 : Int32) (v_sort v_items v_item : Nat → Int32) : Option (Int32 × (Nat → Int32) × (Nat → Int32) × (Nat → Int32)) := ((FX7_isSheet p1).bind (fun r8 => (if r8 = 0 then (some ((-2), v_sort, v_items, v_item)) else ((FX7_isIn p2 (-1) 1).bind (fun r10 => (if r10 = 0 then (some ((-2), v_sort, v_items, v_item)) else (if p2 < 0 then (FX7_sheet_b29 p1 p2 p3  v_sort v_items v_item) else (if p3 ≤ 40 then (FX7_sheet_b29 p1 p2 p3  v_sort v_items v_item) else (some ((-2), v_sort, v_items, v_item))))))))))
set_option maxHeartbeats 4000000 in
set_option maxRecDepth 100000 in
theorem c_X7_sheet (l : Launch) (D : va_G) (cI cZ cS : ClassId) (a : Nat → Nat) (v_pins v_bars v_taped v_lined v_at v_fault : Int32) (v_name v_low v_high v_tape v_line : Nat → Int32) (v_imagePins v_imageBars : Int32) (v_imageName v_imageLow v_imageHigh : Nat → Int32) (v_isKept : Int32) (v_to v_carries : Nat → Int32) (v_seen v_rank : Int32) (v_one v_other : Nat → Int32) (v_thought v_gone : Int32) (v_tied v_part v_lack v_down : Nat → Int32) (v_parts v_lacks v_downs : Int32) (v_sort v_items v_item v_carried : Nat → Int32) (v_first v_second : Int32) (p1 p2 p3 : Int32) (u : Int32 × (Nat → Int32) × (Nat → Int32) × (Nat → Int32)) (hF : FX7_sheet p1 p2 p3 v_sort v_items v_item = some u) : MCi l D (tyL cI cZ cS) yX7_sheet cX7_sheet 5 (some .int) 2 42 [.ref (a 0), .int p1, .int p2, .int p3] (wX7 cI cZ a v_pins v_bars v_taped v_lined v_at v_fault v_name v_low v_high v_tape v_line v_imagePins v_imageBars v_imageName v_imageLow v_imageHigh v_isKept v_to v_carries v_seen v_rank v_one v_other v_thought v_gone v_tied v_part v_lack v_down v_parts v_lacks v_downs v_sort v_items v_item v_carried v_first v_second) (wX7 cI cZ a v_pins v_bars v_taped v_lined v_at v_fault v_name v_low v_high v_tape v_line v_imagePins v_imageBars v_imageName v_imageLow v_imageHigh v_isKept v_to v_carries v_seen v_rank v_one v_other v_thought v_gone v_tied v_part v_lack v_down v_parts v_lacks v_downs u.2.1 u.2.2.1 u.2.2.2 v_carried v_first v_second) u.1 := by
  refine MCi.mk (by decide) (Nat.le_of_ble_eq_true rfl) ?_
  intro p e s m args below meth c A ls Q h0 hP hD hA hS hl hfin0
  have hfin : ∀ (u' : Int32 × (Nat → Int32) × (Nat → Int32) × (Nat → Int32)), u' = u → ∀ (H : Heap) (locs : List Loc) (ls : Array Slot) (pc : Nat), va_P D vwCl (wX7 cI cZ a v_pins v_bars v_taped v_lined v_at v_fault v_name v_low v_high v_tape v_line v_imagePins v_imageBars v_imageName v_imageLow v_imageHigh v_isKept v_to v_carries v_seen v_rank v_one v_other v_thought v_gone v_tied v_part v_lack v_down v_parts v_lacks v_downs u'.2.1 u'.2.2.1 u'.2.2.2 v_carried v_first v_second) H → va_D A (wX7 cI cZ a v_pins v_bars v_taped v_lined v_at v_fault v_name v_low v_high v_tape v_line v_imagePins v_imageBars v_imageName v_imageLow v_imageHigh v_isKept v_to v_carries v_seen v_rank v_one v_other v_thought v_gone v_tied v_part v_lack v_down v_parts v_lacks v_downs u'.2.1 u'.2.2.1 u'.2.2.2 v_carried v_first v_second) → va_S A s.heap H locs → decode cX7_sheet pc = .ok (.ireturn, 1) → W p l e (uR 2 42) s m args below meth c H locs 0 0 Q (F0 m pc ls [.int u'.1]) := by intro u' hu; subst hu; exact hfin0
  clear hfin0
  obtain ⟨hx, hb, hr, hlk, hml, hown, hts, hK⟩ := id h0
  have hl : lv_has ls 5 [(0, .ref (a 0)), (1, .int p1), (2, .int p2), (3, .int p3)] := hl
  have E := hF
  have J65 : ∀ (n65 : Nat) (l4 : Int32) (v_sort v_items v_item : Nat → Int32) (H : Heap) (locs : List Loc) (ls : Array Slot), FX7_sheet_h65 p1 p2 p3  n65 l4 v_sort v_items v_item = some u → va_P D vwCl (wX7 cI cZ a v_pins v_bars v_taped v_lined v_at v_fault v_name v_low v_high v_tape v_line v_imagePins v_imageBars v_imageName v_imageLow v_imageHigh v_isKept v_to v_carries v_seen v_rank v_one v_other v_thought v_gone v_tied v_part v_lack v_down v_parts v_lacks v_downs v_sort v_items v_item v_carried v_first v_second) H → va_D A (wX7 cI cZ a v_pins v_bars v_taped v_lined v_at v_fault v_name v_low v_high v_tape v_line v_imagePins v_imageBars v_imageName v_imageLow v_imageHigh v_isKept v_to v_carries v_seen v_rank v_one v_other v_thought v_gone v_tied v_part v_lack v_down v_parts v_lacks v_downs v_sort v_items v_item v_carried v_first v_second) → va_S A s.heap H locs → lv_has ls 5 [(0, .ref (a 0)), (1, .int p1), (4, .int l4)] → W p l e (uR 2 42) s m args below meth c H locs 0 0 Q (F0 m 65 ls []) := by
    intro n65
    induction n65 with
    | zero => intro l4 v_sort v_items v_item H locs ls E; exact none_e E
    | succ n65 ih65 =>
      intro l4 v_sort v_items v_item H locs ls E hP hD hS hl
      have E : FX7_sheet_b65 p1 p2 p3  (FX7_sheet_h65 p1 p2 p3  n65) l4 v_sort v_items v_item = some u := E
      refine lv_iload hx hb dX7_sheet_65 (lv_at hl 2 rfl) ?_
      refine lv_bipush (v := 40) hx hb dX7_sheet_67 (by decide) ?_
      refine lv_icmp_ge (tgt := 91) hx hb dX7_sheet_69 (by decide) (fun c1 => ?_) (fun c1 => ?_)
      · have E := br_p E c1
        refine lv_iconst (v := 1) hx hb dX7_sheet_91 (by decide) ?_
        exact hfin _ (Option.some.inj E) _ _ _ _ hP hD hS dX7_sheet_92
      · have E := br_n E c1
        refine lv_aload_n hx hb dX7_sheet_72 rfl (lv_at hl 0 rfl) ?_
        refine gf_X7_65 h0 hP 0 rfl rfl dX7_sheet_73 ?_
        refine lv_bipush (v := 40) hx hb dX7_sheet_76 (by decide) ?_
        refine lv_iload_n hx hb dX7_sheet_78 rfl (lv_at hl 1 rfl) ?_
        refine lv_imul hx hb dX7_sheet_79 ?_
        refine lv_iload hx hb dX7_sheet_80 (lv_at hl 2 rfl) ?_
        refine lv_iadd hx hb dX7_sheet_82 ?_
        refine lv_iconst (v := 0) hx hb dX7_sheet_83 (by decide) ?_
        obtain ⟨g2, E⟩ := gd_e E
        refine asti (wo := (wX7 cI cZ a v_pins v_bars v_taped v_lined v_at v_fault v_name v_low v_high v_tape v_line v_imagePins v_imageBars v_imageName v_imageLow v_imageHigh v_isKept v_to v_carries v_seen v_rank v_one v_other v_thought v_gone v_tied v_part v_lack v_down v_parts v_lacks v_downs v_sort v_items (upd v_item ((40 * p1) + l4).toNatClampNeg 0) v_carried v_first v_second)) hx hb hK hP hD hS 19 rfl rfl g2 rfl dX7_sheet_84 (fun H locs hP hD hS => ?_)
        refine lv_iinc (v := (l4 + 1)) (lv' := [(4, .int (l4 + 1)), (0, .ref (a 0)), (1, .int p1)]) hx hb dX7_sheet_85 hl (k := 2) rfl rfl (by decide) rfl (fun ls hl => ?_)
        refine lv_goto (tgt := 65) hx hb dX7_sheet_88 (by decide) ?_
        exact ih65 _ _ _ _ _ _ _ E hP hD hS (lv_sub hl [1, 2, 0] rfl)
  have J61 : ∀ (t1 t2 : Int32) (v_sort v_items v_item : Nat → Int32) (H : Heap) (locs : List Loc) (ls : Array Slot), FX7_sheet_b61 p1 p2 p3  t1 t2 v_sort v_items v_item = some u → va_P D vwCl (wX7 cI cZ a v_pins v_bars v_taped v_lined v_at v_fault v_name v_low v_high v_tape v_line v_imagePins v_imageBars v_imageName v_imageLow v_imageHigh v_isKept v_to v_carries v_seen v_rank v_one v_other v_thought v_gone v_tied v_part v_lack v_down v_parts v_lacks v_downs v_sort v_items v_item v_carried v_first v_second) H → va_D A (wX7 cI cZ a v_pins v_bars v_taped v_lined v_at v_fault v_name v_low v_high v_tape v_line v_imagePins v_imageBars v_imageName v_imageLow v_imageHigh v_isKept v_to v_carries v_seen v_rank v_one v_other v_thought v_gone v_tied v_part v_lack v_down v_parts v_lacks v_downs v_sort v_items v_item v_carried v_first v_second) → va_S A s.heap H locs → lv_has ls 5 [(0, .ref (a 0)), (1, .int p1)] → W p l e (uR 2 42) s m args below meth c H locs 0 0 Q (F0 m 61 ls [.int t2, .int t1, .ref (a 18)]) := by
    intro t1 t2 v_sort v_items v_item H locs ls E hP hD hS hl
    obtain ⟨g3, E⟩ := gd_e E
    refine asti (wo := (wX7 cI cZ a v_pins v_bars v_taped v_lined v_at v_fault v_name v_low v_high v_tape v_line v_imagePins v_imageBars v_imageName v_imageLow v_imageHigh v_isKept v_to v_carries v_seen v_rank v_one v_other v_thought v_gone v_tied v_part v_lack v_down v_parts v_lacks v_downs v_sort (upd v_items t1.toNatClampNeg t2) v_item v_carried v_first v_second)) hx hb hK hP hD hS 18 rfl rfl g3 rfl dX7_sheet_61 (fun H locs hP hD hS => ?_)
    refine lv_iconst (v := 0) hx hb dX7_sheet_62 (by decide) ?_
    refine lv_istore (lv' := [(4, .int 0), (0, .ref (a 0)), (1, .int p1)]) hx hb dX7_sheet_63 hl (by decide) rfl (fun ls hl => ?_)
    exact J65 5000 _ _ _ _ _ _ _ E hP hD hS (lv_sub hl [1, 2, 0] rfl)
  have J40 : ∀ (v_sort v_items v_item : Nat → Int32) (H : Heap) (locs : List Loc) (ls : Array Slot), FX7_sheet_b40 p1 p2 p3  v_sort v_items v_item = some u → va_P D vwCl (wX7 cI cZ a v_pins v_bars v_taped v_lined v_at v_fault v_name v_low v_high v_tape v_line v_imagePins v_imageBars v_imageName v_imageLow v_imageHigh v_isKept v_to v_carries v_seen v_rank v_one v_other v_thought v_gone v_tied v_part v_lack v_down v_parts v_lacks v_downs v_sort v_items v_item v_carried v_first v_second) H → va_D A (wX7 cI cZ a v_pins v_bars v_taped v_lined v_at v_fault v_name v_low v_high v_tape v_line v_imagePins v_imageBars v_imageName v_imageLow v_imageHigh v_isKept v_to v_carries v_seen v_rank v_one v_other v_thought v_gone v_tied v_part v_lack v_down v_parts v_lacks v_downs v_sort v_items v_item v_carried v_first v_second) → va_S A s.heap H locs → lv_has ls 5 [(0, .ref (a 0)), (1, .int p1), (2, .int p2), (3, .int p3)] → W p l e (uR 2 42) s m args below meth c H locs 0 0 Q (F0 m 40 ls []) := by
    intro v_sort v_items v_item H locs ls E hP hD hS hl
    refine lv_aload_n hx hb dX7_sheet_40 rfl (lv_at hl 0 rfl) ?_
    refine gf_X7_59 h0 hP 0 rfl rfl dX7_sheet_41 ?_
    refine lv_iload_n hx hb dX7_sheet_44 rfl (lv_at hl 1 rfl) ?_
    refine lv_iload_n hx hb dX7_sheet_45 rfl (lv_at hl 2 rfl) ?_
    obtain ⟨g4, E⟩ := gd_e E
    refine asti (wo := (wX7 cI cZ a v_pins v_bars v_taped v_lined v_at v_fault v_name v_low v_high v_tape v_line v_imagePins v_imageBars v_imageName v_imageLow v_imageHigh v_isKept v_to v_carries v_seen v_rank v_one v_other v_thought v_gone v_tied v_part v_lack v_down v_parts v_lacks v_downs (upd v_sort p1.toNatClampNeg p2) v_items v_item v_carried v_first v_second)) hx hb hK hP hD hS 17 rfl rfl g4 rfl dX7_sheet_46 (fun H locs hP hD hS => ?_)
    refine lv_aload_n hx hb dX7_sheet_47 rfl (lv_at hl 0 rfl) ?_
    refine gf_X7_62 h0 hP 0 rfl rfl dX7_sheet_48 ?_
    refine lv_iload_n hx hb dX7_sheet_51 rfl (lv_at hl 1 rfl) ?_
    refine lv_iload_n hx hb dX7_sheet_52 rfl (lv_at hl 2 rfl) ?_
    refine lv_if_ge (tgt := 60) hx hb dX7_sheet_53 (by decide) (fun c5 => ?_) (fun c5 => ?_)
    · have E := br_p E c5
      refine lv_iload_n hx hb dX7_sheet_60 rfl (lv_at hl 3 rfl) ?_
      exact J61 _ _ _ _ _ _ _ _ E hP hD hS (lv_sub hl [0, 1] rfl)
    · have E := br_n E c5
      refine lv_iconst (v := 0) hx hb dX7_sheet_56 (by decide) ?_
      refine lv_goto (tgt := 61) hx hb dX7_sheet_57 (by decide) ?_
      exact J61 _ _ _ _ _ _ _ _ E hP hD hS (lv_sub hl [0, 1] rfl)
  have J29 : ∀ (v_sort v_items v_item : Nat → Int32) (H : Heap) (locs : List Loc) (ls : Array Slot), FX7_sheet_b29 p1 p2 p3  v_sort v_items v_item = some u → va_P D vwCl (wX7 cI cZ a v_pins v_bars v_taped v_lined v_at v_fault v_name v_low v_high v_tape v_line v_imagePins v_imageBars v_imageName v_imageLow v_imageHigh v_isKept v_to v_carries v_seen v_rank v_one v_other v_thought v_gone v_tied v_part v_lack v_down v_parts v_lacks v_downs v_sort v_items v_item v_carried v_first v_second) H → va_D A (wX7 cI cZ a v_pins v_bars v_taped v_lined v_at v_fault v_name v_low v_high v_tape v_line v_imagePins v_imageBars v_imageName v_imageLow v_imageHigh v_isKept v_to v_carries v_seen v_rank v_one v_other v_thought v_gone v_tied v_part v_lack v_down v_parts v_lacks v_downs v_sort v_items v_item v_carried v_first v_second) → va_S A s.heap H locs → lv_has ls 5 [(0, .ref (a 0)), (1, .int p1), (2, .int p2), (3, .int p3)] → W p l e (uR 2 42) s m args below meth c H locs 0 0 Q (F0 m 29 ls []) := by
    intro v_sort v_items v_item H locs ls E hP hD hS hl
    refine lv_iload_n hx hb dX7_sheet_29 rfl (lv_at hl 2 rfl) ?_
    refine lv_if_lt (tgt := 40) hx hb dX7_sheet_30 (by decide) (fun c6 => ?_) (fun c6 => ?_)
    · have E := br_p E c6
      exact J40 _ _ _ _ _ _ E hP hD hS (lv_sub hl [0, 1, 2, 3] rfl)
    · have E := br_n E c6
      refine lv_iload_n hx hb dX7_sheet_33 rfl (lv_at hl 3 rfl) ?_
      refine lv_if_ge (tgt := 40) hx hb dX7_sheet_34 (by decide) (fun c7 => ?_) (fun c7 => ?_)
      · have E := br_p E c7
        exact J40 _ _ _ _ _ _ E hP hD hS (lv_sub hl [0, 1, 2, 3] rfl)
      · have E := br_n E c7
        refine lv_bipush (v := (-14)) hx hb dX7_sheet_37 (by decide) ?_
        exact hfin _ (Option.some.inj E) _ _ _ _ hP hD hS dX7_sheet_39
  refine lv_iload_n hx hb dX7_sheet_0 rfl (lv_at hl 1 rfl) ?_
  obtain ⟨r8, hF, E⟩ := bn_e E
  refine callSi (wo := (wX7 cI cZ a v_pins v_bars v_taped v_lined v_at v_fault v_name v_low v_high v_tape v_line v_imagePins v_imageBars v_imageName v_imageLow v_imageHigh v_isKept v_to v_carries v_seen v_rank v_one v_other v_thought v_gone v_tied v_part v_lack v_down v_parts v_lacks v_downs v_sort v_items v_item v_carried v_first v_second)) h0 (c_X7_isSheet l D cI cZ cS p1 r8 hF) (gS wq_972 wq_973 wq_8 wq_974) hdX7_isSheet ⟨Nat.le_of_ble_eq_true rfl, Nat.le_of_ble_eq_true rfl⟩ ⟨Nat.le_refl _, Nat.le_refl _⟩ hP hD hS hA [] rfl rfl rfl rfl hl.1 rfl (Nat.le_of_ble_eq_true rfl) dX7_sheet_1 (fun H locs hP hD hS => ?_)
  refine lv_if_eq (tgt := 26) hx hb dX7_sheet_4 (by decide) (fun c9 => ?_) (fun c9 => ?_)
  · have E := br_p E c9
    refine lv_bipush (v := (-2)) hx hb dX7_sheet_26 (by decide) ?_
    exact hfin _ (Option.some.inj E) _ _ _ _ hP hD hS dX7_sheet_28
  · have E := br_n E c9
    refine lv_iload_n hx hb dX7_sheet_7 rfl (lv_at hl 2 rfl) ?_
    refine lv_iconst (v := (-1)) hx hb dX7_sheet_8 (by decide) ?_
    refine lv_iconst (v := 1) hx hb dX7_sheet_9 (by decide) ?_
    obtain ⟨r10, hF, E⟩ := bn_e E
    refine callSi (wo := (wX7 cI cZ a v_pins v_bars v_taped v_lined v_at v_fault v_name v_low v_high v_tape v_line v_imagePins v_imageBars v_imageName v_imageLow v_imageHigh v_isKept v_to v_carries v_seen v_rank v_one v_other v_thought v_gone v_tied v_part v_lack v_down v_parts v_lacks v_downs v_sort v_items v_item v_carried v_first v_second)) h0 (c_X7_isIn l D cI cZ cS p2 (-1) 1 r10 hF) (gS wq_734 wq_735 wq_8 wq_736) hdX7_isIn ⟨Nat.le_of_ble_eq_true rfl, Nat.le_of_ble_eq_true rfl⟩ ⟨Nat.le_refl _, Nat.le_refl _⟩ hP hD hS hA [] rfl rfl rfl rfl hl.1 rfl (Nat.le_of_ble_eq_true rfl) dX7_sheet_10 (fun H locs hP hD hS => ?_)
    refine lv_if_eq (tgt := 26) hx hb dX7_sheet_13 (by decide) (fun c11 => ?_) (fun c11 => ?_)
    · have E := br_p E c11
      refine lv_bipush (v := (-2)) hx hb dX7_sheet_26 (by decide) ?_
      exact hfin _ (Option.some.inj E) _ _ _ _ hP hD hS dX7_sheet_28
    · have E := br_n E c11
      refine lv_iload_n hx hb dX7_sheet_16 rfl (lv_at hl 2 rfl) ?_
      refine lv_if_lt (tgt := 29) hx hb dX7_sheet_17 (by decide) (fun c12 => ?_) (fun c12 => ?_)
      · have E := br_p E c12
        exact J29 _ _ _ _ _ _ E hP hD hS (lv_sub hl [0, 1, 2, 3] rfl)
      · have E := br_n E c12
        refine lv_iload_n hx hb dX7_sheet_20 rfl (lv_at hl 3 rfl) ?_
        refine lv_bipush (v := 40) hx hb dX7_sheet_21 (by decide) ?_
        refine lv_icmp_le (tgt := 29) hx hb dX7_sheet_23 (by decide) (fun c13 => ?_) (fun c13 => ?_)
        · have E := br_p E c13
          exact J29 _ _ _ _ _ _ E hP hD hS (lv_sub hl [0, 1, 2, 3] rfl)
        · have E := br_n E c13
          refine lv_bipush (v := (-2)) hx hb dX7_sheet_26 (by decide) ?_
          exact hfin _ (Option.some.inj E) _ _ _ _ hP hD hS dX7_sheet_28
theorem hdX7_put : yX7_put.cls = RX7 ∧ yX7_put.cls ≠ "java/lang/invoke/MethodHandle" ∧ yX7_put.cls ≠ "java/lang/invoke/VarHandle" ∧ (parseMethodDescriptor yX7_put.desc).map (fun d => d.parameters.length) = some 3 := by decide +kernel
noncomputable def FX7_put_b66 (p1 p2 p3 : Int32) (v_sort v_items : Nat → Int32)  (t1 t2 : Int32) (v_item : Nat → Int32) : Option (Int32 × (Nat → Int32)) := (gd (vp_in t1 160) (some (1, (upd v_item t1.toNatClampNeg t2))))
noncomputable def FX7_put (p1 p2 p3 : Int32) (v_sort v_items v_item : Nat → Int32) : Option (Int32 × (Nat → Int32)) := ((FX7_isSheet p1).bind (fun r2 => (if r2 = 0 then (some ((-2), v_item)) else (gd (vp_in p1 4) (if 0 ≤ (v_sort p1.toNatClampNeg) then (gd (vp_in p1 4) ((FX7_isIn p2 0 ((v_items p1.toNatClampNeg) - 1)).bind (fun r7 => (if r7 = 0 then (some ((-12), v_item)) else (gd (vp_in p1 4) (if (v_sort p1.toNatClampNeg) = 0 then (FX7_put_b66 p1 p2 p3 v_sort v_items  ((40 * p1) + p2) (p3.toInt8.toInt32) v_item) else (FX7_put_b66 p1 p2 p3 v_sort v_items  ((40 * p1) + p2) p3 v_item))))))) else (some ((-11), v_item)))))))
set_option maxHeartbeats 4000000 in
set_option maxRecDepth 100000 in
theorem c_X7_put (l : Launch) (D : va_G) (cI cZ cS : ClassId) (a : Nat → Nat) (v_pins v_bars v_taped v_lined v_at v_fault : Int32) (v_name v_low v_high v_tape v_line : Nat → Int32) (v_imagePins v_imageBars : Int32) (v_imageName v_imageLow v_imageHigh : Nat → Int32) (v_isKept : Int32) (v_to v_carries : Nat → Int32) (v_seen v_rank : Int32) (v_one v_other : Nat → Int32) (v_thought v_gone : Int32) (v_tied v_part v_lack v_down : Nat → Int32) (v_parts v_lacks v_downs : Int32) (v_sort v_items v_item v_carried : Nat → Int32) (v_first v_second : Int32) (p1 p2 p3 : Int32) (u : Int32 × (Nat → Int32)) (hF : FX7_put p1 p2 p3 v_sort v_items v_item = some u) : MCi l D (tyL cI cZ cS) yX7_put cX7_put 4 (some .int) 2 42 [.ref (a 0), .int p1, .int p2, .int p3] (wX7 cI cZ a v_pins v_bars v_taped v_lined v_at v_fault v_name v_low v_high v_tape v_line v_imagePins v_imageBars v_imageName v_imageLow v_imageHigh v_isKept v_to v_carries v_seen v_rank v_one v_other v_thought v_gone v_tied v_part v_lack v_down v_parts v_lacks v_downs v_sort v_items v_item v_carried v_first v_second) (wX7 cI cZ a v_pins v_bars v_taped v_lined v_at v_fault v_name v_low v_high v_tape v_line v_imagePins v_imageBars v_imageName v_imageLow v_imageHigh v_isKept v_to v_carries v_seen v_rank v_one v_other v_thought v_gone v_tied v_part v_lack v_down v_parts v_lacks v_downs v_sort v_items u.2 v_carried v_first v_second) u.1 := by
  refine MCi.mk (by decide) (Nat.le_of_ble_eq_true rfl) ?_
  intro p e s m args below meth c A ls Q h0 hP hD hA hS hl hfin0
  have hfin : ∀ (u' : Int32 × (Nat → Int32)), u' = u → ∀ (H : Heap) (locs : List Loc) (ls : Array Slot) (pc : Nat), va_P D vwCl (wX7 cI cZ a v_pins v_bars v_taped v_lined v_at v_fault v_name v_low v_high v_tape v_line v_imagePins v_imageBars v_imageName v_imageLow v_imageHigh v_isKept v_to v_carries v_seen v_rank v_one v_other v_thought v_gone v_tied v_part v_lack v_down v_parts v_lacks v_downs v_sort v_items u'.2 v_carried v_first v_second) H → va_D A (wX7 cI cZ a v_pins v_bars v_taped v_lined v_at v_fault v_name v_low v_high v_tape v_line v_imagePins v_imageBars v_imageName v_imageLow v_imageHigh v_isKept v_to v_carries v_seen v_rank v_one v_other v_thought v_gone v_tied v_part v_lack v_down v_parts v_lacks v_downs v_sort v_items u'.2 v_carried v_first v_second) → va_S A s.heap H locs → decode cX7_put pc = .ok (.ireturn, 1) → W p l e (uR 2 42) s m args below meth c H locs 0 0 Q (F0 m pc ls [.int u'.1]) := by intro u' hu; subst hu; exact hfin0
  clear hfin0
  obtain ⟨hx, hb, hr, hlk, hml, hown, hts, hK⟩ := id h0
  have hl : lv_has ls 4 [(0, .ref (a 0)), (1, .int p1), (2, .int p2), (3, .int p3)] := hl
  have E := hF
  have J66 : ∀ (t1 t2 : Int32) (v_item : Nat → Int32) (H : Heap) (locs : List Loc) (ls : Array Slot), FX7_put_b66 p1 p2 p3 v_sort v_items  t1 t2 v_item = some u → va_P D vwCl (wX7 cI cZ a v_pins v_bars v_taped v_lined v_at v_fault v_name v_low v_high v_tape v_line v_imagePins v_imageBars v_imageName v_imageLow v_imageHigh v_isKept v_to v_carries v_seen v_rank v_one v_other v_thought v_gone v_tied v_part v_lack v_down v_parts v_lacks v_downs v_sort v_items v_item v_carried v_first v_second) H → va_D A (wX7 cI cZ a v_pins v_bars v_taped v_lined v_at v_fault v_name v_low v_high v_tape v_line v_imagePins v_imageBars v_imageName v_imageLow v_imageHigh v_isKept v_to v_carries v_seen v_rank v_one v_other v_thought v_gone v_tied v_part v_lack v_down v_parts v_lacks v_downs v_sort v_items v_item v_carried v_first v_second) → va_S A s.heap H locs → lv_has ls 4 [] → W p l e (uR 2 42) s m args below meth c H locs 0 0 Q (F0 m 66 ls [.int t2, .int t1, .ref (a 19)]) := by
    intro t1 t2 v_item H locs ls E hP hD hS hl
    obtain ⟨g1, E⟩ := gd_e E
    refine asti (wo := (wX7 cI cZ a v_pins v_bars v_taped v_lined v_at v_fault v_name v_low v_high v_tape v_line v_imagePins v_imageBars v_imageName v_imageLow v_imageHigh v_isKept v_to v_carries v_seen v_rank v_one v_other v_thought v_gone v_tied v_part v_lack v_down v_parts v_lacks v_downs v_sort v_items (upd v_item t1.toNatClampNeg t2) v_carried v_first v_second)) hx hb hK hP hD hS 19 rfl rfl g1 rfl dX7_put_66 (fun H locs hP hD hS => ?_)
    refine lv_iconst (v := 1) hx hb dX7_put_67 (by decide) ?_
    exact hfin _ (Option.some.inj E) _ _ _ _ hP hD hS dX7_put_68
  refine lv_iload_n hx hb dX7_put_0 rfl (lv_at hl 1 rfl) ?_
  obtain ⟨r2, hF, E⟩ := bn_e E
  refine callSi (wo := (wX7 cI cZ a v_pins v_bars v_taped v_lined v_at v_fault v_name v_low v_high v_tape v_line v_imagePins v_imageBars v_imageName v_imageLow v_imageHigh v_isKept v_to v_carries v_seen v_rank v_one v_other v_thought v_gone v_tied v_part v_lack v_down v_parts v_lacks v_downs v_sort v_items v_item v_carried v_first v_second)) h0 (c_X7_isSheet l D cI cZ cS p1 r2 hF) (gS wq_972 wq_973 wq_8 wq_974) hdX7_isSheet ⟨Nat.le_of_ble_eq_true rfl, Nat.le_of_ble_eq_true rfl⟩ ⟨Nat.le_refl _, Nat.le_refl _⟩ hP hD hS hA [] rfl rfl rfl rfl hl.1 rfl (Nat.le_of_ble_eq_true rfl) dX7_put_1 (fun H locs hP hD hS => ?_)
  refine lv_if_ne (tgt := 10) hx hb dX7_put_4 (by decide) (fun c3 => ?_) (fun c3 => ?_)
  · have E := br_n E c3
    refine lv_aload_n hx hb dX7_put_10 rfl (lv_at hl 0 rfl) ?_
    refine gf_X7_59 h0 hP 0 rfl rfl dX7_put_11 ?_
    refine lv_iload_n hx hb dX7_put_14 rfl (lv_at hl 1 rfl) ?_
    obtain ⟨g4, E⟩ := gd_e E
    refine aldi hx hb hK hP 17 rfl rfl g4 dX7_put_15 ?_
    refine lv_if_ge (tgt := 22) hx hb dX7_put_16 (by decide) (fun c5 => ?_) (fun c5 => ?_)
    · have E := br_p E c5
      refine lv_iload_n hx hb dX7_put_22 rfl (lv_at hl 2 rfl) ?_
      refine lv_iconst (v := 0) hx hb dX7_put_23 (by decide) ?_
      refine lv_aload_n hx hb dX7_put_24 rfl (lv_at hl 0 rfl) ?_
      refine gf_X7_62 h0 hP 0 rfl rfl dX7_put_25 ?_
      refine lv_iload_n hx hb dX7_put_28 rfl (lv_at hl 1 rfl) ?_
      obtain ⟨g6, E⟩ := gd_e E
      refine aldi hx hb hK hP 18 rfl rfl g6 dX7_put_29 ?_
      refine lv_iconst (v := 1) hx hb dX7_put_30 (by decide) ?_
      refine lv_isub hx hb dX7_put_31 ?_
      obtain ⟨r7, hF, E⟩ := bn_e E
      refine callSi (wo := (wX7 cI cZ a v_pins v_bars v_taped v_lined v_at v_fault v_name v_low v_high v_tape v_line v_imagePins v_imageBars v_imageName v_imageLow v_imageHigh v_isKept v_to v_carries v_seen v_rank v_one v_other v_thought v_gone v_tied v_part v_lack v_down v_parts v_lacks v_downs v_sort v_items v_item v_carried v_first v_second)) h0 (c_X7_isIn l D cI cZ cS p2 0 ((v_items p1.toNatClampNeg) - 1) r7 hF) (gS wq_734 wq_735 wq_8 wq_736) hdX7_isIn ⟨Nat.le_of_ble_eq_true rfl, Nat.le_of_ble_eq_true rfl⟩ ⟨Nat.le_refl _, Nat.le_refl _⟩ hP hD hS hA [] rfl rfl rfl rfl hl.1 rfl (Nat.le_of_ble_eq_true rfl) dX7_put_32 (fun H locs hP hD hS => ?_)
      refine lv_if_ne (tgt := 41) hx hb dX7_put_35 (by decide) (fun c8 => ?_) (fun c8 => ?_)
      · have E := br_n E c8
        refine lv_aload_n hx hb dX7_put_41 rfl (lv_at hl 0 rfl) ?_
        refine gf_X7_65 h0 hP 0 rfl rfl dX7_put_42 ?_
        refine lv_bipush (v := 40) hx hb dX7_put_45 (by decide) ?_
        refine lv_iload_n hx hb dX7_put_47 rfl (lv_at hl 1 rfl) ?_
        refine lv_imul hx hb dX7_put_48 ?_
        refine lv_iload_n hx hb dX7_put_49 rfl (lv_at hl 2 rfl) ?_
        refine lv_iadd hx hb dX7_put_50 ?_
        refine lv_aload_n hx hb dX7_put_51 rfl (lv_at hl 0 rfl) ?_
        refine gf_X7_59 h0 hP 0 rfl rfl dX7_put_52 ?_
        refine lv_iload_n hx hb dX7_put_55 rfl (lv_at hl 1 rfl) ?_
        obtain ⟨g9, E⟩ := gd_e E
        refine aldi hx hb hK hP 17 rfl rfl g9 dX7_put_56 ?_
        refine lv_if_ne (tgt := 65) hx hb dX7_put_57 (by decide) (fun c10 => ?_) (fun c10 => ?_)
        · have E := br_n E c10
          refine lv_iload_n hx hb dX7_put_65 rfl (lv_at hl 3 rfl) ?_
          exact J66 _ _ _ _ _ _ E hP hD hS (lv_sub hl [] rfl)
        · have E := br_p E c10
          refine lv_iload_n hx hb dX7_put_60 rfl (lv_at hl 3 rfl) ?_
          refine lv_i2b (v := (p3.toInt8.toInt32)) hx hb dX7_put_61 rfl ?_
          refine lv_goto (tgt := 66) hx hb dX7_put_62 (by decide) ?_
          exact J66 _ _ _ _ _ _ E hP hD hS (lv_sub hl [] rfl)
      · have E := br_p E c8
        refine lv_bipush (v := (-12)) hx hb dX7_put_38 (by decide) ?_
        exact hfin _ (Option.some.inj E) _ _ _ _ hP hD hS dX7_put_40
    · have E := br_n E c5
      refine lv_bipush (v := (-11)) hx hb dX7_put_19 (by decide) ?_
      exact hfin _ (Option.some.inj E) _ _ _ _ hP hD hS dX7_put_21
  · have E := br_p E c3
    refine lv_bipush (v := (-2)) hx hb dX7_put_7 (by decide) ?_
    exact hfin _ (Option.some.inj E) _ _ _ _ hP hD hS dX7_put_9
theorem hdX7_copy : yX7_copy.cls = RX7 ∧ yX7_copy.cls ≠ "java/lang/invoke/MethodHandle" ∧ yX7_copy.cls ≠ "java/lang/invoke/VarHandle" ∧ (parseMethodDescriptor yX7_copy.desc).map (fun d => d.parameters.length) = some 5 := by decide +kernel
noncomputable def FX7_copy_b140 (p1 p2 p3 p4 p5 : Int32) (v_sort v_items : Nat → Int32)  (k140 : Int32 → (Nat → Int32) → (Nat → Int32) → Option (Int32 × (Nat → Int32) × (Nat → Int32))) (l6 : Int32) (v_item v_carried : Nat → Int32) : Option (Int32 × (Nat → Int32) × (Nat → Int32)) := (if p5 ≤ l6 then (some (p5, v_item, v_carried)) else (gd (vp_in l6 40) (gd (vp_in (((40 * p3) + p4) + l6) 160) (k140 (l6 + 1) (upd v_item (((40 * p3) + p4) + l6).toNatClampNeg (v_carried l6.toNatClampNeg)) v_carried))))
noncomputable def FX7_copy_h140 (p1 p2 p3 p4 p5 : Int32) (v_sort v_items : Nat → Int32)  : Nat → Int32 → (Nat → Int32) → (Nat → Int32) → Option (Int32 × (Nat → Int32) × (Nat → Int32))
  | 0 => fun _ _ _ => none
  | n + 1 => fun l6 v_item v_carried => FX7_copy_b140 p1 p2 p3 p4 p5 v_sort v_items  (FX7_copy_h140 p1 p2 p3 p4 p5 v_sort v_items  n) l6 v_item v_carried
noncomputable def FX7_copy_b103 (p1 p2 p3 p4 p5 : Int32) (v_sort v_items : Nat → Int32)  (k103 : Int32 → (Nat → Int32) → (Nat → Int32) → Option (Int32 × (Nat → Int32) × (Nat → Int32))) (l6 : Int32) (v_item v_carried : Nat → Int32) : Option (Int32 × (Nat → Int32) × (Nat → Int32)) := (if p5 ≤ l6 then (FX7_copy_h140 p1 p2 p3 p4 p5 v_sort v_items  5000 0 v_item v_carried) else (gd (vp_in (((40 * p1) + p2) + l6) 160) (gd (vp_in l6 40) (k103 (l6 + 1) v_item (upd v_carried l6.toNatClampNeg (v_item (((40 * p1) + p2) + l6).toNatClampNeg))))))
noncomputable def FX7_copy_h103 (p1 p2 p3 p4 p5 : Int32) (v_sort v_items : Nat → Int32)  : Nat → Int32 → (Nat → Int32) → (Nat → Int32) → Option (Int32 × (Nat → Int32) × (Nat → Int32))
  | 0 => fun _ _ _ => none
  | n + 1 => fun l6 v_item v_carried => FX7_copy_b103 p1 p2 p3 p4 p5 v_sort v_items  (FX7_copy_h103 p1 p2 p3 p4 p5 v_sort v_items  n) l6 v_item v_carried
noncomputable def FX7_copy (p1 p2 p3 p4 p5 : Int32) (v_sort v_items v_item v_carried : Nat → Int32) : Option (Int32 × (Nat → Int32) × (Nat → Int32)) := ((FX7_isSheet p1).bind (fun r7 => (if r7 = 0 then (some ((-2), v_item, v_carried)) else ((FX7_isSheet p3).bind (fun r9 => (if r9 = 0 then (some ((-2), v_item, v_carried)) else (gd (vp_in p1 4) (if (v_sort p1.toNatClampNeg) < 0 then (some ((-11), v_item, v_carried)) else (gd (vp_in p3 4) (if 0 ≤ (v_sort p3.toNatClampNeg) then (gd (vp_in p1 4) (gd (vp_in p3 4) (if (v_sort p1.toNatClampNeg) = (v_sort p3.toNatClampNeg) then (if p5 < 0 then (some ((-12), v_item, v_carried)) else (if p2 < 0 then (some ((-12), v_item, v_carried)) else (if p4 < 0 then (some ((-12), v_item, v_carried)) else (gd (vp_in p1 4) (if ((v_items p1.toNatClampNeg) - p5) < p2 then (some ((-12), v_item, v_carried)) else (gd (vp_in p3 4) (if p4 ≤ ((v_items p3.toNatClampNeg) - p5) then (FX7_copy_h103 p1 p2 p3 p4 p5 v_sort v_items  5000 0 v_item v_carried) else (some ((-12), v_item, v_carried))))))))) else (some ((-13), v_item, v_carried))))) else (some ((-11), v_item, v_carried))))))))))))
set_option maxHeartbeats 4000000 in
set_option maxRecDepth 100000 in
theorem c_X7_copy (l : Launch) (D : va_G) (cI cZ cS : ClassId) (a : Nat → Nat) (v_pins v_bars v_taped v_lined v_at v_fault : Int32) (v_name v_low v_high v_tape v_line : Nat → Int32) (v_imagePins v_imageBars : Int32) (v_imageName v_imageLow v_imageHigh : Nat → Int32) (v_isKept : Int32) (v_to v_carries : Nat → Int32) (v_seen v_rank : Int32) (v_one v_other : Nat → Int32) (v_thought v_gone : Int32) (v_tied v_part v_lack v_down : Nat → Int32) (v_parts v_lacks v_downs : Int32) (v_sort v_items v_item v_carried : Nat → Int32) (v_first v_second : Int32) (p1 p2 p3 p4 p5 : Int32) (u : Int32 × (Nat → Int32) × (Nat → Int32)) (hF : FX7_copy p1 p2 p3 p4 p5 v_sort v_items v_item v_carried = some u) : MCi l D (tyL cI cZ cS) yX7_copy cX7_copy 7 (some .int) 2 42 [.ref (a 0), .int p1, .int p2, .int p3, .int p4, .int p5] (wX7 cI cZ a v_pins v_bars v_taped v_lined v_at v_fault v_name v_low v_high v_tape v_line v_imagePins v_imageBars v_imageName v_imageLow v_imageHigh v_isKept v_to v_carries v_seen v_rank v_one v_other v_thought v_gone v_tied v_part v_lack v_down v_parts v_lacks v_downs v_sort v_items v_item v_carried v_first v_second) (wX7 cI cZ a v_pins v_bars v_taped v_lined v_at v_fault v_name v_low v_high v_tape v_line v_imagePins v_imageBars v_imageName v_imageLow v_imageHigh v_isKept v_to v_carries v_seen v_rank v_one v_other v_thought v_gone v_tied v_part v_lack v_down v_parts v_lacks v_downs v_sort v_items u.2.1 u.2.2 v_first v_second) u.1 := by
  refine MCi.mk (by decide) (Nat.le_of_ble_eq_true rfl) ?_
  intro p e s m args below meth c A ls Q h0 hP hD hA hS hl hfin0
  have hfin : ∀ (u' : Int32 × (Nat → Int32) × (Nat → Int32)), u' = u → ∀ (H : Heap) (locs : List Loc) (ls : Array Slot) (pc : Nat), va_P D vwCl (wX7 cI cZ a v_pins v_bars v_taped v_lined v_at v_fault v_name v_low v_high v_tape v_line v_imagePins v_imageBars v_imageName v_imageLow v_imageHigh v_isKept v_to v_carries v_seen v_rank v_one v_other v_thought v_gone v_tied v_part v_lack v_down v_parts v_lacks v_downs v_sort v_items u'.2.1 u'.2.2 v_first v_second) H → va_D A (wX7 cI cZ a v_pins v_bars v_taped v_lined v_at v_fault v_name v_low v_high v_tape v_line v_imagePins v_imageBars v_imageName v_imageLow v_imageHigh v_isKept v_to v_carries v_seen v_rank v_one v_other v_thought v_gone v_tied v_part v_lack v_down v_parts v_lacks v_downs v_sort v_items u'.2.1 u'.2.2 v_first v_second) → va_S A s.heap H locs → decode cX7_copy pc = .ok (.ireturn, 1) → W p l e (uR 2 42) s m args below meth c H locs 0 0 Q (F0 m pc ls [.int u'.1]) := by intro u' hu; subst hu; exact hfin0
  clear hfin0
  obtain ⟨hx, hb, hr, hlk, hml, hown, hts, hK⟩ := id h0
  have hl : lv_has ls 7 [(0, .ref (a 0)), (1, .int p1), (2, .int p2), (3, .int p3), (4, .int p4), (5, .int p5)] := hl
  have E := hF
  have J140 : ∀ (n140 : Nat) (l6 : Int32) (v_item v_carried : Nat → Int32) (H : Heap) (locs : List Loc) (ls : Array Slot), FX7_copy_h140 p1 p2 p3 p4 p5 v_sort v_items  n140 l6 v_item v_carried = some u → va_P D vwCl (wX7 cI cZ a v_pins v_bars v_taped v_lined v_at v_fault v_name v_low v_high v_tape v_line v_imagePins v_imageBars v_imageName v_imageLow v_imageHigh v_isKept v_to v_carries v_seen v_rank v_one v_other v_thought v_gone v_tied v_part v_lack v_down v_parts v_lacks v_downs v_sort v_items v_item v_carried v_first v_second) H → va_D A (wX7 cI cZ a v_pins v_bars v_taped v_lined v_at v_fault v_name v_low v_high v_tape v_line v_imagePins v_imageBars v_imageName v_imageLow v_imageHigh v_isKept v_to v_carries v_seen v_rank v_one v_other v_thought v_gone v_tied v_part v_lack v_down v_parts v_lacks v_downs v_sort v_items v_item v_carried v_first v_second) → va_S A s.heap H locs → lv_has ls 7 [(0, .ref (a 0)), (3, .int p3), (4, .int p4), (5, .int p5), (6, .int l6)] → W p l e (uR 2 42) s m args below meth c H locs 0 0 Q (F0 m 140 ls []) := by
    intro n140
    induction n140 with
    | zero => intro l6 v_item v_carried H locs ls E; exact none_e E
    | succ n140 ih140 =>
      intro l6 v_item v_carried H locs ls E hP hD hS hl
      have E : FX7_copy_b140 p1 p2 p3 p4 p5 v_sort v_items  (FX7_copy_h140 p1 p2 p3 p4 p5 v_sort v_items  n140) l6 v_item v_carried = some u := E
      refine lv_iload hx hb dX7_copy_140 (lv_at hl 4 rfl) ?_
      refine lv_iload hx hb dX7_copy_142 (lv_at hl 3 rfl) ?_
      refine lv_icmp_ge (tgt := 175) hx hb dX7_copy_144 (by decide) (fun c1 => ?_) (fun c1 => ?_)
      · have E := br_p E c1
        refine lv_iload hx hb dX7_copy_175 (lv_at hl 3 rfl) ?_
        exact hfin _ (Option.some.inj E) _ _ _ _ hP hD hS dX7_copy_177
      · have E := br_n E c1
        refine lv_aload_n hx hb dX7_copy_147 rfl (lv_at hl 0 rfl) ?_
        refine gf_X7_65 h0 hP 0 rfl rfl dX7_copy_148 ?_
        refine lv_bipush (v := 40) hx hb dX7_copy_151 (by decide) ?_
        refine lv_iload_n hx hb dX7_copy_153 rfl (lv_at hl 1 rfl) ?_
        refine lv_imul hx hb dX7_copy_154 ?_
        refine lv_iload hx hb dX7_copy_155 (lv_at hl 2 rfl) ?_
        refine lv_iadd hx hb dX7_copy_157 ?_
        refine lv_iload hx hb dX7_copy_158 (lv_at hl 4 rfl) ?_
        refine lv_iadd hx hb dX7_copy_160 ?_
        refine lv_aload_n hx hb dX7_copy_161 rfl (lv_at hl 0 rfl) ?_
        refine gf_X7_68 h0 hP 0 rfl rfl dX7_copy_162 ?_
        refine lv_iload hx hb dX7_copy_165 (lv_at hl 4 rfl) ?_
        obtain ⟨g2, E⟩ := gd_e E
        refine aldi hx hb hK hP 20 rfl rfl g2 dX7_copy_167 ?_
        obtain ⟨g3, E⟩ := gd_e E
        refine asti (wo := (wX7 cI cZ a v_pins v_bars v_taped v_lined v_at v_fault v_name v_low v_high v_tape v_line v_imagePins v_imageBars v_imageName v_imageLow v_imageHigh v_isKept v_to v_carries v_seen v_rank v_one v_other v_thought v_gone v_tied v_part v_lack v_down v_parts v_lacks v_downs v_sort v_items (upd v_item (((40 * p3) + p4) + l6).toNatClampNeg (v_carried l6.toNatClampNeg)) v_carried v_first v_second)) hx hb hK hP hD hS 19 rfl rfl g3 rfl dX7_copy_168 (fun H locs hP hD hS => ?_)
        refine lv_iinc (v := (l6 + 1)) (lv' := [(6, .int (l6 + 1)), (0, .ref (a 0)), (3, .int p3), (4, .int p4), (5, .int p5)]) hx hb dX7_copy_169 hl (k := 4) rfl rfl (by decide) rfl (fun ls hl => ?_)
        refine lv_goto (tgt := 140) hx hb dX7_copy_172 (by decide) ?_
        exact ih140 _ _ _ _ _ _ E hP hD hS (lv_sub hl [1, 2, 3, 4, 0] rfl)
  have J103 : ∀ (n103 : Nat) (l6 : Int32) (v_item v_carried : Nat → Int32) (H : Heap) (locs : List Loc) (ls : Array Slot), FX7_copy_h103 p1 p2 p3 p4 p5 v_sort v_items  n103 l6 v_item v_carried = some u → va_P D vwCl (wX7 cI cZ a v_pins v_bars v_taped v_lined v_at v_fault v_name v_low v_high v_tape v_line v_imagePins v_imageBars v_imageName v_imageLow v_imageHigh v_isKept v_to v_carries v_seen v_rank v_one v_other v_thought v_gone v_tied v_part v_lack v_down v_parts v_lacks v_downs v_sort v_items v_item v_carried v_first v_second) H → va_D A (wX7 cI cZ a v_pins v_bars v_taped v_lined v_at v_fault v_name v_low v_high v_tape v_line v_imagePins v_imageBars v_imageName v_imageLow v_imageHigh v_isKept v_to v_carries v_seen v_rank v_one v_other v_thought v_gone v_tied v_part v_lack v_down v_parts v_lacks v_downs v_sort v_items v_item v_carried v_first v_second) → va_S A s.heap H locs → lv_has ls 7 [(0, .ref (a 0)), (1, .int p1), (2, .int p2), (3, .int p3), (4, .int p4), (5, .int p5), (6, .int l6)] → W p l e (uR 2 42) s m args below meth c H locs 0 0 Q (F0 m 103 ls []) := by
    intro n103
    induction n103 with
    | zero => intro l6 v_item v_carried H locs ls E; exact none_e E
    | succ n103 ih103 =>
      intro l6 v_item v_carried H locs ls E hP hD hS hl
      have E : FX7_copy_b103 p1 p2 p3 p4 p5 v_sort v_items  (FX7_copy_h103 p1 p2 p3 p4 p5 v_sort v_items  n103) l6 v_item v_carried = some u := E
      refine lv_iload hx hb dX7_copy_103 (lv_at hl 6 rfl) ?_
      refine lv_iload hx hb dX7_copy_105 (lv_at hl 5 rfl) ?_
      refine lv_icmp_ge (tgt := 137) hx hb dX7_copy_107 (by decide) (fun c4 => ?_) (fun c4 => ?_)
      · have E := br_p E c4
        refine lv_iconst (v := 0) hx hb dX7_copy_137 (by decide) ?_
        refine lv_istore (lv' := [(6, .int 0), (0, .ref (a 0)), (1, .int p1), (2, .int p2), (3, .int p3), (4, .int p4), (5, .int p5)]) hx hb dX7_copy_138 hl (by decide) rfl (fun ls hl => ?_)
        exact J140 5000 _ _ _ _ _ _ E hP hD hS (lv_sub hl [1, 4, 5, 6, 0] rfl)
      · have E := br_n E c4
        refine lv_aload_n hx hb dX7_copy_110 rfl (lv_at hl 0 rfl) ?_
        refine gf_X7_68 h0 hP 0 rfl rfl dX7_copy_111 ?_
        refine lv_iload hx hb dX7_copy_114 (lv_at hl 6 rfl) ?_
        refine lv_aload_n hx hb dX7_copy_116 rfl (lv_at hl 0 rfl) ?_
        refine gf_X7_65 h0 hP 0 rfl rfl dX7_copy_117 ?_
        refine lv_bipush (v := 40) hx hb dX7_copy_120 (by decide) ?_
        refine lv_iload_n hx hb dX7_copy_122 rfl (lv_at hl 1 rfl) ?_
        refine lv_imul hx hb dX7_copy_123 ?_
        refine lv_iload_n hx hb dX7_copy_124 rfl (lv_at hl 2 rfl) ?_
        refine lv_iadd hx hb dX7_copy_125 ?_
        refine lv_iload hx hb dX7_copy_126 (lv_at hl 6 rfl) ?_
        refine lv_iadd hx hb dX7_copy_128 ?_
        obtain ⟨g5, E⟩ := gd_e E
        refine aldi hx hb hK hP 19 rfl rfl g5 dX7_copy_129 ?_
        obtain ⟨g6, E⟩ := gd_e E
        refine asti (wo := (wX7 cI cZ a v_pins v_bars v_taped v_lined v_at v_fault v_name v_low v_high v_tape v_line v_imagePins v_imageBars v_imageName v_imageLow v_imageHigh v_isKept v_to v_carries v_seen v_rank v_one v_other v_thought v_gone v_tied v_part v_lack v_down v_parts v_lacks v_downs v_sort v_items v_item (upd v_carried l6.toNatClampNeg (v_item (((40 * p1) + p2) + l6).toNatClampNeg)) v_first v_second)) hx hb hK hP hD hS 20 rfl rfl g6 rfl dX7_copy_130 (fun H locs hP hD hS => ?_)
        refine lv_iinc (v := (l6 + 1)) (lv' := [(6, .int (l6 + 1)), (0, .ref (a 0)), (1, .int p1), (2, .int p2), (3, .int p3), (4, .int p4), (5, .int p5)]) hx hb dX7_copy_131 hl (k := 6) rfl rfl (by decide) rfl (fun ls hl => ?_)
        refine lv_goto (tgt := 103) hx hb dX7_copy_134 (by decide) ?_
        exact ih103 _ _ _ _ _ _ E hP hD hS (lv_sub hl [1, 2, 3, 4, 5, 6, 0] rfl)
  refine lv_iload_n hx hb dX7_copy_0 rfl (lv_at hl 1 rfl) ?_
  obtain ⟨r7, hF, E⟩ := bn_e E
  refine callSi (wo := (wX7 cI cZ a v_pins v_bars v_taped v_lined v_at v_fault v_name v_low v_high v_tape v_line v_imagePins v_imageBars v_imageName v_imageLow v_imageHigh v_isKept v_to v_carries v_seen v_rank v_one v_other v_thought v_gone v_tied v_part v_lack v_down v_parts v_lacks v_downs v_sort v_items v_item v_carried v_first v_second)) h0 (c_X7_isSheet l D cI cZ cS p1 r7 hF) (gS wq_972 wq_973 wq_8 wq_974) hdX7_isSheet ⟨Nat.le_of_ble_eq_true rfl, Nat.le_of_ble_eq_true rfl⟩ ⟨Nat.le_refl _, Nat.le_refl _⟩ hP hD hS hA [] rfl rfl rfl rfl hl.1 rfl (Nat.le_of_ble_eq_true rfl) dX7_copy_1 (fun H locs hP hD hS => ?_)
  refine lv_if_eq (tgt := 14) hx hb dX7_copy_4 (by decide) (fun c8 => ?_) (fun c8 => ?_)
  · have E := br_p E c8
    refine lv_bipush (v := (-2)) hx hb dX7_copy_14 (by decide) ?_
    exact hfin _ (Option.some.inj E) _ _ _ _ hP hD hS dX7_copy_16
  · have E := br_n E c8
    refine lv_iload_n hx hb dX7_copy_7 rfl (lv_at hl 3 rfl) ?_
    obtain ⟨r9, hF, E⟩ := bn_e E
    refine callSi (wo := (wX7 cI cZ a v_pins v_bars v_taped v_lined v_at v_fault v_name v_low v_high v_tape v_line v_imagePins v_imageBars v_imageName v_imageLow v_imageHigh v_isKept v_to v_carries v_seen v_rank v_one v_other v_thought v_gone v_tied v_part v_lack v_down v_parts v_lacks v_downs v_sort v_items v_item v_carried v_first v_second)) h0 (c_X7_isSheet l D cI cZ cS p3 r9 hF) (gS wq_972 wq_973 wq_8 wq_974) hdX7_isSheet ⟨Nat.le_of_ble_eq_true rfl, Nat.le_of_ble_eq_true rfl⟩ ⟨Nat.le_refl _, Nat.le_refl _⟩ hP hD hS hA [] rfl rfl rfl rfl hl.1 rfl (Nat.le_of_ble_eq_true rfl) dX7_copy_8 (fun H locs hP hD hS => ?_)
    refine lv_if_ne (tgt := 17) hx hb dX7_copy_11 (by decide) (fun c10 => ?_) (fun c10 => ?_)
    · have E := br_n E c10
      refine lv_aload_n hx hb dX7_copy_17 rfl (lv_at hl 0 rfl) ?_
      refine gf_X7_59 h0 hP 0 rfl rfl dX7_copy_18 ?_
      refine lv_iload_n hx hb dX7_copy_21 rfl (lv_at hl 1 rfl) ?_
      obtain ⟨g11, E⟩ := gd_e E
      refine aldi hx hb hK hP 17 rfl rfl g11 dX7_copy_22 ?_
      refine lv_if_lt (tgt := 35) hx hb dX7_copy_23 (by decide) (fun c12 => ?_) (fun c12 => ?_)
      · have E := br_p E c12
        refine lv_bipush (v := (-11)) hx hb dX7_copy_35 (by decide) ?_
        exact hfin _ (Option.some.inj E) _ _ _ _ hP hD hS dX7_copy_37
      · have E := br_n E c12
        refine lv_aload_n hx hb dX7_copy_26 rfl (lv_at hl 0 rfl) ?_
        refine gf_X7_59 h0 hP 0 rfl rfl dX7_copy_27 ?_
        refine lv_iload_n hx hb dX7_copy_30 rfl (lv_at hl 3 rfl) ?_
        obtain ⟨g13, E⟩ := gd_e E
        refine aldi hx hb hK hP 17 rfl rfl g13 dX7_copy_31 ?_
        refine lv_if_ge (tgt := 38) hx hb dX7_copy_32 (by decide) (fun c14 => ?_) (fun c14 => ?_)
        · have E := br_p E c14
          refine lv_aload_n hx hb dX7_copy_38 rfl (lv_at hl 0 rfl) ?_
          refine gf_X7_59 h0 hP 0 rfl rfl dX7_copy_39 ?_
          refine lv_iload_n hx hb dX7_copy_42 rfl (lv_at hl 1 rfl) ?_
          obtain ⟨g15, E⟩ := gd_e E
          refine aldi hx hb hK hP 17 rfl rfl g15 dX7_copy_43 ?_
          refine lv_aload_n hx hb dX7_copy_44 rfl (lv_at hl 0 rfl) ?_
          refine gf_X7_59 h0 hP 0 rfl rfl dX7_copy_45 ?_
          refine lv_iload_n hx hb dX7_copy_48 rfl (lv_at hl 3 rfl) ?_
          obtain ⟨g16, E⟩ := gd_e E
          refine aldi hx hb hK hP 17 rfl rfl g16 dX7_copy_49 ?_
          refine lv_icmp_eq (tgt := 56) hx hb dX7_copy_50 (by decide) (fun c17 => ?_) (fun c17 => ?_)
          · have E := br_p E c17
            refine lv_iload hx hb dX7_copy_56 (lv_at hl 5 rfl) ?_
            refine lv_if_lt (tgt := 97) hx hb dX7_copy_58 (by decide) (fun c18 => ?_) (fun c18 => ?_)
            · have E := br_p E c18
              refine lv_bipush (v := (-12)) hx hb dX7_copy_97 (by decide) ?_
              exact hfin _ (Option.some.inj E) _ _ _ _ hP hD hS dX7_copy_99
            · have E := br_n E c18
              refine lv_iload_n hx hb dX7_copy_61 rfl (lv_at hl 2 rfl) ?_
              refine lv_if_lt (tgt := 97) hx hb dX7_copy_62 (by decide) (fun c19 => ?_) (fun c19 => ?_)
              · have E := br_p E c19
                refine lv_bipush (v := (-12)) hx hb dX7_copy_97 (by decide) ?_
                exact hfin _ (Option.some.inj E) _ _ _ _ hP hD hS dX7_copy_99
              · have E := br_n E c19
                refine lv_iload hx hb dX7_copy_65 (lv_at hl 4 rfl) ?_
                refine lv_if_lt (tgt := 97) hx hb dX7_copy_67 (by decide) (fun c20 => ?_) (fun c20 => ?_)
                · have E := br_p E c20
                  refine lv_bipush (v := (-12)) hx hb dX7_copy_97 (by decide) ?_
                  exact hfin _ (Option.some.inj E) _ _ _ _ hP hD hS dX7_copy_99
                · have E := br_n E c20
                  refine lv_iload_n hx hb dX7_copy_70 rfl (lv_at hl 2 rfl) ?_
                  refine lv_aload_n hx hb dX7_copy_71 rfl (lv_at hl 0 rfl) ?_
                  refine gf_X7_62 h0 hP 0 rfl rfl dX7_copy_72 ?_
                  refine lv_iload_n hx hb dX7_copy_75 rfl (lv_at hl 1 rfl) ?_
                  obtain ⟨g21, E⟩ := gd_e E
                  refine aldi hx hb hK hP 18 rfl rfl g21 dX7_copy_76 ?_
                  refine lv_iload hx hb dX7_copy_77 (lv_at hl 5 rfl) ?_
                  refine lv_isub hx hb dX7_copy_79 ?_
                  refine lv_icmp_gt (tgt := 97) hx hb dX7_copy_80 (by decide) (fun c22 => ?_) (fun c22 => ?_)
                  · have E := br_p E c22
                    refine lv_bipush (v := (-12)) hx hb dX7_copy_97 (by decide) ?_
                    exact hfin _ (Option.some.inj E) _ _ _ _ hP hD hS dX7_copy_99
                  · have E := br_n E c22
                    refine lv_iload hx hb dX7_copy_83 (lv_at hl 4 rfl) ?_
                    refine lv_aload_n hx hb dX7_copy_85 rfl (lv_at hl 0 rfl) ?_
                    refine gf_X7_62 h0 hP 0 rfl rfl dX7_copy_86 ?_
                    refine lv_iload_n hx hb dX7_copy_89 rfl (lv_at hl 3 rfl) ?_
                    obtain ⟨g23, E⟩ := gd_e E
                    refine aldi hx hb hK hP 18 rfl rfl g23 dX7_copy_90 ?_
                    refine lv_iload hx hb dX7_copy_91 (lv_at hl 5 rfl) ?_
                    refine lv_isub hx hb dX7_copy_93 ?_
                    refine lv_icmp_le (tgt := 100) hx hb dX7_copy_94 (by decide) (fun c24 => ?_) (fun c24 => ?_)
                    · have E := br_p E c24
                      refine lv_iconst (v := 0) hx hb dX7_copy_100 (by decide) ?_
                      refine lv_istore (lv' := [(6, .int 0), (0, .ref (a 0)), (1, .int p1), (2, .int p2), (3, .int p3), (4, .int p4), (5, .int p5)]) hx hb dX7_copy_101 hl (by decide) rfl (fun ls hl => ?_)
                      exact J103 5000 _ _ _ _ _ _ E hP hD hS (lv_sub hl [1, 2, 3, 4, 5, 6, 0] rfl)
                    · have E := br_n E c24
                      refine lv_bipush (v := (-12)) hx hb dX7_copy_97 (by decide) ?_
                      exact hfin _ (Option.some.inj E) _ _ _ _ hP hD hS dX7_copy_99
          · have E := br_n E c17
            refine lv_bipush (v := (-13)) hx hb dX7_copy_53 (by decide) ?_
            exact hfin _ (Option.some.inj E) _ _ _ _ hP hD hS dX7_copy_55
        · have E := br_n E c14
          refine lv_bipush (v := (-11)) hx hb dX7_copy_35 (by decide) ?_
          exact hfin _ (Option.some.inj E) _ _ _ _ hP hD hS dX7_copy_37
    · have E := br_p E c10
      refine lv_bipush (v := (-2)) hx hb dX7_copy_14 (by decide) ?_
      exact hfin _ (Option.some.inj E) _ _ _ _ hP hD hS dX7_copy_16
theorem hdX7_load : yX7_load.cls = RX7 ∧ yX7_load.cls ≠ "java/lang/invoke/MethodHandle" ∧ yX7_load.cls ≠ "java/lang/invoke/VarHandle" ∧ (parseMethodDescriptor yX7_load.desc).map (fun d => d.parameters.length) = some 4 := by decide +kernel
noncomputable def FX7_load_b144 (p1 p2 p3 p4 v_pins : Int32) (v_sort v_items v_item : Nat → Int32) (k70 : Int32 → Int32 → Int32 → (Nat → Int32) → (Nat → Int32) → Option (Int32 × Int32 × (Nat → Int32) × (Nat → Int32))) (l6 t0 t1 v_bars : Int32) (v_low v_high : Nat → Int32) : Option (Int32 × Int32 × (Nat → Int32) × (Nat → Int32)) := (k70 (t0 + t1) (l6 + 1) v_bars v_low v_high)
noncomputable def FX7_load_b70 (p1 p2 p3 p4 v_pins : Int32) (v_sort v_items v_item : Nat → Int32)  (k70 : Int32 → Int32 → Int32 → (Nat → Int32) → (Nat → Int32) → Option (Int32 × Int32 × (Nat → Int32) × (Nat → Int32))) (l5 l6 v_bars : Int32) (v_low v_high : Nat → Int32) : Option (Int32 × Int32 × (Nat → Int32) × (Nat → Int32)) := (if p4 ≤ l6 then (some (l5, v_bars, v_low, v_high)) else (if p3 < 0 then (some ((-12), v_bars, v_low, v_high)) else (gd (vp_in p1 4) (if p3 ≤ (((v_items p1.toNatClampNeg) - 2) - (2 * l6)) then (gd (vp_in (((40 * p1) + p3) + (2 * l6)) 160) (gd (vp_in ((((40 * p1) + p3) + (2 * l6)) + 1) 160) ((FX7_bar (v_item (((40 * p1) + p3) + (2 * l6)).toNatClampNeg) (v_item ((((40 * p1) + p3) + (2 * l6)) + 1).toNatClampNeg) v_pins v_bars v_low v_high).bind (fun r7 => (if r7.1 < 0 then (FX7_load_b144 p1 p2 p3 p4 v_pins v_sort v_items v_item k70 l6 l5 0 r7.2.1 r7.2.2.1 r7.2.2.2) else (FX7_load_b144 p1 p2 p3 p4 v_pins v_sort v_items v_item k70 l6 l5 1 r7.2.1 r7.2.2.1 r7.2.2.2)))))) else (some ((-12), v_bars, v_low, v_high))))))
noncomputable def FX7_load_h70 (p1 p2 p3 p4 v_pins : Int32) (v_sort v_items v_item : Nat → Int32)  : Nat → Int32 → Int32 → Int32 → (Nat → Int32) → (Nat → Int32) → Option (Int32 × Int32 × (Nat → Int32) × (Nat → Int32))
  | 0 => fun _ _ _ _ _ => none
  | n + 1 => fun l5 l6 v_bars v_low v_high => FX7_load_b70 p1 p2 p3 p4 v_pins v_sort v_items v_item  (FX7_load_h70 p1 p2 p3 p4 v_pins v_sort v_items v_item  n) l5 l6 v_bars v_low v_high
noncomputable def FX7_load_b52 (p1 p2 p3 p4 v_pins : Int32) (v_sort v_items v_item : Nat → Int32)  (v_bars : Int32) (v_low v_high : Nat → Int32) : Option (Int32 × Int32 × (Nat → Int32) × (Nat → Int32)) := (gd (vp_in p1 4) (if 0 ≤ (v_sort p1.toNatClampNeg) then (FX7_load_h70 p1 p2 p3 p4 v_pins v_sort v_items v_item  5000 0 0 v_bars v_low v_high) else (some ((-11), v_bars, v_low, v_high))))
noncomputable def FX7_load (p1 p2 p3 p4 : Int32) (v_pins v_bars : Int32) (v_low v_high v_sort v_items v_item : Nat → Int32) : Option (Int32 × Int32 × (Nat → Int32) × (Nat → Int32)) := ((FX7_isSheet p1).bind (fun r11 => (if r11 = 0 then (some ((-2), v_bars, v_low, v_high)) else ((FX7_isIn p2 0 1).bind (fun r13 => (if r13 = 0 then (some ((-2), v_bars, v_low, v_high)) else ((FX7_isIn p4 0 24).bind (fun r15 => (if r15 = 0 then (some ((-2), v_bars, v_low, v_high)) else (gd (vp_in p1 4) (if (v_sort p1.toNatClampNeg) < 0 then (FX7_load_b52 p1 p2 p3 p4 v_pins v_sort v_items v_item  v_bars v_low v_high) else (gd (vp_in p1 4) (if (v_sort p1.toNatClampNeg) = p2 then (FX7_load_b52 p1 p2 p3 p4 v_pins v_sort v_items v_item  v_bars v_low v_high) else (some ((-13), v_bars, v_low, v_high)))))))))))))))
set_option maxHeartbeats 4000000 in
set_option maxRecDepth 100000 in
theorem c_X7_load (l : Launch) (D : va_G) (cI cZ cS : ClassId) (a : Nat → Nat) (v_pins v_bars v_taped v_lined v_at v_fault : Int32) (v_name v_low v_high v_tape v_line : Nat → Int32) (v_imagePins v_imageBars : Int32) (v_imageName v_imageLow v_imageHigh : Nat → Int32) (v_isKept : Int32) (v_to v_carries : Nat → Int32) (v_seen v_rank : Int32) (v_one v_other : Nat → Int32) (v_thought v_gone : Int32) (v_tied v_part v_lack v_down : Nat → Int32) (v_parts v_lacks v_downs : Int32) (v_sort v_items v_item v_carried : Nat → Int32) (v_first v_second : Int32) (p1 p2 p3 p4 : Int32) (u : Int32 × Int32 × (Nat → Int32) × (Nat → Int32)) (hF : FX7_load p1 p2 p3 p4 v_pins v_bars v_low v_high v_sort v_items v_item = some u) : MCi l D (tyL cI cZ cS) yX7_load cX7_load 8 (some .int) 4 87 [.ref (a 0), .int p1, .int p2, .int p3, .int p4] (wX7 cI cZ a v_pins v_bars v_taped v_lined v_at v_fault v_name v_low v_high v_tape v_line v_imagePins v_imageBars v_imageName v_imageLow v_imageHigh v_isKept v_to v_carries v_seen v_rank v_one v_other v_thought v_gone v_tied v_part v_lack v_down v_parts v_lacks v_downs v_sort v_items v_item v_carried v_first v_second) (wX7 cI cZ a v_pins u.2.1 v_taped v_lined v_at v_fault v_name u.2.2.1 u.2.2.2 v_tape v_line v_imagePins v_imageBars v_imageName v_imageLow v_imageHigh v_isKept v_to v_carries v_seen v_rank v_one v_other v_thought v_gone v_tied v_part v_lack v_down v_parts v_lacks v_downs v_sort v_items v_item v_carried v_first v_second) u.1 := by
  refine MCi.mk (by decide) (Nat.le_of_ble_eq_true rfl) ?_
  intro p e s m args below meth c A ls Q h0 hP hD hA hS hl hfin0
  have hfin : ∀ (u' : Int32 × Int32 × (Nat → Int32) × (Nat → Int32)), u' = u → ∀ (H : Heap) (locs : List Loc) (ls : Array Slot) (pc : Nat), va_P D vwCl (wX7 cI cZ a v_pins u'.2.1 v_taped v_lined v_at v_fault v_name u'.2.2.1 u'.2.2.2 v_tape v_line v_imagePins v_imageBars v_imageName v_imageLow v_imageHigh v_isKept v_to v_carries v_seen v_rank v_one v_other v_thought v_gone v_tied v_part v_lack v_down v_parts v_lacks v_downs v_sort v_items v_item v_carried v_first v_second) H → va_D A (wX7 cI cZ a v_pins u'.2.1 v_taped v_lined v_at v_fault v_name u'.2.2.1 u'.2.2.2 v_tape v_line v_imagePins v_imageBars v_imageName v_imageLow v_imageHigh v_isKept v_to v_carries v_seen v_rank v_one v_other v_thought v_gone v_tied v_part v_lack v_down v_parts v_lacks v_downs v_sort v_items v_item v_carried v_first v_second) → va_S A s.heap H locs → decode cX7_load pc = .ok (.ireturn, 1) → W p l e (uR 4 87) s m args below meth c H locs 0 0 Q (F0 m pc ls [.int u'.1]) := by intro u' hu; subst hu; exact hfin0
  clear hfin0
  obtain ⟨hx, hb, hr, hlk, hml, hown, hts, hK⟩ := id h0
  have hl : lv_has ls 8 [(0, .ref (a 0)), (1, .int p1), (2, .int p2), (3, .int p3), (4, .int p4)] := hl
  have E := hF
  have J70 : ∀ (n70 : Nat) (l5 l6 v_bars : Int32) (v_low v_high : Nat → Int32) (H : Heap) (locs : List Loc) (ls : Array Slot), FX7_load_h70 p1 p2 p3 p4 v_pins v_sort v_items v_item  n70 l5 l6 v_bars v_low v_high = some u → va_P D vwCl (wX7 cI cZ a v_pins v_bars v_taped v_lined v_at v_fault v_name v_low v_high v_tape v_line v_imagePins v_imageBars v_imageName v_imageLow v_imageHigh v_isKept v_to v_carries v_seen v_rank v_one v_other v_thought v_gone v_tied v_part v_lack v_down v_parts v_lacks v_downs v_sort v_items v_item v_carried v_first v_second) H → va_D A (wX7 cI cZ a v_pins v_bars v_taped v_lined v_at v_fault v_name v_low v_high v_tape v_line v_imagePins v_imageBars v_imageName v_imageLow v_imageHigh v_isKept v_to v_carries v_seen v_rank v_one v_other v_thought v_gone v_tied v_part v_lack v_down v_parts v_lacks v_downs v_sort v_items v_item v_carried v_first v_second) → va_S A s.heap H locs → lv_has ls 8 [(0, .ref (a 0)), (1, .int p1), (3, .int p3), (4, .int p4), (5, .int l5), (6, .int l6)] → W p l e (uR 4 87) s m args below meth c H locs 0 0 Q (F0 m 70 ls []) := by
    intro n70
    induction n70 with
    | zero => intro l5 l6 v_bars v_low v_high H locs ls E; exact none_e E
    | succ n70 ih70 =>
      intro l5 l6 v_bars v_low v_high H locs ls E hP hD hS hl
      have E : FX7_load_b70 p1 p2 p3 p4 v_pins v_sort v_items v_item  (FX7_load_h70 p1 p2 p3 p4 v_pins v_sort v_items v_item  n70) l5 l6 v_bars v_low v_high = some u := E
      have J144 : ∀ (l6 t0 t1 v_bars : Int32) (v_low v_high : Nat → Int32) (H : Heap) (locs : List Loc) (ls : Array Slot), FX7_load_b144 p1 p2 p3 p4 v_pins v_sort v_items v_item (FX7_load_h70 p1 p2 p3 p4 v_pins v_sort v_items v_item  n70) l6 t0 t1 v_bars v_low v_high = some u → va_P D vwCl (wX7 cI cZ a v_pins v_bars v_taped v_lined v_at v_fault v_name v_low v_high v_tape v_line v_imagePins v_imageBars v_imageName v_imageLow v_imageHigh v_isKept v_to v_carries v_seen v_rank v_one v_other v_thought v_gone v_tied v_part v_lack v_down v_parts v_lacks v_downs v_sort v_items v_item v_carried v_first v_second) H → va_D A (wX7 cI cZ a v_pins v_bars v_taped v_lined v_at v_fault v_name v_low v_high v_tape v_line v_imagePins v_imageBars v_imageName v_imageLow v_imageHigh v_isKept v_to v_carries v_seen v_rank v_one v_other v_thought v_gone v_tied v_part v_lack v_down v_parts v_lacks v_downs v_sort v_items v_item v_carried v_first v_second) → va_S A s.heap H locs → lv_has ls 8 [(0, .ref (a 0)), (1, .int p1), (3, .int p3), (4, .int p4), (6, .int l6)] → W p l e (uR 4 87) s m args below meth c H locs 0 0 Q (F0 m 144 ls [.int t1, .int t0]) := by
        intro l6 t0 t1 v_bars v_low v_high H locs ls E hP hD hS hl
        refine lv_iadd hx hb dX7_load_144 ?_
        refine lv_istore (lv' := [(5, .int (t0 + t1)), (0, .ref (a 0)), (1, .int p1), (3, .int p3), (4, .int p4), (6, .int l6)]) hx hb dX7_load_145 hl (by decide) rfl (fun ls hl => ?_)
        refine lv_iinc (v := (l6 + 1)) (lv' := [(6, .int (l6 + 1)), (5, .int (t0 + t1)), (0, .ref (a 0)), (1, .int p1), (3, .int p3), (4, .int p4)]) hx hb dX7_load_147 hl (k := 5) rfl rfl (by decide) rfl (fun ls hl => ?_)
        refine lv_goto (tgt := 70) hx hb dX7_load_150 (by decide) ?_
        exact ih70 _ _ _ _ _ _ _ _ E hP hD hS (lv_sub hl [2, 3, 4, 5, 1, 0] rfl)
      refine lv_iload hx hb dX7_load_70 (lv_at hl 5 rfl) ?_
      refine lv_iload hx hb dX7_load_72 (lv_at hl 3 rfl) ?_
      refine lv_icmp_ge (tgt := 153) hx hb dX7_load_74 (by decide) (fun c1 => ?_) (fun c1 => ?_)
      · have E := br_p E c1
        refine lv_iload hx hb dX7_load_153 (lv_at hl 4 rfl) ?_
        exact hfin _ (Option.some.inj E) _ _ _ _ hP hD hS dX7_load_155
      · have E := br_n E c1
        refine lv_iload_n hx hb dX7_load_77 rfl (lv_at hl 2 rfl) ?_
        refine lv_if_lt (tgt := 98) hx hb dX7_load_78 (by decide) (fun c2 => ?_) (fun c2 => ?_)
        · have E := br_p E c2
          refine lv_bipush (v := (-12)) hx hb dX7_load_98 (by decide) ?_
          exact hfin _ (Option.some.inj E) _ _ _ _ hP hD hS dX7_load_100
        · have E := br_n E c2
          refine lv_iload_n hx hb dX7_load_81 rfl (lv_at hl 2 rfl) ?_
          refine lv_aload_n hx hb dX7_load_82 rfl (lv_at hl 0 rfl) ?_
          refine gf_X7_62 h0 hP 0 rfl rfl dX7_load_83 ?_
          refine lv_iload_n hx hb dX7_load_86 rfl (lv_at hl 1 rfl) ?_
          obtain ⟨g3, E⟩ := gd_e E
          refine aldi hx hb hK hP 18 rfl rfl g3 dX7_load_87 ?_
          refine lv_iconst (v := 2) hx hb dX7_load_88 (by decide) ?_
          refine lv_isub hx hb dX7_load_89 ?_
          refine lv_iconst (v := 2) hx hb dX7_load_90 (by decide) ?_
          refine lv_iload hx hb dX7_load_91 (lv_at hl 5 rfl) ?_
          refine lv_imul hx hb dX7_load_93 ?_
          refine lv_isub hx hb dX7_load_94 ?_
          refine lv_icmp_le (tgt := 101) hx hb dX7_load_95 (by decide) (fun c4 => ?_) (fun c4 => ?_)
          · have E := br_p E c4
            refine lv_bipush (v := 40) hx hb dX7_load_101 (by decide) ?_
            refine lv_iload_n hx hb dX7_load_103 rfl (lv_at hl 1 rfl) ?_
            refine lv_imul hx hb dX7_load_104 ?_
            refine lv_iload_n hx hb dX7_load_105 rfl (lv_at hl 2 rfl) ?_
            refine lv_iadd hx hb dX7_load_106 ?_
            refine lv_iconst (v := 2) hx hb dX7_load_107 (by decide) ?_
            refine lv_iload hx hb dX7_load_108 (lv_at hl 5 rfl) ?_
            refine lv_imul hx hb dX7_load_110 ?_
            refine lv_iadd hx hb dX7_load_111 ?_
            refine lv_istore (lv' := [(7, .int (((40 * p1) + p3) + (2 * l6))), (0, .ref (a 0)), (1, .int p1), (3, .int p3), (4, .int p4), (5, .int l5), (6, .int l6)]) hx hb dX7_load_112 hl (by decide) rfl (fun ls hl => ?_)
            refine lv_iload hx hb dX7_load_114 (lv_at hl 5 rfl) ?_
            refine lv_aload_n hx hb dX7_load_116 rfl (lv_at hl 1 rfl) ?_
            refine lv_aload_n hx hb dX7_load_117 rfl (lv_at hl 1 rfl) ?_
            refine gf_X7_65 h0 hP 0 rfl rfl dX7_load_118 ?_
            refine lv_iload hx hb dX7_load_121 (lv_at hl 0 rfl) ?_
            obtain ⟨g5, E⟩ := gd_e E
            refine aldi hx hb hK hP 19 rfl rfl g5 dX7_load_123 ?_
            refine lv_aload_n hx hb dX7_load_124 rfl (lv_at hl 1 rfl) ?_
            refine gf_X7_65 h0 hP 0 rfl rfl dX7_load_125 ?_
            refine lv_iload hx hb dX7_load_128 (lv_at hl 0 rfl) ?_
            refine lv_iconst (v := 1) hx hb dX7_load_130 (by decide) ?_
            refine lv_iadd hx hb dX7_load_131 ?_
            obtain ⟨g6, E⟩ := gd_e E
            refine aldi hx hb hK hP 19 rfl rfl g6 dX7_load_132 ?_
            obtain ⟨r7, hF, E⟩ := bn_e E
            refine callVfi (wo := (wX7 cI cZ a v_pins r7.2.1 v_taped v_lined v_at v_fault v_name r7.2.2.1 r7.2.2.2 v_tape v_line v_imagePins v_imageBars v_imageName v_imageLow v_imageHigh v_isKept v_to v_carries v_seen v_rank v_one v_other v_thought v_gone v_tied v_part v_lack v_down v_parts v_lacks v_downs v_sort v_items v_item v_carried v_first v_second)) h0 (c_X7_bar l D cI cZ cS a v_pins v_bars v_taped v_lined v_at v_fault v_name v_low v_high v_tape v_line v_imagePins v_imageBars v_imageName v_imageLow v_imageHigh v_isKept v_to v_carries v_seen v_rank v_one v_other v_thought v_gone v_tied v_part v_lack v_down v_parts v_lacks v_downs v_sort v_items v_item v_carried v_first v_second (v_item (((40 * p1) + p3) + (2 * l6)).toNatClampNeg) (v_item ((((40 * p1) + p3) + (2 * l6)) + 1).toNatClampNeg) r7 hF) (gV wq_962 wq_723 wq_724 wq_8 wq_725) hdX7_bar ⟨Nat.le_of_ble_eq_true rfl, Nat.le_of_ble_eq_true rfl⟩ ⟨Nat.le_refl _, Nat.le_refl _⟩ hP hD hS hA 0 7 rfl rfl rfl hl.1 rfl (Nat.le_of_ble_eq_true rfl) dX7_load_133 (fun H locs hP hD hS => ?_)
            refine lv_if_lt (tgt := 143) hx hb dX7_load_136 (by decide) (fun c8 => ?_) (fun c8 => ?_)
            · have E := br_p E c8
              refine lv_iconst (v := 0) hx hb dX7_load_143 (by decide) ?_
              exact J144 _ _ _ _ _ _ _ _ _ E hP hD hS (lv_sub hl [1, 2, 3, 4, 6] rfl)
            · have E := br_n E c8
              refine lv_iconst (v := 1) hx hb dX7_load_139 (by decide) ?_
              refine lv_goto (tgt := 144) hx hb dX7_load_140 (by decide) ?_
              exact J144 _ _ _ _ _ _ _ _ _ E hP hD hS (lv_sub hl [1, 2, 3, 4, 6] rfl)
          · have E := br_n E c4
            refine lv_bipush (v := (-12)) hx hb dX7_load_98 (by decide) ?_
            exact hfin _ (Option.some.inj E) _ _ _ _ hP hD hS dX7_load_100
  have J52 : ∀ (v_bars : Int32) (v_low v_high : Nat → Int32) (H : Heap) (locs : List Loc) (ls : Array Slot), FX7_load_b52 p1 p2 p3 p4 v_pins v_sort v_items v_item  v_bars v_low v_high = some u → va_P D vwCl (wX7 cI cZ a v_pins v_bars v_taped v_lined v_at v_fault v_name v_low v_high v_tape v_line v_imagePins v_imageBars v_imageName v_imageLow v_imageHigh v_isKept v_to v_carries v_seen v_rank v_one v_other v_thought v_gone v_tied v_part v_lack v_down v_parts v_lacks v_downs v_sort v_items v_item v_carried v_first v_second) H → va_D A (wX7 cI cZ a v_pins v_bars v_taped v_lined v_at v_fault v_name v_low v_high v_tape v_line v_imagePins v_imageBars v_imageName v_imageLow v_imageHigh v_isKept v_to v_carries v_seen v_rank v_one v_other v_thought v_gone v_tied v_part v_lack v_down v_parts v_lacks v_downs v_sort v_items v_item v_carried v_first v_second) → va_S A s.heap H locs → lv_has ls 8 [(0, .ref (a 0)), (1, .int p1), (3, .int p3), (4, .int p4)] → W p l e (uR 4 87) s m args below meth c H locs 0 0 Q (F0 m 52 ls []) := by
    intro v_bars v_low v_high H locs ls E hP hD hS hl
    refine lv_aload_n hx hb dX7_load_52 rfl (lv_at hl 0 rfl) ?_
    refine gf_X7_59 h0 hP 0 rfl rfl dX7_load_53 ?_
    refine lv_iload_n hx hb dX7_load_56 rfl (lv_at hl 1 rfl) ?_
    obtain ⟨g9, E⟩ := gd_e E
    refine aldi hx hb hK hP 17 rfl rfl g9 dX7_load_57 ?_
    refine lv_if_ge (tgt := 64) hx hb dX7_load_58 (by decide) (fun c10 => ?_) (fun c10 => ?_)
    · have E := br_p E c10
      refine lv_iconst (v := 0) hx hb dX7_load_64 (by decide) ?_
      refine lv_istore (lv' := [(5, .int 0), (0, .ref (a 0)), (1, .int p1), (3, .int p3), (4, .int p4)]) hx hb dX7_load_65 hl (by decide) rfl (fun ls hl => ?_)
      refine lv_iconst (v := 0) hx hb dX7_load_67 (by decide) ?_
      refine lv_istore (lv' := [(6, .int 0), (5, .int 0), (0, .ref (a 0)), (1, .int p1), (3, .int p3), (4, .int p4)]) hx hb dX7_load_68 hl (by decide) rfl (fun ls hl => ?_)
      exact J70 5000 _ _ _ _ _ _ _ _ E hP hD hS (lv_sub hl [2, 3, 4, 5, 1, 0] rfl)
    · have E := br_n E c10
      refine lv_bipush (v := (-11)) hx hb dX7_load_61 (by decide) ?_
      exact hfin _ (Option.some.inj E) _ _ _ _ hP hD hS dX7_load_63
  refine lv_iload_n hx hb dX7_load_0 rfl (lv_at hl 1 rfl) ?_
  obtain ⟨r11, hF, E⟩ := bn_e E
  refine callSi (wo := (wX7 cI cZ a v_pins v_bars v_taped v_lined v_at v_fault v_name v_low v_high v_tape v_line v_imagePins v_imageBars v_imageName v_imageLow v_imageHigh v_isKept v_to v_carries v_seen v_rank v_one v_other v_thought v_gone v_tied v_part v_lack v_down v_parts v_lacks v_downs v_sort v_items v_item v_carried v_first v_second)) h0 (c_X7_isSheet l D cI cZ cS p1 r11 hF) (gS wq_972 wq_973 wq_8 wq_974) hdX7_isSheet ⟨Nat.le_of_ble_eq_true rfl, Nat.le_of_ble_eq_true rfl⟩ ⟨Nat.le_refl _, Nat.le_refl _⟩ hP hD hS hA [] rfl rfl rfl rfl hl.1 rfl (Nat.le_of_ble_eq_true rfl) dX7_load_1 (fun H locs hP hD hS => ?_)
  refine lv_if_eq (tgt := 27) hx hb dX7_load_4 (by decide) (fun c12 => ?_) (fun c12 => ?_)
  · have E := br_p E c12
    refine lv_bipush (v := (-2)) hx hb dX7_load_27 (by decide) ?_
    exact hfin _ (Option.some.inj E) _ _ _ _ hP hD hS dX7_load_29
  · have E := br_n E c12
    refine lv_iload_n hx hb dX7_load_7 rfl (lv_at hl 2 rfl) ?_
    refine lv_iconst (v := 0) hx hb dX7_load_8 (by decide) ?_
    refine lv_iconst (v := 1) hx hb dX7_load_9 (by decide) ?_
    obtain ⟨r13, hF, E⟩ := bn_e E
    refine callSi (wo := (wX7 cI cZ a v_pins v_bars v_taped v_lined v_at v_fault v_name v_low v_high v_tape v_line v_imagePins v_imageBars v_imageName v_imageLow v_imageHigh v_isKept v_to v_carries v_seen v_rank v_one v_other v_thought v_gone v_tied v_part v_lack v_down v_parts v_lacks v_downs v_sort v_items v_item v_carried v_first v_second)) h0 (c_X7_isIn l D cI cZ cS p2 0 1 r13 hF) (gS wq_734 wq_735 wq_8 wq_736) hdX7_isIn ⟨Nat.le_of_ble_eq_true rfl, Nat.le_of_ble_eq_true rfl⟩ ⟨Nat.le_refl _, Nat.le_refl _⟩ hP hD hS hA [] rfl rfl rfl rfl hl.1 rfl (Nat.le_of_ble_eq_true rfl) dX7_load_10 (fun H locs hP hD hS => ?_)
    refine lv_if_eq (tgt := 27) hx hb dX7_load_13 (by decide) (fun c14 => ?_) (fun c14 => ?_)
    · have E := br_p E c14
      refine lv_bipush (v := (-2)) hx hb dX7_load_27 (by decide) ?_
      exact hfin _ (Option.some.inj E) _ _ _ _ hP hD hS dX7_load_29
    · have E := br_n E c14
      refine lv_iload hx hb dX7_load_16 (lv_at hl 4 rfl) ?_
      refine lv_iconst (v := 0) hx hb dX7_load_18 (by decide) ?_
      refine lv_bipush (v := 24) hx hb dX7_load_19 (by decide) ?_
      obtain ⟨r15, hF, E⟩ := bn_e E
      refine callSi (wo := (wX7 cI cZ a v_pins v_bars v_taped v_lined v_at v_fault v_name v_low v_high v_tape v_line v_imagePins v_imageBars v_imageName v_imageLow v_imageHigh v_isKept v_to v_carries v_seen v_rank v_one v_other v_thought v_gone v_tied v_part v_lack v_down v_parts v_lacks v_downs v_sort v_items v_item v_carried v_first v_second)) h0 (c_X7_isIn l D cI cZ cS p4 0 24 r15 hF) (gS wq_734 wq_735 wq_8 wq_736) hdX7_isIn ⟨Nat.le_of_ble_eq_true rfl, Nat.le_of_ble_eq_true rfl⟩ ⟨Nat.le_refl _, Nat.le_refl _⟩ hP hD hS hA [] rfl rfl rfl rfl hl.1 rfl (Nat.le_of_ble_eq_true rfl) dX7_load_21 (fun H locs hP hD hS => ?_)
      refine lv_if_ne (tgt := 30) hx hb dX7_load_24 (by decide) (fun c16 => ?_) (fun c16 => ?_)
      · have E := br_n E c16
        refine lv_aload_n hx hb dX7_load_30 rfl (lv_at hl 0 rfl) ?_
        refine gf_X7_59 h0 hP 0 rfl rfl dX7_load_31 ?_
        refine lv_iload_n hx hb dX7_load_34 rfl (lv_at hl 1 rfl) ?_
        obtain ⟨g17, E⟩ := gd_e E
        refine aldi hx hb hK hP 17 rfl rfl g17 dX7_load_35 ?_
        refine lv_if_lt (tgt := 52) hx hb dX7_load_36 (by decide) (fun c18 => ?_) (fun c18 => ?_)
        · have E := br_p E c18
          exact J52 _ _ _ _ _ _ E hP hD hS (lv_sub hl [0, 1, 3, 4] rfl)
        · have E := br_n E c18
          refine lv_aload_n hx hb dX7_load_39 rfl (lv_at hl 0 rfl) ?_
          refine gf_X7_59 h0 hP 0 rfl rfl dX7_load_40 ?_
          refine lv_iload_n hx hb dX7_load_43 rfl (lv_at hl 1 rfl) ?_
          obtain ⟨g19, E⟩ := gd_e E
          refine aldi hx hb hK hP 17 rfl rfl g19 dX7_load_44 ?_
          refine lv_iload_n hx hb dX7_load_45 rfl (lv_at hl 2 rfl) ?_
          refine lv_icmp_eq (tgt := 52) hx hb dX7_load_46 (by decide) (fun c20 => ?_) (fun c20 => ?_)
          · have E := br_p E c20
            exact J52 _ _ _ _ _ _ E hP hD hS (lv_sub hl [0, 1, 3, 4] rfl)
          · have E := br_n E c20
            refine lv_bipush (v := (-13)) hx hb dX7_load_49 (by decide) ?_
            exact hfin _ (Option.some.inj E) _ _ _ _ hP hD hS dX7_load_51
      · have E := br_p E c16
        refine lv_bipush (v := (-2)) hx hb dX7_load_27 (by decide) ?_
        exact hfin _ (Option.some.inj E) _ _ _ _ hP hD hS dX7_load_29
