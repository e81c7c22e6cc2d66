theorem hdX7_whose : yX7_whose.cls = RX7 ∧ yX7_whose.cls ≠ "java/lang/invoke/MethodHandle" ∧ yX7_whose.cls ≠ "java/lang/invoke/VarHandle" ∧ (parseMethodDescriptor yX7_whose.desc).map (fun d => d.parameters.length) = some 0 := by decide +kernel
noncomputable def FX7_whose_b88 (v_pins : Int32) (v_name v_tape : Nat → Int32) (v_first v_second : Int32) (k2 : Int32 → Option (Int32)) (l1 l2 : Int32) : Option (Int32) := (if l2 = 0 then (k2 (l1 + 1)) else (some l1))
noncomputable def FX7_whose_b81 (v_pins : Int32) (v_name v_tape : Nat → Int32) (v_first v_second : Int32) (k2 : Int32 → Option (Int32)) (k35 : Int32 → Int32 → Int32 → Option (Int32)) (l1 l3 t0 : Int32) : Option (Int32) := (k35 l1 t0 (l3 + 1))
noncomputable def FX7_whose_b35 (v_pins : Int32) (v_name v_tape : Nat → Int32) (v_first v_second : Int32) (k2 : Int32 → Option (Int32)) (k35 : Int32 → Int32 → Int32 → Option (Int32)) (l1 l2 l3 : Int32) : Option (Int32) := (if (v_second - v_first) ≤ l3 then (FX7_whose_b88 v_pins v_name v_tape v_first v_second k2 l1 l2) else (if l2 = 0 then (FX7_whose_b88 v_pins v_name v_tape v_first v_second k2 l1 l2) else (gd (vp_in ((4 * l1) + l3) 48) (gd (vp_in (v_first + l3) 30) (if (v_name ((4 * l1) + l3).toNatClampNeg) = (v_tape (v_first + l3).toNatClampNeg) then (FX7_whose_b81 v_pins v_name v_tape v_first v_second k2 k35 l1 l3 1) else (FX7_whose_b81 v_pins v_name v_tape v_first v_second k2 k35 l1 l3 0))))))
noncomputable def FX7_whose_h35 (v_pins : Int32) (v_name v_tape : Nat → Int32) (v_first v_second : Int32) (k2 : Int32 → Option (Int32)) : Nat → Int32 → Int32 → Int32 → Option (Int32)
  | 0 => fun _ _ _ => none
  | n + 1 => fun l1 l2 l3 => FX7_whose_b35 v_pins v_name v_tape v_first v_second k2 (FX7_whose_h35 v_pins v_name v_tape v_first v_second k2 n) l1 l2 l3
noncomputable def FX7_whose_b32 (v_pins : Int32) (v_name v_tape : Nat → Int32) (v_first v_second : Int32) (k2 : Int32 → Option (Int32)) (l1 t0 : Int32) : Option (Int32) := (FX7_whose_h35 v_pins v_name v_tape v_first v_second k2 5000 l1 t0 0)
noncomputable def FX7_whose_b2 (v_pins : Int32) (v_name v_tape : Nat → Int32) (v_first v_second : Int32)  (k2 : Int32 → Option (Int32)) (l1 : Int32) : Option (Int32) := (if v_pins ≤ l1 then (some (-1)) else ((FX7_lettersOf l1 v_name).bind (fun r8 => (if r8 = (v_second - v_first) then (FX7_whose_b32 v_pins v_name v_tape v_first v_second k2 l1 1) else (FX7_whose_b32 v_pins v_name v_tape v_first v_second k2 l1 0)))))
noncomputable def FX7_whose_h2 (v_pins : Int32) (v_name v_tape : Nat → Int32) (v_first v_second : Int32)  : Nat → Int32 → Option (Int32)
  | 0 => fun _ => none
  | n + 1 => fun l1 => FX7_whose_b2 v_pins v_name v_tape v_first v_second  (FX7_whose_h2 v_pins v_name v_tape v_first v_second  n) l1
noncomputable def FX7_whose (v_pins : Int32) (v_name v_tape : Nat → Int32) (v_first v_second : Int32) : Option (Int32) := (FX7_whose_h2 v_pins v_name v_tape v_first v_second  5000 0)
set_option maxHeartbeats 4000000 in
set_option maxRecDepth 100000 in
theorem c_X7_whose (l : Launch) (D : va_G) (cI cZ cS : ClassId) (a : Nat → Nat) (v_pins v_bars v_taped v_lined v_at v_fault : Int32) (v_name v_low v_high v_tape v_line : Nat → Int32) (v_imagePins v_imageBars : Int32) (v_imageName v_imageLow v_imageHigh : Nat → Int32) (v_isKept : Int32) (v_to v_carries : Nat → Int32) (v_seen v_rank : Int32) (v_one v_other : Nat → Int32) (v_thought v_gone : Int32) (v_tied v_part v_lack v_down : Nat → Int32) (v_parts v_lacks v_downs : Int32) (v_sort v_items v_item v_carried : Nat → Int32) (v_first v_second : Int32)  (u : Int32) (hF : FX7_whose v_pins v_name v_tape v_first v_second = some u) : MCi l D (tyL cI cZ cS) yX7_whose cX7_whose 4 (some .int) 1 22 [.ref (a 0)] (wX7 cI cZ a v_pins v_bars v_taped v_lined v_at v_fault v_name v_low v_high v_tape v_line v_imagePins v_imageBars v_imageName v_imageLow v_imageHigh v_isKept v_to v_carries v_seen v_rank v_one v_other v_thought v_gone v_tied v_part v_lack v_down v_parts v_lacks v_downs v_sort v_items v_item v_carried v_first v_second) (wX7 cI cZ a v_pins v_bars v_taped v_lined v_at v_fault v_name v_low v_high v_tape v_line v_imagePins v_imageBars v_imageName v_imageLow v_imageHigh v_isKept v_to v_carries v_seen v_rank v_one v_other v_thought v_gone v_tied v_part v_lack v_down v_parts v_lacks v_downs v_sort v_items v_item v_carried v_first v_second) u := by
  refine MCi.mk (by decide) (Nat.le_of_ble_eq_true rfl) ?_
  intro p e s m args below meth c A ls Q h0 hP hD hA hS hl hfin0
  have hfin : ∀ (u' : Int32), u' = u → ∀ (H : Heap) (locs : List Loc) (ls : Array Slot) (pc : Nat), va_P D vwCl (wX7 cI cZ a v_pins v_bars v_taped v_lined v_at v_fault v_name v_low v_high v_tape v_line v_imagePins v_imageBars v_imageName v_imageLow v_imageHigh v_isKept v_to v_carries v_seen v_rank v_one v_other v_thought v_gone v_tied v_part v_lack v_down v_parts v_lacks v_downs v_sort v_items v_item v_carried v_first v_second) H → va_D A (wX7 cI cZ a v_pins v_bars v_taped v_lined v_at v_fault v_name v_low v_high v_tape v_line v_imagePins v_imageBars v_imageName v_imageLow v_imageHigh v_isKept v_to v_carries v_seen v_rank v_one v_other v_thought v_gone v_tied v_part v_lack v_down v_parts v_lacks v_downs v_sort v_items v_item v_carried v_first v_second) → va_S A s.heap H locs → decode cX7_whose pc = .ok (.ireturn, 1) → W p l e (uR 1 22) s m args below meth c H locs 0 0 Q (F0 m pc ls [.int u']) := by intro u' hu; subst hu; exact hfin0
  clear hfin0
  obtain ⟨hx, hb, hr, hlk, hml, hown, hts, hK⟩ := id h0
  have hl : lv_has ls 4 [(0, .ref (a 0))] := hl
  have E := hF
  have J2 : ∀ (n2 : Nat) (l1 : Int32) (H : Heap) (locs : List Loc) (ls : Array Slot), FX7_whose_h2 v_pins v_name v_tape v_first v_second  n2 l1 = some u → va_P D vwCl (wX7 cI cZ a v_pins v_bars v_taped v_lined v_at v_fault v_name v_low v_high v_tape v_line v_imagePins v_imageBars v_imageName v_imageLow v_imageHigh v_isKept v_to v_carries v_seen v_rank v_one v_other v_thought v_gone v_tied v_part v_lack v_down v_parts v_lacks v_downs v_sort v_items v_item v_carried v_first v_second) H → va_D A (wX7 cI cZ a v_pins v_bars v_taped v_lined v_at v_fault v_name v_low v_high v_tape v_line v_imagePins v_imageBars v_imageName v_imageLow v_imageHigh v_isKept v_to v_carries v_seen v_rank v_one v_other v_thought v_gone v_tied v_part v_lack v_down v_parts v_lacks v_downs v_sort v_items v_item v_carried v_first v_second) → va_S A s.heap H locs → lv_has ls 4 [(0, .ref (a 0)), (1, .int l1)] → W p l e (uR 1 22) s m args below meth c H locs 0 0 Q (F0 m 2 ls []) := by
    intro n2
    induction n2 with
    | zero => intro l1 H locs ls E; exact none_e E
    | succ n2 ih2 =>
      intro l1 H locs ls E hP hD hS hl
      have E : FX7_whose_b2 v_pins v_name v_tape v_first v_second  (FX7_whose_h2 v_pins v_name v_tape v_first v_second  n2) l1 = some u := E
      have J88 : ∀ (l1 l2 : Int32) (H : Heap) (locs : List Loc) (ls : Array Slot), FX7_whose_b88 v_pins v_name v_tape v_first v_second (FX7_whose_h2 v_pins v_name v_tape v_first v_second  n2) l1 l2 = some u → va_P D vwCl (wX7 cI cZ a v_pins v_bars v_taped v_lined v_at v_fault v_name v_low v_high v_tape v_line v_imagePins v_imageBars v_imageName v_imageLow v_imageHigh v_isKept v_to v_carries v_seen v_rank v_one v_other v_thought v_gone v_tied v_part v_lack v_down v_parts v_lacks v_downs v_sort v_items v_item v_carried v_first v_second) H → va_D A (wX7 cI cZ a v_pins v_bars v_taped v_lined v_at v_fault v_name v_low v_high v_tape v_line v_imagePins v_imageBars v_imageName v_imageLow v_imageHigh v_isKept v_to v_carries v_seen v_rank v_one v_other v_thought v_gone v_tied v_part v_lack v_down v_parts v_lacks v_downs v_sort v_items v_item v_carried v_first v_second) → va_S A s.heap H locs → lv_has ls 4 [(0, .ref (a 0)), (1, .int l1), (2, .int l2)] → W p l e (uR 1 22) s m args below meth c H locs 0 0 Q (F0 m 88 ls []) := by
        intro l1 l2 H locs ls E hP hD hS hl
        refine lv_iload_n hx hb dX7_whose_88 rfl (lv_at hl 2 rfl) ?_
        refine lv_if_eq (tgt := 94) hx hb dX7_whose_89 (by decide) (fun c1 => ?_) (fun c1 => ?_)
        · have E := br_p E c1
          refine lv_iinc (v := (l1 + 1)) (lv' := [(1, .int (l1 + 1)), (0, .ref (a 0)), (2, .int l2)]) hx hb dX7_whose_94 hl (k := 1) rfl rfl (by decide) rfl (fun ls hl => ?_)
          refine lv_goto (tgt := 2) hx hb dX7_whose_97 (by decide) ?_
          exact ih2 _ _ _ _ E hP hD hS (lv_sub hl [1, 0] rfl)
        · have E := br_n E c1
          refine lv_iload_n hx hb dX7_whose_92 rfl (lv_at hl 1 rfl) ?_
          exact hfin _ (Option.some.inj E) _ _ _ _ hP hD hS dX7_whose_93
      have J35 : ∀ (n35 : Nat) (l1 l2 l3 : Int32) (H : Heap) (locs : List Loc) (ls : Array Slot), FX7_whose_h35 v_pins v_name v_tape v_first v_second (FX7_whose_h2 v_pins v_name v_tape v_first v_second  n2) n35 l1 l2 l3 = some u → va_P D vwCl (wX7 cI cZ a v_pins v_bars v_taped v_lined v_at v_fault v_name v_low v_high v_tape v_line v_imagePins v_imageBars v_imageName v_imageLow v_imageHigh v_isKept v_to v_carries v_seen v_rank v_one v_other v_thought v_gone v_tied v_part v_lack v_down v_parts v_lacks v_downs v_sort v_items v_item v_carried v_first v_second) H → va_D A (wX7 cI cZ a v_pins v_bars v_taped v_lined v_at v_fault v_name v_low v_high v_tape v_line v_imagePins v_imageBars v_imageName v_imageLow v_imageHigh v_isKept v_to v_carries v_seen v_rank v_one v_other v_thought v_gone v_tied v_part v_lack v_down v_parts v_lacks v_downs v_sort v_items v_item v_carried v_first v_second) → va_S A s.heap H locs → lv_has ls 4 [(0, .ref (a 0)), (1, .int l1), (2, .int l2), (3, .int l3)] → W p l e (uR 1 22) s m args below meth c H locs 0 0 Q (F0 m 35 ls []) := by
        intro n35
        induction n35 with
        | zero => intro l1 l2 l3 H locs ls E; exact none_e E
        | succ n35 ih35 =>
          intro l1 l2 l3 H locs ls E hP hD hS hl
          have E : FX7_whose_b35 v_pins v_name v_tape v_first v_second (FX7_whose_h2 v_pins v_name v_tape v_first v_second  n2) (FX7_whose_h35 v_pins v_name v_tape v_first v_second (FX7_whose_h2 v_pins v_name v_tape v_first v_second  n2) n35) l1 l2 l3 = some u := E
          have J81 : ∀ (l1 l3 t0 : Int32) (H : Heap) (locs : List Loc) (ls : Array Slot), FX7_whose_b81 v_pins v_name v_tape v_first v_second (FX7_whose_h2 v_pins v_name v_tape v_first v_second  n2) (FX7_whose_h35 v_pins v_name v_tape v_first v_second (FX7_whose_h2 v_pins v_name v_tape v_first v_second  n2) n35) l1 l3 t0 = some u → va_P D vwCl (wX7 cI cZ a v_pins v_bars v_taped v_lined v_at v_fault v_name v_low v_high v_tape v_line v_imagePins v_imageBars v_imageName v_imageLow v_imageHigh v_isKept v_to v_carries v_seen v_rank v_one v_other v_thought v_gone v_tied v_part v_lack v_down v_parts v_lacks v_downs v_sort v_items v_item v_carried v_first v_second) H → va_D A (wX7 cI cZ a v_pins v_bars v_taped v_lined v_at v_fault v_name v_low v_high v_tape v_line v_imagePins v_imageBars v_imageName v_imageLow v_imageHigh v_isKept v_to v_carries v_seen v_rank v_one v_other v_thought v_gone v_tied v_part v_lack v_down v_parts v_lacks v_downs v_sort v_items v_item v_carried v_first v_second) → va_S A s.heap H locs → lv_has ls 4 [(0, .ref (a 0)), (1, .int l1), (3, .int l3)] → W p l e (uR 1 22) s m args below meth c H locs 0 0 Q (F0 m 81 ls [.int t0]) := by
            intro l1 l3 t0 H locs ls E hP hD hS hl
            refine lv_istore_n (lv' := [(2, .int t0), (0, .ref (a 0)), (1, .int l1), (3, .int l3)]) hx hb dX7_whose_81 rfl hl (by decide) rfl (fun ls hl => ?_)
            refine lv_iinc (v := (l3 + 1)) (lv' := [(3, .int (l3 + 1)), (2, .int t0), (0, .ref (a 0)), (1, .int l1)]) hx hb dX7_whose_82 hl (k := 3) rfl rfl (by decide) rfl (fun ls hl => ?_)
            refine lv_goto (tgt := 35) hx hb dX7_whose_85 (by decide) ?_
            exact ih35 _ _ _ _ _ _ E hP hD hS (lv_sub hl [2, 3, 1, 0] rfl)
          refine lv_iload_n hx hb dX7_whose_35 rfl (lv_at hl 3 rfl) ?_
          refine lv_aload_n hx hb dX7_whose_36 rfl (lv_at hl 0 rfl) ?_
          refine gf_X7_231 h0 hP 0 rfl rfl dX7_whose_37 ?_
          refine lv_aload_n hx hb dX7_whose_40 rfl (lv_at hl 0 rfl) ?_
          refine gf_X7_225 h0 hP 0 rfl rfl dX7_whose_41 ?_
          refine lv_isub hx hb dX7_whose_44 ?_
          refine lv_icmp_ge (tgt := 88) hx hb dX7_whose_45 (by decide) (fun c2 => ?_) (fun c2 => ?_)
          · have E := br_p E c2
            exact J88 _ _ _ _ _ E hP hD hS (lv_sub hl [0, 1, 2] rfl)
          · have E := br_n E c2
            refine lv_iload_n hx hb dX7_whose_48 rfl (lv_at hl 2 rfl) ?_
            refine lv_if_eq (tgt := 88) hx hb dX7_whose_49 (by decide) (fun c3 => ?_) (fun c3 => ?_)
            · have E := br_p E c3
              exact J88 _ _ _ _ _ E hP hD hS (lv_sub hl [0, 1, 2] rfl)
            · have E := br_n E c3
              refine lv_aload_n hx hb dX7_whose_52 rfl (lv_at hl 0 rfl) ?_
              refine gf_X7_9 h0 hP 0 rfl rfl dX7_whose_53 ?_
              refine lv_iconst (v := 4) hx hb dX7_whose_56 (by decide) ?_
              refine lv_iload_n hx hb dX7_whose_57 rfl (lv_at hl 1 rfl) ?_
              refine lv_imul hx hb dX7_whose_58 ?_
              refine lv_iload_n hx hb dX7_whose_59 rfl (lv_at hl 3 rfl) ?_
              refine lv_iadd hx hb dX7_whose_60 ?_
              obtain ⟨g4, E⟩ := gd_e E
              refine aldi hx hb hK hP 1 rfl rfl g4 dX7_whose_61 ?_
              refine lv_aload_n hx hb dX7_whose_62 rfl (lv_at hl 0 rfl) ?_
              refine gf_X7_19 h0 hP 0 rfl rfl dX7_whose_63 ?_
              refine lv_aload_n hx hb dX7_whose_66 rfl (lv_at hl 0 rfl) ?_
              refine gf_X7_225 h0 hP 0 rfl rfl dX7_whose_67 ?_
              refine lv_iload_n hx hb dX7_whose_70 rfl (lv_at hl 3 rfl) ?_
              refine lv_iadd hx hb dX7_whose_71 ?_
              obtain ⟨g5, E⟩ := gd_e E
              refine aldi hx hb hK hP 4 rfl rfl g5 dX7_whose_72 ?_
              refine lv_icmp_ne (tgt := 80) hx hb dX7_whose_73 (by decide) (fun c6 => ?_) (fun c6 => ?_)
              · have E := br_n E c6
                refine lv_iconst (v := 0) hx hb dX7_whose_80 (by decide) ?_
                exact J81 _ _ _ _ _ _ E hP hD hS (lv_sub hl [0, 1, 3] rfl)
              · have E := br_p E c6
                refine lv_iconst (v := 1) hx hb dX7_whose_76 (by decide) ?_
                refine lv_goto (tgt := 81) hx hb dX7_whose_77 (by decide) ?_
                exact J81 _ _ _ _ _ _ E hP hD hS (lv_sub hl [0, 1, 3] rfl)
      have J32 : ∀ (l1 t0 : Int32) (H : Heap) (locs : List Loc) (ls : Array Slot), FX7_whose_b32 v_pins v_name v_tape v_first v_second (FX7_whose_h2 v_pins v_name v_tape v_first v_second  n2) l1 t0 = some u → va_P D vwCl (wX7 cI cZ a v_pins v_bars v_taped v_lined v_at v_fault v_name v_low v_high v_tape v_line v_imagePins v_imageBars v_imageName v_imageLow v_imageHigh v_isKept v_to v_carries v_seen v_rank v_one v_other v_thought v_gone v_tied v_part v_lack v_down v_parts v_lacks v_downs v_sort v_items v_item v_carried v_first v_second) H → va_D A (wX7 cI cZ a v_pins v_bars v_taped v_lined v_at v_fault v_name v_low v_high v_tape v_line v_imagePins v_imageBars v_imageName v_imageLow v_imageHigh v_isKept v_to v_carries v_seen v_rank v_one v_other v_thought v_gone v_tied v_part v_lack v_down v_parts v_lacks v_downs v_sort v_items v_item v_carried v_first v_second) → va_S A s.heap H locs → lv_has ls 4 [(0, .ref (a 0)), (1, .int l1)] → W p l e (uR 1 22) s m args below meth c H locs 0 0 Q (F0 m 32 ls [.int t0]) := by
        intro l1 t0 H locs ls E hP hD hS hl
        refine lv_istore_n (lv' := [(2, .int t0), (0, .ref (a 0)), (1, .int l1)]) hx hb dX7_whose_32 rfl hl (by decide) rfl (fun ls hl => ?_)
        refine lv_iconst (v := 0) hx hb dX7_whose_33 (by decide) ?_
        refine lv_istore_n (lv' := [(3, .int 0), (2, .int t0), (0, .ref (a 0)), (1, .int l1)]) hx hb dX7_whose_34 rfl hl (by decide) rfl (fun ls hl => ?_)
        exact J35 5000 _ _ _ _ _ _ E hP hD hS (lv_sub hl [2, 3, 1, 0] rfl)
      refine lv_iload_n hx hb dX7_whose_2 rfl (lv_at hl 1 rfl) ?_
      refine lv_aload_n hx hb dX7_whose_3 rfl (lv_at hl 0 rfl) ?_
      refine gf_X7_71 h0 hP 0 rfl rfl dX7_whose_4 ?_
      refine lv_icmp_ge (tgt := 100) hx hb dX7_whose_7 (by decide) (fun c7 => ?_) (fun c7 => ?_)
      · have E := br_p E c7
        refine lv_iconst (v := (-1)) hx hb dX7_whose_100 (by decide) ?_
        exact hfin _ (Option.some.inj E) _ _ _ _ hP hD hS dX7_whose_101
      · have E := br_n E c7
        refine lv_aload_n hx hb dX7_whose_10 rfl (lv_at hl 0 rfl) ?_
        refine lv_iload_n hx hb dX7_whose_11 rfl (lv_at hl 1 rfl) ?_
        obtain ⟨r8, hF, E⟩ := bn_e E
        refine callVfi (wo := (wX7 cI cZ a v_pins v_bars v_taped v_lined v_at v_fault v_name v_low v_high v_tape v_line v_imagePins v_imageBars v_imageName v_imageLow v_imageHigh v_isKept v_to v_carries v_seen v_rank v_one v_other v_thought v_gone v_tied v_part v_lack v_down v_parts v_lacks v_downs v_sort v_items v_item v_carried v_first v_second)) h0 (c_X7_lettersOf l D cI cZ cS a v_pins v_bars v_taped v_lined v_at v_fault v_name v_low v_high v_tape v_line v_imagePins v_imageBars v_imageName v_imageLow v_imageHigh v_isKept v_to v_carries v_seen v_rank v_one v_other v_thought v_gone v_tied v_part v_lack v_down v_parts v_lacks v_downs v_sort v_items v_item v_carried v_first v_second l1 r8 hF) (gV wq_827 wq_829 wp_38 wq_8 wq_830) hdX7_lettersOf ⟨Nat.le_of_ble_eq_true rfl, Nat.le_of_ble_eq_true rfl⟩ ⟨Nat.le_refl _, Nat.le_refl _⟩ hP hD hS hA 0 7 rfl rfl rfl hl.1 rfl (Nat.le_of_ble_eq_true rfl) dX7_whose_12 (fun H locs hP hD hS => ?_)
        refine lv_aload_n hx hb dX7_whose_15 rfl (lv_at hl 0 rfl) ?_
        refine gf_X7_231 h0 hP 0 rfl rfl dX7_whose_16 ?_
        refine lv_aload_n hx hb dX7_whose_19 rfl (lv_at hl 0 rfl) ?_
        refine gf_X7_225 h0 hP 0 rfl rfl dX7_whose_20 ?_
        refine lv_isub hx hb dX7_whose_23 ?_
        refine lv_icmp_ne (tgt := 31) hx hb dX7_whose_24 (by decide) (fun c9 => ?_) (fun c9 => ?_)
        · have E := br_n E c9
          refine lv_iconst (v := 0) hx hb dX7_whose_31 (by decide) ?_
          exact J32 _ _ _ _ _ E hP hD hS (lv_sub hl [0, 1] rfl)
        · have E := br_p E c9
          refine lv_iconst (v := 1) hx hb dX7_whose_27 (by decide) ?_
          refine lv_goto (tgt := 32) hx hb dX7_whose_28 (by decide) ?_
          exact J32 _ _ _ _ _ E hP hD hS (lv_sub hl [0, 1] rfl)
  refine lv_iconst (v := 0) hx hb dX7_whose_0 (by decide) ?_
  refine lv_istore_n (lv' := [(1, .int 0), (0, .ref (a 0))]) hx hb dX7_whose_1 rfl hl (by decide) rfl (fun ls hl => ?_)
  exact J2 5000 _ _ _ _ E hP hD hS (lv_sub hl [1, 0] rfl)
theorem hdX7_nameOf : yX7_nameOf.cls = RX7 ∧ yX7_nameOf.cls ≠ "java/lang/invoke/MethodHandle" ∧ yX7_nameOf.cls ≠ "java/lang/invoke/VarHandle" ∧ (parseMethodDescriptor yX7_nameOf.desc).map (fun d => d.parameters.length) = some 1 := by decide +kernel
noncomputable def FX7_nameOf_b36 (p1 v_pins v_taped : Int32) (v_name v_tape : Nat → Int32)  (l2 v_at v_fault v_first v_second : Int32) : Option (Int32 × Int32 × Int32 × Int32 × Int32) := ((FX7_fails v_first v_fault).bind (fun r1 => (some (l2, v_at, r1, v_first, v_second))))
noncomputable def FX7_nameOf (p1 : Int32) (v_pins v_taped v_at v_fault : Int32) (v_name v_tape : Nat → Int32) (v_first v_second : Int32) : Option (Int32 × Int32 × Int32 × Int32 × Int32) := (if v_fault < 0 then ((FX7_word v_taped v_at v_fault v_tape v_first v_second).bind (fun r3 => (if r3.2.1 < 0 then ((FX7_whose v_pins v_name v_tape r3.2.2.1 r3.2.2.2).bind (fun r5 => (if r5 < 0 then (FX7_nameOf_b36 p1 v_pins v_taped v_name v_tape  r5 r3.1 r3.2.1 r3.2.2.1 r3.2.2.2) else (if r5 = p1 then (FX7_nameOf_b36 p1 v_pins v_taped v_name v_tape  r5 r3.1 r3.2.1 r3.2.2.1 r3.2.2.2) else (some (r5, r3.1, r3.2.1, r3.2.2.1, r3.2.2.2)))))) else (some ((-1), r3.1, r3.2.1, r3.2.2.1, r3.2.2.2))))) else (some ((-1), v_at, v_fault, v_first, v_second)))
set_option maxHeartbeats 4000000 in
set_option maxRecDepth 100000 in
theorem c_X7_nameOf (l : Launch) (D : va_G) (cI cZ cS : ClassId) (a : Nat → Nat) (v_pins v_bars v_taped v_lined v_at v_fault : Int32) (v_name v_low v_high v_tape v_line : Nat → Int32) (v_imagePins v_imageBars : Int32) (v_imageName v_imageLow v_imageHigh : Nat → Int32) (v_isKept : Int32) (v_to v_carries : Nat → Int32) (v_seen v_rank : Int32) (v_one v_other : Nat → Int32) (v_thought v_gone : Int32) (v_tied v_part v_lack v_down : Nat → Int32) (v_parts v_lacks v_downs : Int32) (v_sort v_items v_item v_carried : Nat → Int32) (v_first v_second : Int32) (p1 : Int32) (u : Int32 × Int32 × Int32 × Int32 × Int32) (hF : FX7_nameOf p1 v_pins v_taped v_at v_fault v_name v_tape v_first v_second = some u) : MCi l D (tyL cI cZ cS) yX7_nameOf cX7_nameOf 3 (some .int) 3 63 [.ref (a 0), .int p1] (wX7 cI cZ a v_pins v_bars v_taped v_lined v_at v_fault v_name v_low v_high v_tape v_line v_imagePins v_imageBars v_imageName v_imageLow v_imageHigh v_isKept v_to v_carries v_seen v_rank v_one v_other v_thought v_gone v_tied v_part v_lack v_down v_parts v_lacks v_downs v_sort v_items v_item v_carried v_first v_second) (wX7 cI cZ a v_pins v_bars v_taped v_lined u.2.1 u.2.2.1 v_name v_low v_high v_tape v_line v_imagePins v_imageBars v_imageName v_imageLow v_imageHigh v_isKept v_to v_carries v_seen v_rank v_one v_other v_thought v_gone v_tied v_part v_lack v_down v_parts v_lacks v_downs v_sort v_items v_item v_carried u.2.2.2.1 u.2.2.2.2) u.1 := by
  refine MCi.mk (by decide) (Nat.le_of_ble_eq_true rfl) ?_
  intro p e s m args below meth c A ls Q h0 hP hD hA hS hl hfin0
  have hfin : ∀ (u' : Int32 × Int32 × Int32 × Int32 × Int32), u' = u → ∀ (H : Heap) (locs : List Loc) (ls : Array Slot) (pc : Nat), va_P D vwCl (wX7 cI cZ a v_pins v_bars v_taped v_lined u'.2.1 u'.2.2.1 v_name v_low v_high v_tape v_line v_imagePins v_imageBars v_imageName v_imageLow v_imageHigh v_isKept v_to v_carries v_seen v_rank v_one v_other v_thought v_gone v_tied v_part v_lack v_down v_parts v_lacks v_downs v_sort v_items v_item v_carried u'.2.2.2.1 u'.2.2.2.2) H → va_D A (wX7 cI cZ a v_pins v_bars v_taped v_lined u'.2.1 u'.2.2.1 v_name v_low v_high v_tape v_line v_imagePins v_imageBars v_imageName v_imageLow v_imageHigh v_isKept v_to v_carries v_seen v_rank v_one v_other v_thought v_gone v_tied v_part v_lack v_down v_parts v_lacks v_downs v_sort v_items v_item v_carried u'.2.2.2.1 u'.2.2.2.2) → va_S A s.heap H locs → decode cX7_nameOf pc = .ok (.ireturn, 1) → W p l e (uR 3 63) s m args below meth c H locs 0 0 Q (F0 m pc ls [.int u'.1]) := by intro u' hu; subst hu; exact hfin0
  clear hfin0
  obtain ⟨hx, hb, hr, hlk, hml, hown, hts, hK⟩ := id h0
  have hl : lv_has ls 3 [(0, .ref (a 0)), (1, .int p1)] := hl
  have E := hF
  have J36 : ∀ (l2 v_at v_fault v_first v_second : Int32) (H : Heap) (locs : List Loc) (ls : Array Slot), FX7_nameOf_b36 p1 v_pins v_taped v_name v_tape  l2 v_at v_fault v_first v_second = some u → va_P D vwCl (wX7 cI cZ a v_pins v_bars v_taped v_lined v_at v_fault v_name v_low v_high v_tape v_line v_imagePins v_imageBars v_imageName v_imageLow v_imageHigh v_isKept v_to v_carries v_seen v_rank v_one v_other v_thought v_gone v_tied v_part v_lack v_down v_parts v_lacks v_downs v_sort v_items v_item v_carried v_first v_second) H → va_D A (wX7 cI cZ a v_pins v_bars v_taped v_lined v_at v_fault v_name v_low v_high v_tape v_line v_imagePins v_imageBars v_imageName v_imageLow v_imageHigh v_isKept v_to v_carries v_seen v_rank v_one v_other v_thought v_gone v_tied v_part v_lack v_down v_parts v_lacks v_downs v_sort v_items v_item v_carried v_first v_second) → va_S A s.heap H locs → lv_has ls 3 [(0, .ref (a 0)), (2, .int l2)] → W p l e (uR 3 63) s m args below meth c H locs 0 0 Q (F0 m 36 ls []) := by
    intro l2 v_at v_fault v_first v_second H locs ls E hP hD hS hl
    refine lv_aload_n hx hb dX7_nameOf_36 rfl (lv_at hl 0 rfl) ?_
    refine lv_aload_n hx hb dX7_nameOf_37 rfl (lv_at hl 0 rfl) ?_
    refine gf_X7_225 h0 hP 0 rfl rfl dX7_nameOf_38 ?_
    obtain ⟨r1, hF, E⟩ := bn_e E
    refine callVfv (wo := (wX7 cI cZ a v_pins v_bars v_taped v_lined v_at r1 v_name v_low v_high v_tape v_line v_imagePins v_imageBars v_imageName v_imageLow v_imageHigh v_isKept v_to v_carries v_seen v_rank v_one v_other v_thought v_gone v_tied v_part v_lack v_down v_parts v_lacks v_downs v_sort v_items v_item v_carried v_first v_second)) h0 (c_X7_fails l D cI cZ cS a v_pins v_bars v_taped v_lined v_at v_fault v_name v_low v_high v_tape v_line v_imagePins v_imageBars v_imageName v_imageLow v_imageHigh v_isKept v_to v_carries v_seen v_rank v_one v_other v_thought v_gone v_tied v_part v_lack v_down v_parts v_lacks v_downs v_sort v_items v_item v_carried v_first v_second v_first r1 hF) (gV wq_930 wq_932 wp_54 wq_8 wq_933) hdX7_fails ⟨Nat.le_of_ble_eq_true rfl, Nat.le_of_ble_eq_true rfl⟩ ⟨Nat.le_refl _, Nat.le_refl _⟩ hP hD hS hA 0 7 rfl rfl rfl hl.1 rfl (Nat.le_of_ble_eq_true rfl) dX7_nameOf_41 (fun H locs hP hD hS => ?_)
    refine lv_iload_n hx hb dX7_nameOf_44 rfl (lv_at hl 1 rfl) ?_
    exact hfin _ (Option.some.inj E) _ _ _ _ hP hD hS dX7_nameOf_45
  refine lv_aload_n hx hb dX7_nameOf_0 rfl (lv_at hl 0 rfl) ?_
  refine gf_X7_219 h0 hP 0 rfl rfl dX7_nameOf_1 ?_
  refine lv_if_lt (tgt := 9) hx hb dX7_nameOf_4 (by decide) (fun c2 => ?_) (fun c2 => ?_)
  · have E := br_p E c2
    refine lv_aload_n hx hb dX7_nameOf_9 rfl (lv_at hl 0 rfl) ?_
    obtain ⟨r3, hF, E⟩ := bn_e E
    refine callVfv (wo := (wX7 cI cZ a v_pins v_bars v_taped v_lined r3.1 r3.2.1 v_name v_low v_high v_tape v_line v_imagePins v_imageBars v_imageName v_imageLow v_imageHigh v_isKept v_to v_carries v_seen v_rank v_one v_other v_thought v_gone v_tied v_part v_lack v_down v_parts v_lacks v_downs v_sort v_items v_item v_carried r3.2.2.1 r3.2.2.2)) h0 (c_X7_word l D cI cZ cS a v_pins v_bars v_taped v_lined v_at v_fault v_name v_low v_high v_tape v_line v_imagePins v_imageBars v_imageName v_imageLow v_imageHigh v_isKept v_to v_carries v_seen v_rank v_one v_other v_thought v_gone v_tied v_part v_lack v_down v_parts v_lacks v_downs v_sort v_items v_item v_carried v_first v_second r3 hF) (gV wq_922 wq_924 wp_52 wq_8 wq_925) hdX7_word ⟨Nat.le_of_ble_eq_true rfl, Nat.le_of_ble_eq_true rfl⟩ ⟨Nat.le_refl _, Nat.le_refl _⟩ hP hD hS hA 0 7 rfl rfl rfl hl.1 rfl (Nat.le_of_ble_eq_true rfl) dX7_nameOf_10 (fun H locs hP hD hS => ?_)
    refine lv_aload_n hx hb dX7_nameOf_13 rfl (lv_at hl 0 rfl) ?_
    refine gf_X7_219 h0 hP 0 rfl rfl dX7_nameOf_14 ?_
    refine lv_if_lt (tgt := 22) hx hb dX7_nameOf_17 (by decide) (fun c4 => ?_) (fun c4 => ?_)
    · have E := br_p E c4
      refine lv_aload_n hx hb dX7_nameOf_22 rfl (lv_at hl 0 rfl) ?_
      obtain ⟨r5, hF, E⟩ := bn_e E
      refine callVfi (wo := (wX7 cI cZ a v_pins v_bars v_taped v_lined r3.1 r3.2.1 v_name v_low v_high v_tape v_line v_imagePins v_imageBars v_imageName v_imageLow v_imageHigh v_isKept v_to v_carries v_seen v_rank v_one v_other v_thought v_gone v_tied v_part v_lack v_down v_parts v_lacks v_downs v_sort v_items v_item v_carried r3.2.2.1 r3.2.2.2)) h0 (c_X7_whose l D cI cZ cS a v_pins v_bars v_taped v_lined r3.1 r3.2.1 v_name v_low v_high v_tape v_line v_imagePins v_imageBars v_imageName v_imageLow v_imageHigh v_isKept v_to v_carries v_seen v_rank v_one v_other v_thought v_gone v_tied v_part v_lack v_down v_parts v_lacks v_downs v_sort v_items v_item v_carried r3.2.2.1 r3.2.2.2 r5 hF) (gV wq_946 wq_948 wp_58 wq_8 wq_949) hdX7_whose ⟨Nat.le_of_ble_eq_true rfl, Nat.le_of_ble_eq_true rfl⟩ ⟨Nat.le_refl _, Nat.le_refl _⟩ hP hD hS hA 0 7 rfl rfl rfl hl.1 rfl (Nat.le_of_ble_eq_true rfl) dX7_nameOf_23 (fun H locs hP hD hS => ?_)
      refine lv_istore_n (lv' := [(2, .int r5), (0, .ref (a 0)), (1, .int p1)]) hx hb dX7_nameOf_26 rfl hl (by decide) rfl (fun ls hl => ?_)
      refine lv_iload_n hx hb dX7_nameOf_27 rfl (lv_at hl 0 rfl) ?_
      refine lv_if_lt (tgt := 36) hx hb dX7_nameOf_28 (by decide) (fun c6 => ?_) (fun c6 => ?_)
      · have E := br_p E c6
        exact J36 _ _ _ _ _ _ _ _ E hP hD hS (lv_sub hl [1, 0] rfl)
      · have E := br_n E c6
        refine lv_iload_n hx hb dX7_nameOf_31 rfl (lv_at hl 0 rfl) ?_
        refine lv_iload_n hx hb dX7_nameOf_32 rfl (lv_at hl 2 rfl) ?_
        refine lv_icmp_ne (tgt := 44) hx hb dX7_nameOf_33 (by decide) (fun c7 => ?_) (fun c7 => ?_)
        · have E := br_n E c7
          refine lv_iload_n hx hb dX7_nameOf_44 rfl (lv_at hl 0 rfl) ?_
          exact hfin _ (Option.some.inj E) _ _ _ _ hP hD hS dX7_nameOf_45
        · have E := br_p E c7
          exact J36 _ _ _ _ _ _ _ _ E hP hD hS (lv_sub hl [1, 0] rfl)
    · have E := br_n E c4
      refine lv_iconst (v := (-1)) hx hb dX7_nameOf_20 (by decide) ?_
      exact hfin _ (Option.some.inj E) _ _ _ _ hP hD hS dX7_nameOf_21
  · have E := br_n E c2
    refine lv_iconst (v := (-1)) hx hb dX7_nameOf_7 (by decide) ?_
    exact hfin _ (Option.some.inj E) _ _ _ _ hP hD hS dX7_nameOf_8
theorem hdX7_ends : yX7_ends.cls = RX7 ∧ yX7_ends.cls ≠ "java/lang/invoke/MethodHandle" ∧ yX7_ends.cls ≠ "java/lang/invoke/VarHandle" ∧ (parseMethodDescriptor yX7_ends.desc).map (fun d => d.parameters.length) = some 0 := by decide +kernel
noncomputable def FX7_ends_b38 (v_taped : Int32) (v_tape : Nat → Int32)  (v_at v_fault : Int32) : Option (Int32 × Int32) := (if v_taped ≤ v_at then (some (v_at, v_fault)) else ((FX7_fails v_at v_fault).bind (fun r2 => (some (v_at, r2)))))
noncomputable def FX7_ends_b0 (v_taped : Int32) (v_tape : Nat → Int32)  (k0 : Int32 → Int32 → Option (Int32 × Int32)) (v_at v_fault : Int32) : Option (Int32 × Int32) := (if v_taped ≤ v_at then (FX7_ends_b38 v_taped v_tape  v_at v_fault) else (gd (vp_in v_at 30) (if (v_tape v_at.toNatClampNeg) = 32 then (k0 (v_at + 1) v_fault) else (FX7_ends_b38 v_taped v_tape  v_at v_fault))))
noncomputable def FX7_ends_h0 (v_taped : Int32) (v_tape : Nat → Int32)  : Nat → Int32 → Int32 → Option (Int32 × Int32)
  | 0 => fun _ _ => none
  | n + 1 => fun v_at v_fault => FX7_ends_b0 v_taped v_tape  (FX7_ends_h0 v_taped v_tape  n) v_at v_fault
noncomputable def FX7_ends (v_taped v_at v_fault : Int32) (v_tape : Nat → Int32) : Option (Int32 × Int32) := (FX7_ends_h0 v_taped v_tape  5000 v_at v_fault)
set_option maxHeartbeats 4000000 in
set_option maxRecDepth 100000 in
theorem c_X7_ends (l : Launch) (D : va_G) (cI cZ cS : ClassId) (a : Nat → Nat) (v_pins v_bars v_taped v_lined v_at v_fault : Int32) (v_name v_low v_high v_tape v_line : Nat → Int32) (v_imagePins v_imageBars : Int32) (v_imageName v_imageLow v_imageHigh : Nat → Int32) (v_isKept : Int32) (v_to v_carries : Nat → Int32) (v_seen v_rank : Int32) (v_one v_other : Nat → Int32) (v_thought v_gone : Int32) (v_tied v_part v_lack v_down : Nat → Int32) (v_parts v_lacks v_downs : Int32) (v_sort v_items v_item v_carried : Nat → Int32) (v_first v_second : Int32)  (u : Int32 × Int32) (hF : FX7_ends v_taped v_at v_fault v_tape = some u) : MCv l D (tyL cI cZ cS) yX7_ends cX7_ends 1 none 1 21 [.ref (a 0)] (wX7 cI cZ a v_pins v_bars v_taped v_lined v_at v_fault v_name v_low v_high v_tape v_line v_imagePins v_imageBars v_imageName v_imageLow v_imageHigh v_isKept v_to v_carries v_seen v_rank v_one v_other v_thought v_gone v_tied v_part v_lack v_down v_parts v_lacks v_downs v_sort v_items v_item v_carried v_first v_second) (wX7 cI cZ a v_pins v_bars v_taped v_lined u.1 u.2 v_name v_low v_high v_tape v_line v_imagePins v_imageBars v_imageName v_imageLow v_imageHigh v_isKept v_to v_carries v_seen v_rank v_one v_other v_thought v_gone v_tied v_part v_lack v_down v_parts v_lacks v_downs v_sort v_items v_item v_carried v_first v_second) := by
  refine MCv.mk (by decide) (Nat.le_of_ble_eq_true rfl) ?_
  intro p e s m args below meth c A ls Q h0 hP hD hA hS hl hfin0
  have hfin : ∀ (u' : Int32 × Int32), u' = u → ∀ (H : Heap) (locs : List Loc) (ls : Array Slot) (pc : Nat), va_P D vwCl (wX7 cI cZ a v_pins v_bars v_taped v_lined u'.1 u'.2 v_name v_low v_high v_tape v_line v_imagePins v_imageBars v_imageName v_imageLow v_imageHigh v_isKept v_to v_carries v_seen v_rank v_one v_other v_thought v_gone v_tied v_part v_lack v_down v_parts v_lacks v_downs v_sort v_items v_item v_carried v_first v_second) H → va_D A (wX7 cI cZ a v_pins v_bars v_taped v_lined u'.1 u'.2 v_name v_low v_high v_tape v_line v_imagePins v_imageBars v_imageName v_imageLow v_imageHigh v_isKept v_to v_carries v_seen v_rank v_one v_other v_thought v_gone v_tied v_part v_lack v_down v_parts v_lacks v_downs v_sort v_items v_item v_carried v_first v_second) → va_S A s.heap H locs → decode cX7_ends pc = .ok (.return_, 1) → W p l e (uR 1 21) s m args below meth c H locs 0 0 Q (F0 m pc ls []) := by intro u' hu; subst hu; exact hfin0
  clear hfin0
  obtain ⟨hx, hb, hr, hlk, hml, hown, hts, hK⟩ := id h0
  have hl : lv_has ls 1 [(0, .ref (a 0))] := hl
  have E := hF
  have J38 : ∀ (v_at v_fault : Int32) (H : Heap) (locs : List Loc) (ls : Array Slot), FX7_ends_b38 v_taped v_tape  v_at v_fault = some u → va_P D vwCl (wX7 cI cZ a v_pins v_bars v_taped v_lined v_at v_fault v_name v_low v_high v_tape v_line v_imagePins v_imageBars v_imageName v_imageLow v_imageHigh v_isKept v_to v_carries v_seen v_rank v_one v_other v_thought v_gone v_tied v_part v_lack v_down v_parts v_lacks v_downs v_sort v_items v_item v_carried v_first v_second) H → va_D A (wX7 cI cZ a v_pins v_bars v_taped v_lined v_at v_fault v_name v_low v_high v_tape v_line v_imagePins v_imageBars v_imageName v_imageLow v_imageHigh v_isKept v_to v_carries v_seen v_rank v_one v_other v_thought v_gone v_tied v_part v_lack v_down v_parts v_lacks v_downs v_sort v_items v_item v_carried v_first v_second) → va_S A s.heap H locs → lv_has ls 1 [(0, .ref (a 0))] → W p l e (uR 1 21) s m args below meth c H locs 0 0 Q (F0 m 38 ls []) := by
    intro v_at v_fault H locs ls E hP hD hS hl
    refine lv_aload_n hx hb dX7_ends_38 rfl (lv_at hl 0 rfl) ?_
    refine gf_X7_222 h0 hP 0 rfl rfl dX7_ends_39 ?_
    refine lv_aload_n hx hb dX7_ends_42 rfl (lv_at hl 0 rfl) ?_
    refine gf_X7_155 h0 hP 0 rfl rfl dX7_ends_43 ?_
    refine lv_icmp_ge (tgt := 57) hx hb dX7_ends_46 (by decide) (fun c1 => ?_) (fun c1 => ?_)
    · have E := br_p E c1
      exact hfin _ (Option.some.inj E) _ _ _ _ hP hD hS dX7_ends_57
    · have E := br_n E c1
      refine lv_aload_n hx hb dX7_ends_49 rfl (lv_at hl 0 rfl) ?_
      refine lv_aload_n hx hb dX7_ends_50 rfl (lv_at hl 0 rfl) ?_
      refine gf_X7_222 h0 hP 0 rfl rfl dX7_ends_51 ?_
      obtain ⟨r2, hF, E⟩ := bn_e E
      refine callVfv (wo := (wX7 cI cZ a v_pins v_bars v_taped v_lined v_at r2 v_name v_low v_high v_tape v_line v_imagePins v_imageBars v_imageName v_imageLow v_imageHigh v_isKept v_to v_carries v_seen v_rank v_one v_other v_thought v_gone v_tied v_part v_lack v_down v_parts v_lacks v_downs v_sort v_items v_item v_carried v_first v_second)) h0 (c_X7_fails l D cI cZ cS a v_pins v_bars v_taped v_lined v_at v_fault v_name v_low v_high v_tape v_line v_imagePins v_imageBars v_imageName v_imageLow v_imageHigh v_isKept v_to v_carries v_seen v_rank v_one v_other v_thought v_gone v_tied v_part v_lack v_down v_parts v_lacks v_downs v_sort v_items v_item v_carried v_first v_second v_at r2 hF) (gV wq_930 wq_932 wp_54 wq_8 wq_933) hdX7_fails ⟨Nat.le_of_ble_eq_true rfl, Nat.le_of_ble_eq_true rfl⟩ ⟨Nat.le_refl _, Nat.le_refl _⟩ hP hD hS hA 0 7 rfl rfl rfl hl.1 rfl (Nat.le_of_ble_eq_true rfl) dX7_ends_54 (fun H locs hP hD hS => ?_)
      exact hfin _ (Option.some.inj E) _ _ _ _ hP hD hS dX7_ends_57
  have J0 : ∀ (n0 : Nat) (v_at v_fault : Int32) (H : Heap) (locs : List Loc) (ls : Array Slot), FX7_ends_h0 v_taped v_tape  n0 v_at v_fault = some u → va_P D vwCl (wX7 cI cZ a v_pins v_bars v_taped v_lined v_at v_fault v_name v_low v_high v_tape v_line v_imagePins v_imageBars v_imageName v_imageLow v_imageHigh v_isKept v_to v_carries v_seen v_rank v_one v_other v_thought v_gone v_tied v_part v_lack v_down v_parts v_lacks v_downs v_sort v_items v_item v_carried v_first v_second) H → va_D A (wX7 cI cZ a v_pins v_bars v_taped v_lined v_at v_fault v_name v_low v_high v_tape v_line v_imagePins v_imageBars v_imageName v_imageLow v_imageHigh v_isKept v_to v_carries v_seen v_rank v_one v_other v_thought v_gone v_tied v_part v_lack v_down v_parts v_lacks v_downs v_sort v_items v_item v_carried v_first v_second) → va_S A s.heap H locs → lv_has ls 1 [(0, .ref (a 0))] → W p l e (uR 1 21) s m args below meth c H locs 0 0 Q (F0 m 0 ls []) := by
    intro n0
    induction n0 with
    | zero => intro v_at v_fault H locs ls E; exact none_e E
    | succ n0 ih0 =>
      intro v_at v_fault H locs ls E hP hD hS hl
      have E : FX7_ends_b0 v_taped v_tape  (FX7_ends_h0 v_taped v_tape  n0) v_at v_fault = some u := E
      refine lv_aload_n hx hb dX7_ends_0 rfl (lv_at hl 0 rfl) ?_
      refine gf_X7_222 h0 hP 0 rfl rfl dX7_ends_1 ?_
      refine lv_aload_n hx hb dX7_ends_4 rfl (lv_at hl 0 rfl) ?_
      refine gf_X7_155 h0 hP 0 rfl rfl dX7_ends_5 ?_
      refine lv_icmp_ge (tgt := 38) hx hb dX7_ends_8 (by decide) (fun c3 => ?_) (fun c3 => ?_)
      · have E := br_p E c3
        exact J38 _ _ _ _ _ E hP hD hS (lv_sub hl [0] rfl)
      · have E := br_n E c3
        refine lv_aload_n hx hb dX7_ends_11 rfl (lv_at hl 0 rfl) ?_
        refine gf_X7_19 h0 hP 0 rfl rfl dX7_ends_12 ?_
        refine lv_aload_n hx hb dX7_ends_15 rfl (lv_at hl 0 rfl) ?_
        refine gf_X7_222 h0 hP 0 rfl rfl dX7_ends_16 ?_
        obtain ⟨g4, E⟩ := gd_e E
        refine aldi hx hb hK hP 4 rfl rfl g4 dX7_ends_19 ?_
        refine lv_bipush (v := 32) hx hb dX7_ends_20 (by decide) ?_
        refine lv_icmp_ne (tgt := 38) hx hb dX7_ends_22 (by decide) (fun c5 => ?_) (fun c5 => ?_)
        · have E := br_n E c5
          exact J38 _ _ _ _ _ E hP hD hS (lv_sub hl [0] rfl)
        · have E := br_p E c5
          refine lv_aload_n hx hb dX7_ends_25 rfl (lv_at hl 0 rfl) ?_
          refine lv_dup hx hb dX7_ends_26 rfl ?_
          refine gf_X7_222 h0 hP 0 rfl rfl dX7_ends_27 ?_
          refine lv_iconst (v := 1) hx hb dX7_ends_30 (by decide) ?_
          refine lv_iadd hx hb dX7_ends_31 ?_
          refine pf_X7_222 (wo := (wX7 cI cZ a v_pins v_bars v_taped v_lined (v_at + 1) v_fault v_name v_low v_high v_tape v_line v_imagePins v_imageBars v_imageName v_imageLow v_imageHigh v_isKept v_to v_carries v_seen v_rank v_one v_other v_thought v_gone v_tied v_part v_lack v_down v_parts v_lacks v_downs v_sort v_items v_item v_carried v_first v_second)) h0 hP hD hS 0 rfl (Nat.le_of_ble_eq_true rfl) rfl dX7_ends_32 (fun H locs hP hD hS => ?_)
          refine lv_goto (tgt := 0) hx hb dX7_ends_35 (by decide) ?_
          exact ih0 _ _ _ _ _ E hP hD hS (lv_sub hl [0] rfl)
  exact J0 5000 _ _ _ _ _ E hP hD hS (lv_sub hl [0] rfl)
theorem hdX7_newPin : yX7_newPin.cls = RX7 ∧ yX7_newPin.cls ≠ "java/lang/invoke/MethodHandle" ∧ yX7_newPin.cls ≠ "java/lang/invoke/VarHandle" ∧ (parseMethodDescriptor yX7_newPin.desc).map (fun d => d.parameters.length) = some 0 := by decide +kernel
noncomputable def FX7_newPin_b109 (v_taped : Int32) (v_tape : Nat → Int32) (k75 : Int32 → Int32 → Int32 → Int32 → Int32 → Int32 → (Nat → Int32) → Int32 → Int32 → Option (Int32 × Int32 × Int32 × Int32 × (Nat → Int32) × Int32 × Int32)) (l1 l2 l3 t1 t2 v_pins v_at v_fault : Int32) (v_name : Nat → Int32) (v_first v_second : Int32) : Option (Int32 × Int32 × Int32 × Int32 × (Nat → Int32) × Int32 × Int32) := (gd (vp_in t1 48) (k75 l1 l2 (l3 + 1) v_pins v_at v_fault (upd v_name t1.toNatClampNeg t2) v_first v_second))
noncomputable def FX7_newPin_b75 (v_taped : Int32) (v_tape : Nat → Int32)  (k75 : Int32 → Int32 → Int32 → Int32 → Int32 → Int32 → (Nat → Int32) → Int32 → Int32 → Option (Int32 × Int32 × Int32 × Int32 × (Nat → Int32) × Int32 × Int32)) (l1 l2 l3 v_pins v_at v_fault : Int32) (v_name : Nat → Int32) (v_first v_second : Int32) : Option (Int32 × Int32 × Int32 × Int32 × (Nat → Int32) × Int32 × Int32) := (if 4 ≤ l3 then (some (((v_pins + 1) - 1), (v_pins + 1), v_at, v_fault, v_name, v_first, v_second)) else (if l2 ≤ l3 then (FX7_newPin_b109 v_taped v_tape k75 l1 l2 l3 ((4 * v_pins) + l3) 0 v_pins v_at v_fault v_name v_first v_second) else (gd (vp_in (l1 + l3) 30) (FX7_newPin_b109 v_taped v_tape k75 l1 l2 l3 ((4 * v_pins) + l3) (v_tape (l1 + l3).toNatClampNeg) v_pins v_at v_fault v_name v_first v_second))))
noncomputable def FX7_newPin_h75 (v_taped : Int32) (v_tape : Nat → Int32)  : Nat → Int32 → Int32 → Int32 → Int32 → Int32 → Int32 → (Nat → Int32) → Int32 → Int32 → Option (Int32 × Int32 × Int32 × Int32 × (Nat → Int32) × Int32 × Int32)
  | 0 => fun _ _ _ _ _ _ _ _ _ => none
  | n + 1 => fun l1 l2 l3 v_pins v_at v_fault v_name v_first v_second => FX7_newPin_b75 v_taped v_tape  (FX7_newPin_h75 v_taped v_tape  n) l1 l2 l3 v_pins v_at v_fault v_name v_first v_second
noncomputable def FX7_newPin_b33 (v_taped : Int32) (v_tape : Nat → Int32)  (v_pins v_at v_fault : Int32) (v_name : Nat → Int32) (v_first v_second : Int32) : Option (Int32 × Int32 × Int32 × Int32 × (Nat → Int32) × Int32 × Int32) := ((FX7_ends v_taped v_at v_fault v_tape).bind (fun r5 => (if r5.2 < 0 then (if v_pins = 12 then (some ((-4), v_pins, r5.1, r5.2, v_name, v_first, v_second)) else (FX7_newPin_h75 v_taped v_tape  5000 v_first (v_second - v_first) 0 v_pins r5.1 r5.2 v_name v_first v_second)) else (some ((-1), v_pins, r5.1, r5.2, v_name, v_first, v_second)))))
noncomputable def FX7_newPin_b25 (v_taped : Int32) (v_tape : Nat → Int32)  (v_pins v_at v_fault : Int32) (v_name : Nat → Int32) (v_first v_second : Int32) : Option (Int32 × Int32 × Int32 × Int32 × (Nat → Int32) × Int32 × Int32) := ((FX7_fails v_first v_fault).bind (fun r8 => (FX7_newPin_b33 v_taped v_tape  v_pins v_at r8 v_name v_first v_second)))
noncomputable def FX7_newPin (v_pins v_taped v_at v_fault : Int32) (v_name v_tape : Nat → Int32) (v_first v_second : Int32) : Option (Int32 × Int32 × Int32 × Int32 × (Nat → Int32) × Int32 × Int32) := ((FX7_word v_taped v_at v_fault v_tape v_first v_second).bind (fun r9 => (if 0 ≤ r9.2.1 then (FX7_newPin_b33 v_taped v_tape  v_pins r9.1 r9.2.1 v_name r9.2.2.1 r9.2.2.2) else ((FX7_verb v_tape r9.2.2.1 r9.2.2.2).bind (fun r11 => (if 0 ≤ r11 then (FX7_newPin_b25 v_taped v_tape  v_pins r9.1 r9.2.1 v_name r9.2.2.1 r9.2.2.2) else ((FX7_whose v_pins v_name v_tape r9.2.2.1 r9.2.2.2).bind (fun r13 => (if r13 < 0 then (FX7_newPin_b33 v_taped v_tape  v_pins r9.1 r9.2.1 v_name r9.2.2.1 r9.2.2.2) else (FX7_newPin_b25 v_taped v_tape  v_pins r9.1 r9.2.1 v_name r9.2.2.1 r9.2.2.2))))))))))
set_option maxHeartbeats 4000000 in
set_option maxRecDepth 100000 in
theorem c_X7_newPin (l : Launch) (D : va_G) (cI cZ cS : ClassId) (a : Nat → Nat) (v_pins v_bars v_taped v_lined v_at v_fault : Int32) (v_name v_low v_high v_tape v_line : Nat → Int32) (v_imagePins v_imageBars : Int32) (v_imageName v_imageLow v_imageHigh : Nat → Int32) (v_isKept : Int32) (v_to v_carries : Nat → Int32) (v_seen v_rank : Int32) (v_one v_other : Nat → Int32) (v_thought v_gone : Int32) (v_tied v_part v_lack v_down : Nat → Int32) (v_parts v_lacks v_downs : Int32) (v_sort v_items v_item v_carried : Nat → Int32) (v_first v_second : Int32)  (u : Int32 × Int32 × Int32 × Int32 × (Nat → Int32) × Int32 × Int32) (hF : FX7_newPin v_pins v_taped v_at v_fault v_name v_tape v_first v_second = some u) : MCi l D (tyL cI cZ cS) yX7_newPin cX7_newPin 4 (some .int) 3 63 [.ref (a 0)] (wX7 cI cZ a v_pins v_bars v_taped v_lined v_at v_fault v_name v_low v_high v_tape v_line v_imagePins v_imageBars v_imageName v_imageLow v_imageHigh v_isKept v_to v_carries v_seen v_rank v_one v_other v_thought v_gone v_tied v_part v_lack v_down v_parts v_lacks v_downs v_sort v_items v_item v_carried v_first v_second) (wX7 cI cZ a u.2.1 v_bars v_taped v_lined u.2.2.1 u.2.2.2.1 u.2.2.2.2.1 v_low v_high v_tape v_line v_imagePins v_imageBars v_imageName v_imageLow v_imageHigh v_isKept v_to v_carries v_seen v_rank v_one v_other v_thought v_gone v_tied v_part v_lack v_down v_parts v_lacks v_downs v_sort v_items v_item v_carried u.2.2.2.2.2.1 u.2.2.2.2.2.2) u.1 := by
  refine MCi.mk (by decide) (Nat.le_of_ble_eq_true rfl) ?_
  intro p e s m args below meth c A ls Q h0 hP hD hA hS hl hfin0
  have hfin : ∀ (u' : Int32 × Int32 × Int32 × Int32 × (Nat → Int32) × Int32 × Int32), u' = u → ∀ (H : Heap) (locs : List Loc) (ls : Array Slot) (pc : Nat), va_P D vwCl (wX7 cI cZ a u'.2.1 v_bars v_taped v_lined u'.2.2.1 u'.2.2.2.1 u'.2.2.2.2.1 v_low v_high v_tape v_line v_imagePins v_imageBars v_imageName v_imageLow v_imageHigh v_isKept v_to v_carries v_seen v_rank v_one v_other v_thought v_gone v_tied v_part v_lack v_down v_parts v_lacks v_downs v_sort v_items v_item v_carried u'.2.2.2.2.2.1 u'.2.2.2.2.2.2) H → va_D A (wX7 cI cZ a u'.2.1 v_bars v_taped v_lined u'.2.2.1 u'.2.2.2.1 u'.2.2.2.2.1 v_low v_high v_tape v_line v_imagePins v_imageBars v_imageName v_imageLow v_imageHigh v_isKept v_to v_carries v_seen v_rank v_one v_other v_thought v_gone v_tied v_part v_lack v_down v_parts v_lacks v_downs v_sort v_items v_item v_carried u'.2.2.2.2.2.1 u'.2.2.2.2.2.2) → va_S A s.heap H locs → decode cX7_newPin pc = .ok (.ireturn, 1) → W p l e (uR 3 63) s m args below meth c H locs 0 0 Q (F0 m pc ls [.int u'.1]) := by intro u' hu; subst hu; exact hfin0
  clear hfin0
  obtain ⟨hx, hb, hr, hlk, hml, hown, hts, hK⟩ := id h0
  have hl : lv_has ls 4 [(0, .ref (a 0))] := hl
  have E := hF
  have J75 : ∀ (n75 : Nat) (l1 l2 l3 v_pins v_at v_fault : Int32) (v_name : Nat → Int32) (v_first v_second : Int32) (H : Heap) (locs : List Loc) (ls : Array Slot), FX7_newPin_h75 v_taped v_tape  n75 l1 l2 l3 v_pins v_at v_fault v_name v_first v_second = some u → va_P D vwCl (wX7 cI cZ a v_pins v_bars v_taped v_lined v_at v_fault v_name v_low v_high v_tape v_line v_imagePins v_imageBars v_imageName v_imageLow v_imageHigh v_isKept v_to v_carries v_seen v_rank v_one v_other v_thought v_gone v_tied v_part v_lack v_down v_parts v_lacks v_downs v_sort v_items v_item v_carried v_first v_second) H → va_D A (wX7 cI cZ a v_pins v_bars v_taped v_lined v_at v_fault v_name v_low v_high v_tape v_line v_imagePins v_imageBars v_imageName v_imageLow v_imageHigh v_isKept v_to v_carries v_seen v_rank v_one v_other v_thought v_gone v_tied v_part v_lack v_down v_parts v_lacks v_downs v_sort v_items v_item v_carried v_first v_second) → va_S A s.heap H locs → lv_has ls 4 [(0, .ref (a 0)), (1, .int l1), (2, .int l2), (3, .int l3)] → W p l e (uR 3 63) s m args below meth c H locs 0 0 Q (F0 m 75 ls []) := by
    intro n75
    induction n75 with
    | zero => intro l1 l2 l3 v_pins v_at v_fault v_name v_first v_second H locs ls E; exact none_e E
    | succ n75 ih75 =>
      intro l1 l2 l3 v_pins v_at v_fault v_name v_first v_second H locs ls E hP hD hS hl
      have E : FX7_newPin_b75 v_taped v_tape  (FX7_newPin_h75 v_taped v_tape  n75) l1 l2 l3 v_pins v_at v_fault v_name v_first v_second = some u := E
      have J109 : ∀ (l1 l2 l3 t1 t2 v_pins v_at v_fault : Int32) (v_name : Nat → Int32) (v_first v_second : Int32) (H : Heap) (locs : List Loc) (ls : Array Slot), FX7_newPin_b109 v_taped v_tape (FX7_newPin_h75 v_taped v_tape  n75) l1 l2 l3 t1 t2 v_pins v_at v_fault v_name v_first v_second = some u → va_P D vwCl (wX7 cI cZ a v_pins v_bars v_taped v_lined v_at v_fault v_name v_low v_high v_tape v_line v_imagePins v_imageBars v_imageName v_imageLow v_imageHigh v_isKept v_to v_carries v_seen v_rank v_one v_other v_thought v_gone v_tied v_part v_lack v_down v_parts v_lacks v_downs v_sort v_items v_item v_carried v_first v_second) H → va_D A (wX7 cI cZ a v_pins v_bars v_taped v_lined v_at v_fault v_name v_low v_high v_tape v_line v_imagePins v_imageBars v_imageName v_imageLow v_imageHigh v_isKept v_to v_carries v_seen v_rank v_one v_other v_thought v_gone v_tied v_part v_lack v_down v_parts v_lacks v_downs v_sort v_items v_item v_carried v_first v_second) → va_S A s.heap H locs → lv_has ls 4 [(0, .ref (a 0)), (1, .int l1), (2, .int l2), (3, .int l3)] → W p l e (uR 3 63) s m args below meth c H locs 0 0 Q (F0 m 109 ls [.int t2, .int t1, .ref (a 1)]) := by
        intro l1 l2 l3 t1 t2 v_pins v_at v_fault v_name v_first v_second H locs ls E hP hD hS hl
        obtain ⟨g1, E⟩ := gd_e E
        refine asti (wo := (wX7 cI cZ a v_pins v_bars v_taped v_lined v_at v_fault (upd v_name t1.toNatClampNeg t2) v_low v_high v_tape v_line v_imagePins v_imageBars v_imageName v_imageLow v_imageHigh v_isKept v_to v_carries v_seen v_rank v_one v_other v_thought v_gone v_tied v_part v_lack v_down v_parts v_lacks v_downs v_sort v_items v_item v_carried v_first v_second)) hx hb hK hP hD hS 1 rfl rfl g1 rfl dX7_newPin_109 (fun H locs hP hD hS => ?_)
        refine lv_iinc (v := (l3 + 1)) (lv' := [(3, .int (l3 + 1)), (0, .ref (a 0)), (1, .int l1), (2, .int l2)]) hx hb dX7_newPin_110 hl (k := 3) rfl rfl (by decide) rfl (fun ls hl => ?_)
        refine lv_goto (tgt := 75) hx hb dX7_newPin_113 (by decide) ?_
        exact ih75 _ _ _ _ _ _ _ _ _ _ _ _ E hP hD hS (lv_sub hl [1, 2, 3, 0] rfl)
      refine lv_iload_n hx hb dX7_newPin_75 rfl (lv_at hl 3 rfl) ?_
      refine lv_iconst (v := 4) hx hb dX7_newPin_76 (by decide) ?_
      refine lv_icmp_ge (tgt := 116) hx hb dX7_newPin_77 (by decide) (fun c2 => ?_) (fun c2 => ?_)
      · have E := br_p E c2
        refine lv_aload_n hx hb dX7_newPin_116 rfl (lv_at hl 0 rfl) ?_
        refine lv_dup hx hb dX7_newPin_117 rfl ?_
        refine gf_X7_71 h0 hP 0 rfl rfl dX7_newPin_118 ?_
        refine lv_iconst (v := 1) hx hb dX7_newPin_121 (by decide) ?_
        refine lv_iadd hx hb dX7_newPin_122 ?_
        refine pf_X7_71 (wo := (wX7 cI cZ a (v_pins + 1) v_bars v_taped v_lined v_at v_fault v_name v_low v_high v_tape v_line v_imagePins v_imageBars v_imageName v_imageLow v_imageHigh v_isKept v_to v_carries v_seen v_rank v_one v_other v_thought v_gone v_tied v_part v_lack v_down v_parts v_lacks v_downs v_sort v_items v_item v_carried v_first v_second)) h0 hP hD hS 0 rfl (Nat.le_of_ble_eq_true rfl) rfl dX7_newPin_123 (fun H locs hP hD hS => ?_)
        refine lv_aload_n hx hb dX7_newPin_126 rfl (lv_at hl 0 rfl) ?_
        refine gf_X7_71 h0 hP 0 rfl rfl dX7_newPin_127 ?_
        refine lv_iconst (v := 1) hx hb dX7_newPin_130 (by decide) ?_
        refine lv_isub hx hb dX7_newPin_131 ?_
        exact hfin _ (Option.some.inj E) _ _ _ _ hP hD hS dX7_newPin_132
      · have E := br_n E c2
        refine lv_aload_n hx hb dX7_newPin_80 rfl (lv_at hl 0 rfl) ?_
        refine gf_X7_9 h0 hP 0 rfl rfl dX7_newPin_81 ?_
        refine lv_iconst (v := 4) hx hb dX7_newPin_84 (by decide) ?_
        refine lv_aload_n hx hb dX7_newPin_85 rfl (lv_at hl 0 rfl) ?_
        refine gf_X7_71 h0 hP 0 rfl rfl dX7_newPin_86 ?_
        refine lv_imul hx hb dX7_newPin_89 ?_
        refine lv_iload_n hx hb dX7_newPin_90 rfl (lv_at hl 3 rfl) ?_
        refine lv_iadd hx hb dX7_newPin_91 ?_
        refine lv_iload_n hx hb dX7_newPin_92 rfl (lv_at hl 3 rfl) ?_
        refine lv_iload_n hx hb dX7_newPin_93 rfl (lv_at hl 2 rfl) ?_
        refine lv_icmp_ge (tgt := 108) hx hb dX7_newPin_94 (by decide) (fun c3 => ?_) (fun c3 => ?_)
        · have E := br_p E c3
          refine lv_iconst (v := 0) hx hb dX7_newPin_108 (by decide) ?_
          exact J109 _ _ _ _ _ _ _ _ _ _ _ _ _ _ E hP hD hS (lv_sub hl [0, 1, 2, 3] rfl)
        · have E := br_n E c3
          refine lv_aload_n hx hb dX7_newPin_97 rfl (lv_at hl 0 rfl) ?_
          refine gf_X7_19 h0 hP 0 rfl rfl dX7_newPin_98 ?_
          refine lv_iload_n hx hb dX7_newPin_101 rfl (lv_at hl 1 rfl) ?_
          refine lv_iload_n hx hb dX7_newPin_102 rfl (lv_at hl 3 rfl) ?_
          refine lv_iadd hx hb dX7_newPin_103 ?_
          obtain ⟨g4, E⟩ := gd_e E
          refine aldi hx hb hK hP 4 rfl rfl g4 dX7_newPin_104 ?_
          refine lv_goto (tgt := 109) hx hb dX7_newPin_105 (by decide) ?_
          exact J109 _ _ _ _ _ _ _ _ _ _ _ _ _ _ E hP hD hS (lv_sub hl [0, 1, 2, 3] rfl)
  have J33 : ∀ (v_pins v_at v_fault : Int32) (v_name : Nat → Int32) (v_first v_second : Int32) (H : Heap) (locs : List Loc) (ls : Array Slot), FX7_newPin_b33 v_taped v_tape  v_pins v_at v_fault v_name v_first v_second = some u → va_P D vwCl (wX7 cI cZ a v_pins v_bars v_taped v_lined v_at v_fault v_name v_low v_high v_tape v_line v_imagePins v_imageBars v_imageName v_imageLow v_imageHigh v_isKept v_to v_carries v_seen v_rank v_one v_other v_thought v_gone v_tied v_part v_lack v_down v_parts v_lacks v_downs v_sort v_items v_item v_carried v_first v_second) H → va_D A (wX7 cI cZ a v_pins v_bars v_taped v_lined v_at v_fault v_name v_low v_high v_tape v_line v_imagePins v_imageBars v_imageName v_imageLow v_imageHigh v_isKept v_to v_carries v_seen v_rank v_one v_other v_thought v_gone v_tied v_part v_lack v_down v_parts v_lacks v_downs v_sort v_items v_item v_carried v_first v_second) → va_S A s.heap H locs → lv_has ls 4 [(0, .ref (a 0))] → W p l e (uR 3 63) s m args below meth c H locs 0 0 Q (F0 m 33 ls []) := by
    intro v_pins v_at v_fault v_name v_first v_second H locs ls E hP hD hS hl
    refine lv_aload_n hx hb dX7_newPin_33 rfl (lv_at hl 0 rfl) ?_
    refine gf_X7_225 h0 hP 0 rfl rfl dX7_newPin_34 ?_
    refine lv_istore_n (lv' := [(1, .int v_first), (0, .ref (a 0))]) hx hb dX7_newPin_37 rfl hl (by decide) rfl (fun ls hl => ?_)
    refine lv_aload_n hx hb dX7_newPin_38 rfl (lv_at hl 1 rfl) ?_
    refine gf_X7_231 h0 hP 0 rfl rfl dX7_newPin_39 ?_
    refine lv_aload_n hx hb dX7_newPin_42 rfl (lv_at hl 1 rfl) ?_
    refine gf_X7_225 h0 hP 0 rfl rfl dX7_newPin_43 ?_
    refine lv_isub hx hb dX7_newPin_46 ?_
    refine lv_istore_n (lv' := [(2, .int (v_second - v_first)), (1, .int v_first), (0, .ref (a 0))]) hx hb dX7_newPin_47 rfl hl (by decide) rfl (fun ls hl => ?_)
    refine lv_aload_n hx hb dX7_newPin_48 rfl (lv_at hl 2 rfl) ?_
    obtain ⟨r5, hF, E⟩ := bn_e E
    refine callVfv (wo := (wX7 cI cZ a v_pins v_bars v_taped v_lined r5.1 r5.2 v_name v_low v_high v_tape v_line v_imagePins v_imageBars v_imageName v_imageLow v_imageHigh v_isKept v_to v_carries v_seen v_rank v_one v_other v_thought v_gone v_tied v_part v_lack v_down v_parts v_lacks v_downs v_sort v_items v_item v_carried v_first v_second)) h0 (c_X7_ends l D cI cZ cS a v_pins v_bars v_taped v_lined v_at v_fault v_name v_low v_high v_tape v_line v_imagePins v_imageBars v_imageName v_imageLow v_imageHigh v_isKept v_to v_carries v_seen v_rank v_one v_other v_thought v_gone v_tied v_part v_lack v_down v_parts v_lacks v_downs v_sort v_items v_item v_carried v_first v_second r5 hF) (gV wq_950 wq_952 wp_59 wq_8 wq_953) hdX7_ends ⟨Nat.le_of_ble_eq_true rfl, Nat.le_of_ble_eq_true rfl⟩ ⟨Nat.le_refl _, Nat.le_refl _⟩ hP hD hS hA 0 7 rfl rfl rfl hl.1 rfl (Nat.le_of_ble_eq_true rfl) dX7_newPin_49 (fun H locs hP hD hS => ?_)
    refine lv_aload_n hx hb dX7_newPin_52 rfl (lv_at hl 2 rfl) ?_
    refine gf_X7_219 h0 hP 0 rfl rfl dX7_newPin_53 ?_
    refine lv_if_lt (tgt := 61) hx hb dX7_newPin_56 (by decide) (fun c6 => ?_) (fun c6 => ?_)
    · have E := br_p E c6
      refine lv_aload_n hx hb dX7_newPin_61 rfl (lv_at hl 2 rfl) ?_
      refine gf_X7_71 h0 hP 0 rfl rfl dX7_newPin_62 ?_
      refine lv_bipush (v := 12) hx hb dX7_newPin_65 (by decide) ?_
      refine lv_icmp_ne (tgt := 73) hx hb dX7_newPin_67 (by decide) (fun c7 => ?_) (fun c7 => ?_)
      · have E := br_n E c7
        refine lv_iconst (v := 0) hx hb dX7_newPin_73 (by decide) ?_
        refine lv_istore_n (lv' := [(3, .int 0), (2, .int (v_second - v_first)), (1, .int v_first), (0, .ref (a 0))]) hx hb dX7_newPin_74 rfl hl (by decide) rfl (fun ls hl => ?_)
        exact J75 5000 _ _ _ _ _ _ _ _ _ _ _ _ E hP hD hS (lv_sub hl [3, 2, 1, 0] rfl)
      · have E := br_p E c7
        refine lv_bipush (v := (-4)) hx hb dX7_newPin_70 (by decide) ?_
        exact hfin _ (Option.some.inj E) _ _ _ _ hP hD hS dX7_newPin_72
    · have E := br_n E c6
      refine lv_iconst (v := (-1)) hx hb dX7_newPin_59 (by decide) ?_
      exact hfin _ (Option.some.inj E) _ _ _ _ hP hD hS dX7_newPin_60
  have J25 : ∀ (v_pins v_at v_fault : Int32) (v_name : Nat → Int32) (v_first v_second : Int32) (H : Heap) (locs : List Loc) (ls : Array Slot), FX7_newPin_b25 v_taped v_tape  v_pins v_at v_fault v_name v_first v_second = some u → va_P D vwCl (wX7 cI cZ a v_pins v_bars v_taped v_lined v_at v_fault v_name v_low v_high v_tape v_line v_imagePins v_imageBars v_imageName v_imageLow v_imageHigh v_isKept v_to v_carries v_seen v_rank v_one v_other v_thought v_gone v_tied v_part v_lack v_down v_parts v_lacks v_downs v_sort v_items v_item v_carried v_first v_second) H → va_D A (wX7 cI cZ a v_pins v_bars v_taped v_lined v_at v_fault v_name v_low v_high v_tape v_line v_imagePins v_imageBars v_imageName v_imageLow v_imageHigh v_isKept v_to v_carries v_seen v_rank v_one v_other v_thought v_gone v_tied v_part v_lack v_down v_parts v_lacks v_downs v_sort v_items v_item v_carried v_first v_second) → va_S A s.heap H locs → lv_has ls 4 [(0, .ref (a 0))] → W p l e (uR 3 63) s m args below meth c H locs 0 0 Q (F0 m 25 ls []) := by
    intro v_pins v_at v_fault v_name v_first v_second H locs ls E hP hD hS hl
    refine lv_aload_n hx hb dX7_newPin_25 rfl (lv_at hl 0 rfl) ?_
    refine lv_aload_n hx hb dX7_newPin_26 rfl (lv_at hl 0 rfl) ?_
    refine gf_X7_225 h0 hP 0 rfl rfl dX7_newPin_27 ?_
    obtain ⟨r8, hF, E⟩ := bn_e E
    refine callVfv (wo := (wX7 cI cZ a v_pins v_bars v_taped v_lined v_at r8 v_name v_low v_high v_tape v_line v_imagePins v_imageBars v_imageName v_imageLow v_imageHigh v_isKept v_to v_carries v_seen v_rank v_one v_other v_thought v_gone v_tied v_part v_lack v_down v_parts v_lacks v_downs v_sort v_items v_item v_carried v_first v_second)) h0 (c_X7_fails l D cI cZ cS a v_pins v_bars v_taped v_lined v_at v_fault v_name v_low v_high v_tape v_line v_imagePins v_imageBars v_imageName v_imageLow v_imageHigh v_isKept v_to v_carries v_seen v_rank v_one v_other v_thought v_gone v_tied v_part v_lack v_down v_parts v_lacks v_downs v_sort v_items v_item v_carried v_first v_second v_first r8 hF) (gV wq_930 wq_932 wp_54 wq_8 wq_933) hdX7_fails ⟨Nat.le_of_ble_eq_true rfl, Nat.le_of_ble_eq_true rfl⟩ ⟨Nat.le_refl _, Nat.le_refl _⟩ hP hD hS hA 0 7 rfl rfl rfl hl.1 rfl (Nat.le_of_ble_eq_true rfl) dX7_newPin_30 (fun H locs hP hD hS => ?_)
    exact J33 _ _ _ _ _ _ _ _ _ E hP hD hS (lv_sub hl [0] rfl)
  refine lv_aload_n hx hb dX7_newPin_0 rfl (lv_at hl 0 rfl) ?_
  obtain ⟨r9, hF, E⟩ := bn_e E
  refine callVfv (wo := (wX7 cI cZ a v_pins v_bars v_taped v_lined r9.1 r9.2.1 v_name v_low v_high v_tape v_line v_imagePins v_imageBars v_imageName v_imageLow v_imageHigh v_isKept v_to v_carries v_seen v_rank v_one v_other v_thought v_gone v_tied v_part v_lack v_down v_parts v_lacks v_downs v_sort v_items v_item v_carried r9.2.2.1 r9.2.2.2)) h0 (c_X7_word l D cI cZ cS a v_pins v_bars v_taped v_lined v_at v_fault v_name v_low v_high v_tape v_line v_imagePins v_imageBars v_imageName v_imageLow v_imageHigh v_isKept v_to v_carries v_seen v_rank v_one v_other v_thought v_gone v_tied v_part v_lack v_down v_parts v_lacks v_downs v_sort v_items v_item v_carried v_first v_second r9 hF) (gV wq_922 wq_924 wp_52 wq_8 wq_925) hdX7_word ⟨Nat.le_of_ble_eq_true rfl, Nat.le_of_ble_eq_true rfl⟩ ⟨Nat.le_refl _, Nat.le_refl _⟩ hP hD hS hA 0 7 rfl rfl rfl hl.1 rfl (Nat.le_of_ble_eq_true rfl) dX7_newPin_1 (fun H locs hP hD hS => ?_)
  refine lv_aload_n hx hb dX7_newPin_4 rfl (lv_at hl 0 rfl) ?_
  refine gf_X7_219 h0 hP 0 rfl rfl dX7_newPin_5 ?_
  refine lv_if_ge (tgt := 33) hx hb dX7_newPin_8 (by decide) (fun c10 => ?_) (fun c10 => ?_)
  · have E := br_p E c10
    exact J33 _ _ _ _ _ _ _ _ _ E hP hD hS (lv_sub hl [0] rfl)
  · have E := br_n E c10
    refine lv_aload_n hx hb dX7_newPin_11 rfl (lv_at hl 0 rfl) ?_
    obtain ⟨r11, hF, E⟩ := bn_e E
    refine callVfi (wo := (wX7 cI cZ a v_pins v_bars v_taped v_lined r9.1 r9.2.1 v_name v_low v_high v_tape v_line v_imagePins v_imageBars v_imageName v_imageLow v_imageHigh v_isKept v_to v_carries v_seen v_rank v_one v_other v_thought v_gone v_tied v_part v_lack v_down v_parts v_lacks v_downs v_sort v_items v_item v_carried r9.2.2.1 r9.2.2.2)) h0 (c_X7_verb l D cI cZ cS a v_pins v_bars v_taped v_lined r9.1 r9.2.1 v_name v_low v_high v_tape v_line v_imagePins v_imageBars v_imageName v_imageLow v_imageHigh v_isKept v_to v_carries v_seen v_rank v_one v_other v_thought v_gone v_tied v_part v_lack v_down v_parts v_lacks v_downs v_sort v_items v_item v_carried r9.2.2.1 r9.2.2.2 r11 hF) (gV wq_934 wq_936 wp_55 wq_8 wq_937) hdX7_verb ⟨Nat.le_of_ble_eq_true rfl, Nat.le_of_ble_eq_true rfl⟩ ⟨Nat.le_refl _, Nat.le_refl _⟩ hP hD hS hA 0 7 rfl rfl rfl hl.1 rfl (Nat.le_of_ble_eq_true rfl) dX7_newPin_12 (fun H locs hP hD hS => ?_)
    refine lv_if_ge (tgt := 25) hx hb dX7_newPin_15 (by decide) (fun c12 => ?_) (fun c12 => ?_)
    · have E := br_p E c12
      exact J25 _ _ _ _ _ _ _ _ _ E hP hD hS (lv_sub hl [0] rfl)
    · have E := br_n E c12
      refine lv_aload_n hx hb dX7_newPin_18 rfl (lv_at hl 0 rfl) ?_
      obtain ⟨r13, hF, E⟩ := bn_e E
      refine callVfi (wo := (wX7 cI cZ a v_pins v_bars v_taped v_lined r9.1 r9.2.1 v_name v_low v_high v_tape v_line v_imagePins v_imageBars v_imageName v_imageLow v_imageHigh v_isKept v_to v_carries v_seen v_rank v_one v_other v_thought v_gone v_tied v_part v_lack v_down v_parts v_lacks v_downs v_sort v_items v_item v_carried r9.2.2.1 r9.2.2.2)) h0 (c_X7_whose l D cI cZ cS a v_pins v_bars v_taped v_lined r9.1 r9.2.1 v_name v_low v_high v_tape v_line v_imagePins v_imageBars v_imageName v_imageLow v_imageHigh v_isKept v_to v_carries v_seen v_rank v_one v_other v_thought v_gone v_tied v_part v_lack v_down v_parts v_lacks v_downs v_sort v_items v_item v_carried r9.2.2.1 r9.2.2.2 r13 hF) (gV wq_946 wq_948 wp_58 wq_8 wq_949) hdX7_whose ⟨Nat.le_of_ble_eq_true rfl, Nat.le_of_ble_eq_true rfl⟩ ⟨Nat.le_refl _, Nat.le_refl _⟩ hP hD hS hA 0 7 rfl rfl rfl hl.1 rfl (Nat.le_of_ble_eq_true rfl) dX7_newPin_19 (fun H locs hP hD hS => ?_)
      refine lv_if_lt (tgt := 33) hx hb dX7_newPin_22 (by decide) (fun c14 => ?_) (fun c14 => ?_)
      · have E := br_p E c14
        exact J33 _ _ _ _ _ _ _ _ _ E hP hD hS (lv_sub hl [0] rfl)
      · have E := br_n E c14
        exact J25 _ _ _ _ _ _ _ _ _ E hP hD hS (lv_sub hl [0] rfl)
theorem hdX7_toldOf : yX7_toldOf.cls = RX7 ∧ yX7_toldOf.cls ≠ "java/lang/invoke/MethodHandle" ∧ yX7_toldOf.cls ≠ "java/lang/invoke/VarHandle" ∧ (parseMethodDescriptor yX7_toldOf.desc).map (fun d => d.parameters.length) = some 1 := by decide +kernel
noncomputable def FX7_toldOf_b23 (p1 v_pins v_taped : Int32) (v_name v_tape : Nat → Int32)  (l2 l3 v_bars v_at v_fault : Int32) (v_low v_high : Nat → Int32) (v_first v_second : Int32) : Option (Int32 × Int32 × Int32 × Int32 × (Nat → Int32) × (Nat → Int32) × Int32 × Int32) := (if v_fault < 0 then (if p1 = 1 then ((FX7_bar l2 l3 v_pins v_bars v_low v_high).bind (fun r4 => (some (r4.1, r4.2.1, v_at, v_fault, r4.2.2.1, r4.2.2.2, v_first, v_second)))) else ((FX7_off l2 l3 v_pins v_bars v_low v_high).bind (fun r3 => (some (r3.1, r3.2.1, v_at, v_fault, r3.2.2.1, r3.2.2.2, v_first, v_second))))) else (some ((-1), v_bars, v_at, v_fault, v_low, v_high, v_first, v_second)))
noncomputable def FX7_toldOf (p1 : Int32) (v_pins v_bars v_taped v_at v_fault : Int32) (v_name v_low v_high v_tape : Nat → Int32) (v_first v_second : Int32) : Option (Int32 × Int32 × Int32 × Int32 × (Nat → Int32) × (Nat → Int32) × Int32 × Int32) := ((FX7_nameOf (-1) v_pins v_taped v_at v_fault v_name v_tape v_first v_second).bind (fun r5 => ((FX7_nameOf r5.1 v_pins v_taped r5.2.1 r5.2.2.1 v_name v_tape r5.2.2.2.1 r5.2.2.2.2).bind (fun r6 => (if 0 ≤ r6.2.2.1 then (FX7_toldOf_b23 p1 v_pins v_taped v_name v_tape  r5.1 r6.1 v_bars r6.2.1 r6.2.2.1 v_low v_high r6.2.2.2.1 r6.2.2.2.2) else ((FX7_ends v_taped r6.2.1 r6.2.2.1 v_tape).bind (fun r8 => (FX7_toldOf_b23 p1 v_pins v_taped v_name v_tape  r5.1 r6.1 v_bars r8.1 r8.2 v_low v_high r6.2.2.2.1 r6.2.2.2.2))))))))
set_option maxHeartbeats 4000000 in
set_option maxRecDepth 100000 in
theorem c_X7_toldOf (l : Launch) (D : va_G) (cI cZ cS : ClassId) (a : Nat → Nat) (v_pins v_bars v_taped v_lined v_at v_fault : Int32) (v_name v_low v_high v_tape v_line : Nat → Int32) (v_imagePins v_imageBars : Int32) (v_imageName v_imageLow v_imageHigh : Nat → Int32) (v_isKept : Int32) (v_to v_carries : Nat → Int32) (v_seen v_rank : Int32) (v_one v_other : Nat → Int32) (v_thought v_gone : Int32) (v_tied v_part v_lack v_down : Nat → Int32) (v_parts v_lacks v_downs : Int32) (v_sort v_items v_item v_carried : Nat → Int32) (v_first v_second : Int32) (p1 : Int32) (u : Int32 × Int32 × Int32 × Int32 × (Nat → Int32) × (Nat → Int32) × Int32 × Int32) (hF : FX7_toldOf p1 v_pins v_bars v_taped v_at v_fault v_name v_low v_high v_tape v_first v_second = some u) : MCi l D (tyL cI cZ cS) yX7_toldOf cX7_toldOf 4 (some .int) 4 89 [.ref (a 0), .int p1] (wX7 cI cZ a v_pins v_bars v_taped v_lined v_at v_fault v_name v_low v_high v_tape v_line v_imagePins v_imageBars v_imageName v_imageLow v_imageHigh v_isKept v_to v_carries v_seen v_rank v_one v_other v_thought v_gone v_tied v_part v_lack v_down v_parts v_lacks v_downs v_sort v_items v_item v_carried v_first v_second) (wX7 cI cZ a v_pins u.2.1 v_taped v_lined u.2.2.1 u.2.2.2.1 v_name u.2.2.2.2.1 u.2.2.2.2.2.1 v_tape v_line v_imagePins v_imageBars v_imageName v_imageLow v_imageHigh v_isKept v_to v_carries v_seen v_rank v_one v_other v_thought v_gone v_tied v_part v_lack v_down v_parts v_lacks v_downs v_sort v_items v_item v_carried u.2.2.2.2.2.2.1 u.2.2.2.2.2.2.2) u.1 := by
  refine MCi.mk (by decide) (Nat.le_of_ble_eq_true rfl) ?_
  intro p e s m args below meth c A ls Q h0 hP hD hA hS hl hfin0
  have hfin : ∀ (u' : Int32 × Int32 × Int32 × Int32 × (Nat → Int32) × (Nat → Int32) × Int32 × Int32), u' = u → ∀ (H : Heap) (locs : List Loc) (ls : Array Slot) (pc : Nat), va_P D vwCl (wX7 cI cZ a v_pins u'.2.1 v_taped v_lined u'.2.2.1 u'.2.2.2.1 v_name u'.2.2.2.2.1 u'.2.2.2.2.2.1 v_tape v_line v_imagePins v_imageBars v_imageName v_imageLow v_imageHigh v_isKept v_to v_carries v_seen v_rank v_one v_other v_thought v_gone v_tied v_part v_lack v_down v_parts v_lacks v_downs v_sort v_items v_item v_carried u'.2.2.2.2.2.2.1 u'.2.2.2.2.2.2.2) H → va_D A (wX7 cI cZ a v_pins u'.2.1 v_taped v_lined u'.2.2.1 u'.2.2.2.1 v_name u'.2.2.2.2.1 u'.2.2.2.2.2.1 v_tape v_line v_imagePins v_imageBars v_imageName v_imageLow v_imageHigh v_isKept v_to v_carries v_seen v_rank v_one v_other v_thought v_gone v_tied v_part v_lack v_down v_parts v_lacks v_downs v_sort v_items v_item v_carried u'.2.2.2.2.2.2.1 u'.2.2.2.2.2.2.2) → va_S A s.heap H locs → decode cX7_toldOf pc = .ok (.ireturn, 1) → W p l e (uR 4 89) s m args below meth c H locs 0 0 Q (F0 m pc ls [.int u'.1]) := by intro u' hu; subst hu; exact hfin0
  clear hfin0
  obtain ⟨hx, hb, hr, hlk, hml, hown, hts, hK⟩ := id h0
  have hl : lv_has ls 4 [(0, .ref (a 0)), (1, .int p1)] := hl
  have E := hF
  have J23 : ∀ (l2 l3 v_bars v_at v_fault : Int32) (v_low v_high : Nat → Int32) (v_first v_second : Int32) (H : Heap) (locs : List Loc) (ls : Array Slot), FX7_toldOf_b23 p1 v_pins v_taped v_name v_tape  l2 l3 v_bars v_at v_fault v_low v_high v_first v_second = some u → va_P D vwCl (wX7 cI cZ a v_pins v_bars v_taped v_lined v_at v_fault v_name v_low v_high v_tape v_line v_imagePins v_imageBars v_imageName v_imageLow v_imageHigh v_isKept v_to v_carries v_seen v_rank v_one v_other v_thought v_gone v_tied v_part v_lack v_down v_parts v_lacks v_downs v_sort v_items v_item v_carried v_first v_second) H → va_D A (wX7 cI cZ a v_pins v_bars v_taped v_lined v_at v_fault v_name v_low v_high v_tape v_line v_imagePins v_imageBars v_imageName v_imageLow v_imageHigh v_isKept v_to v_carries v_seen v_rank v_one v_other v_thought v_gone v_tied v_part v_lack v_down v_parts v_lacks v_downs v_sort v_items v_item v_carried v_first v_second) → va_S A s.heap H locs → lv_has ls 4 [(0, .ref (a 0)), (1, .int p1), (2, .int l2), (3, .int l3)] → W p l e (uR 4 89) s m args below meth c H locs 0 0 Q (F0 m 23 ls []) := by
    intro l2 l3 v_bars v_at v_fault v_low v_high v_first v_second H locs ls E hP hD hS hl
    refine lv_aload_n hx hb dX7_toldOf_23 rfl (lv_at hl 0 rfl) ?_
    refine gf_X7_219 h0 hP 0 rfl rfl dX7_toldOf_24 ?_
    refine lv_if_lt (tgt := 32) hx hb dX7_toldOf_27 (by decide) (fun c1 => ?_) (fun c1 => ?_)
    · have E := br_p E c1
      refine lv_iload_n hx hb dX7_toldOf_32 rfl (lv_at hl 1 rfl) ?_
      refine lv_iconst (v := 1) hx hb dX7_toldOf_33 (by decide) ?_
      refine lv_icmp_ne (tgt := 46) hx hb dX7_toldOf_34 (by decide) (fun c2 => ?_) (fun c2 => ?_)
      · have E := br_n E c2
        refine lv_aload_n hx hb dX7_toldOf_46 rfl (lv_at hl 0 rfl) ?_
        refine lv_iload_n hx hb dX7_toldOf_47 rfl (lv_at hl 2 rfl) ?_
        refine lv_iload_n hx hb dX7_toldOf_48 rfl (lv_at hl 3 rfl) ?_
        obtain ⟨r3, hF, E⟩ := bn_e E
        refine callVfi (wo := (wX7 cI cZ a v_pins r3.2.1 v_taped v_lined v_at v_fault v_name r3.2.2.1 r3.2.2.2 v_tape v_line v_imagePins v_imageBars v_imageName v_imageLow v_imageHigh v_isKept v_to v_carries v_seen v_rank v_one v_other v_thought v_gone v_tied v_part v_lack v_down v_parts v_lacks v_downs v_sort v_items v_item v_carried v_first v_second)) h0 (c_X7_off l D cI cZ cS a v_pins v_bars v_taped v_lined v_at v_fault v_name v_low v_high v_tape v_line v_imagePins v_imageBars v_imageName v_imageLow v_imageHigh v_isKept v_to v_carries v_seen v_rank v_one v_other v_thought v_gone v_tied v_part v_lack v_down v_parts v_lacks v_downs v_sort v_items v_item v_carried v_first v_second l2 l3 r3 hF) (gV wq_963 wq_744 wq_745 wq_8 wq_746) hdX7_off ⟨Nat.le_of_ble_eq_true rfl, Nat.le_of_ble_eq_true rfl⟩ ⟨Nat.le_refl _, Nat.le_refl _⟩ hP hD hS hA 0 7 rfl rfl rfl hl.1 rfl (Nat.le_of_ble_eq_true rfl) dX7_toldOf_49 (fun H locs hP hD hS => ?_)
        exact hfin _ (Option.some.inj E) _ _ _ _ hP hD hS dX7_toldOf_52
      · have E := br_p E c2
        refine lv_aload_n hx hb dX7_toldOf_37 rfl (lv_at hl 0 rfl) ?_
        refine lv_iload_n hx hb dX7_toldOf_38 rfl (lv_at hl 2 rfl) ?_
        refine lv_iload_n hx hb dX7_toldOf_39 rfl (lv_at hl 3 rfl) ?_
        obtain ⟨r4, hF, E⟩ := bn_e E
        refine callVfi (wo := (wX7 cI cZ a v_pins r4.2.1 v_taped v_lined v_at v_fault v_name r4.2.2.1 r4.2.2.2 v_tape v_line v_imagePins v_imageBars v_imageName v_imageLow v_imageHigh v_isKept v_to v_carries v_seen v_rank v_one v_other v_thought v_gone v_tied v_part v_lack v_down v_parts v_lacks v_downs v_sort v_items v_item v_carried v_first v_second)) h0 (c_X7_bar l D cI cZ cS a v_pins v_bars v_taped v_lined v_at v_fault v_name v_low v_high v_tape v_line v_imagePins v_imageBars v_imageName v_imageLow v_imageHigh v_isKept v_to v_carries v_seen v_rank v_one v_other v_thought v_gone v_tied v_part v_lack v_down v_parts v_lacks v_downs v_sort v_items v_item v_carried v_first v_second l2 l3 r4 hF) (gV wq_962 wq_723 wq_724 wq_8 wq_725) hdX7_bar ⟨Nat.le_of_ble_eq_true rfl, Nat.le_of_ble_eq_true rfl⟩ ⟨Nat.le_refl _, Nat.le_refl _⟩ hP hD hS hA 0 7 rfl rfl rfl hl.1 rfl (Nat.le_of_ble_eq_true rfl) dX7_toldOf_40 (fun H locs hP hD hS => ?_)
        refine lv_goto (tgt := 52) hx hb dX7_toldOf_43 (by decide) ?_
        exact hfin _ (Option.some.inj E) _ _ _ _ hP hD hS dX7_toldOf_52
    · have E := br_n E c1
      refine lv_iconst (v := (-1)) hx hb dX7_toldOf_30 (by decide) ?_
      exact hfin _ (Option.some.inj E) _ _ _ _ hP hD hS dX7_toldOf_31
  refine lv_aload_n hx hb dX7_toldOf_0 rfl (lv_at hl 0 rfl) ?_
  refine lv_iconst (v := (-1)) hx hb dX7_toldOf_1 (by decide) ?_
  obtain ⟨r5, hF, E⟩ := bn_e E
  refine callVfi (wo := (wX7 cI cZ a v_pins v_bars v_taped v_lined r5.2.1 r5.2.2.1 v_name v_low v_high v_tape v_line v_imagePins v_imageBars v_imageName v_imageLow v_imageHigh v_isKept v_to v_carries v_seen v_rank v_one v_other v_thought v_gone v_tied v_part v_lack v_down v_parts v_lacks v_downs v_sort v_items v_item v_carried r5.2.2.2.1 r5.2.2.2.2)) h0 (c_X7_nameOf l D cI cZ cS a v_pins v_bars v_taped v_lined v_at v_fault v_name v_low v_high v_tape v_line v_imagePins v_imageBars v_imageName v_imageLow v_imageHigh v_isKept v_to v_carries v_seen v_rank v_one v_other v_thought v_gone v_tied v_part v_lack v_down v_parts v_lacks v_downs v_sort v_items v_item v_carried v_first v_second (-1) r5 hF) (gV wq_958 wq_960 wp_61 wq_8 wq_961) hdX7_nameOf ⟨Nat.le_of_ble_eq_true rfl, Nat.le_of_ble_eq_true rfl⟩ ⟨Nat.le_refl _, Nat.le_refl _⟩ hP hD hS hA 0 7 rfl rfl rfl hl.1 rfl (Nat.le_of_ble_eq_true rfl) dX7_toldOf_2 (fun H locs hP hD hS => ?_)
  refine lv_istore_n (lv' := [(2, .int r5.1), (0, .ref (a 0)), (1, .int p1)]) hx hb dX7_toldOf_5 rfl hl (by decide) rfl (fun ls hl => ?_)
  refine lv_aload_n hx hb dX7_toldOf_6 rfl (lv_at hl 1 rfl) ?_
  refine lv_iload_n hx hb dX7_toldOf_7 rfl (lv_at hl 0 rfl) ?_
  obtain ⟨r6, hF, E⟩ := bn_e E
  refine callVfi (wo := (wX7 cI cZ a v_pins v_bars v_taped v_lined r6.2.1 r6.2.2.1 v_name v_low v_high v_tape v_line v_imagePins v_imageBars v_imageName v_imageLow v_imageHigh v_isKept v_to v_carries v_seen v_rank v_one v_other v_thought v_gone v_tied v_part v_lack v_down v_parts v_lacks v_downs v_sort v_items v_item v_carried r6.2.2.2.1 r6.2.2.2.2)) h0 (c_X7_nameOf l D cI cZ cS a v_pins v_bars v_taped v_lined r5.2.1 r5.2.2.1 v_name v_low v_high v_tape v_line v_imagePins v_imageBars v_imageName v_imageLow v_imageHigh v_isKept v_to v_carries v_seen v_rank v_one v_other v_thought v_gone v_tied v_part v_lack v_down v_parts v_lacks v_downs v_sort v_items v_item v_carried r5.2.2.2.1 r5.2.2.2.2 r5.1 r6 hF) (gV wq_958 wq_960 wp_61 wq_8 wq_961) hdX7_nameOf ⟨Nat.le_of_ble_eq_true rfl, Nat.le_of_ble_eq_true rfl⟩ ⟨Nat.le_refl _, Nat.le_refl _⟩ hP hD hS hA 0 7 rfl rfl rfl hl.1 rfl (Nat.le_of_ble_eq_true rfl) dX7_toldOf_8 (fun H locs hP hD hS => ?_)
  refine lv_istore_n (lv' := [(3, .int r6.1), (2, .int r5.1), (0, .ref (a 0)), (1, .int p1)]) hx hb dX7_toldOf_11 rfl hl (by decide) rfl (fun ls hl => ?_)
  refine lv_aload_n hx hb dX7_toldOf_12 rfl (lv_at hl 2 rfl) ?_
  refine gf_X7_219 h0 hP 0 rfl rfl dX7_toldOf_13 ?_
  refine lv_if_ge (tgt := 23) hx hb dX7_toldOf_16 (by decide) (fun c7 => ?_) (fun c7 => ?_)
  · have E := br_p E c7
    exact J23 _ _ _ _ _ _ _ _ _ _ _ _ E hP hD hS (lv_sub hl [2, 3, 1, 0] rfl)
  · have E := br_n E c7
    refine lv_aload_n hx hb dX7_toldOf_19 rfl (lv_at hl 2 rfl) ?_
    obtain ⟨r8, hF, E⟩ := bn_e E
    refine callVfv (wo := (wX7 cI cZ a v_pins v_bars v_taped v_lined r8.1 r8.2 v_name v_low v_high v_tape v_line v_imagePins v_imageBars v_imageName v_imageLow v_imageHigh v_isKept v_to v_carries v_seen v_rank v_one v_other v_thought v_gone v_tied v_part v_lack v_down v_parts v_lacks v_downs v_sort v_items v_item v_carried r6.2.2.2.1 r6.2.2.2.2)) h0 (c_X7_ends l D cI cZ cS a v_pins v_bars v_taped v_lined r6.2.1 r6.2.2.1 v_name v_low v_high v_tape v_line v_imagePins v_imageBars v_imageName v_imageLow v_imageHigh v_isKept v_to v_carries v_seen v_rank v_one v_other v_thought v_gone v_tied v_part v_lack v_down v_parts v_lacks v_downs v_sort v_items v_item v_carried r6.2.2.2.1 r6.2.2.2.2 r8 hF) (gV wq_950 wq_952 wp_59 wq_8 wq_953) hdX7_ends ⟨Nat.le_of_ble_eq_true rfl, Nat.le_of_ble_eq_true rfl⟩ ⟨Nat.le_refl _, Nat.le_refl _⟩ hP hD hS hA 0 7 rfl rfl rfl hl.1 rfl (Nat.le_of_ble_eq_true rfl) dX7_toldOf_20 (fun H locs hP hD hS => ?_)
    exact J23 _ _ _ _ _ _ _ _ _ _ _ _ E hP hD hS (lv_sub hl [2, 3, 1, 0] rfl)
theorem hdX7_text : yX7_text.cls = RX7 ∧ yX7_text.cls ≠ "java/lang/invoke/MethodHandle" ∧ yX7_text.cls ≠ "java/lang/invoke/VarHandle" ∧ (parseMethodDescriptor yX7_text.desc).map (fun d => d.parameters.length) = some 0 := by decide +kernel
noncomputable def FX7_text_b69 (v_tape : Nat → Int32)  (t0 v_pins v_bars v_taped v_at v_fault : Int32) (v_name v_low v_high : Nat → Int32) (v_first v_second : Int32) : Option (Int32 × Int32 × Int32 × Int32 × Int32 × Int32 × (Nat → Int32) × (Nat → Int32) × (Nat → Int32) × Int32 × Int32) := (if v_fault < 0 then (some (t0, v_pins, v_bars, 0, v_at, v_fault, v_name, v_low, v_high, v_first, v_second)) else (some (((-100) - v_fault), v_pins, v_bars, 0, v_at, v_fault, v_name, v_low, v_high, v_first, v_second)))
noncomputable def FX7_text_b42 (v_tape : Nat → Int32)  (l1 v_pins v_bars v_taped v_at v_fault : Int32) (v_name v_low v_high : Nat → Int32) (v_first v_second : Int32) : Option (Int32 × Int32 × Int32 × Int32 × Int32 × Int32 × (Nat → Int32) × (Nat → Int32) × (Nat → Int32) × Int32 × Int32) := (if v_fault < 0 then (if l1 = 0 then ((FX7_newPin v_pins v_taped v_at v_fault v_name v_tape v_first v_second).bind (fun r5 => (FX7_text_b69 v_tape  r5.1 r5.2.1 v_bars v_taped r5.2.2.1 r5.2.2.2.1 r5.2.2.2.2.1 v_low v_high r5.2.2.2.2.2.1 r5.2.2.2.2.2.2))) else ((FX7_toldOf l1 v_pins v_bars v_taped v_at v_fault v_name v_low v_high v_tape v_first v_second).bind (fun r4 => (FX7_text_b69 v_tape  r4.1 v_pins r4.2.1 v_taped r4.2.2.1 r4.2.2.2.1 v_name r4.2.2.2.2.1 r4.2.2.2.2.2.1 r4.2.2.2.2.2.2.1 r4.2.2.2.2.2.2.2)))) else (FX7_text_b69 v_tape  (-1) v_pins v_bars v_taped v_at v_fault v_name v_low v_high v_first v_second))
noncomputable def FX7_text_b29 (v_tape : Nat → Int32)  (t0 v_pins v_bars v_taped v_at v_fault : Int32) (v_name v_low v_high : Nat → Int32) (v_first v_second : Int32) : Option (Int32 × Int32 × Int32 × Int32 × Int32 × Int32 × (Nat → Int32) × (Nat → Int32) × (Nat → Int32) × Int32 × Int32) := (if 0 ≤ t0 then (FX7_text_b42 v_tape  t0 v_pins v_bars v_taped v_at v_fault v_name v_low v_high v_first v_second) else ((FX7_fails v_first v_fault).bind (fun r7 => (FX7_text_b42 v_tape  t0 v_pins v_bars v_taped v_at r7 v_name v_low v_high v_first v_second))))
noncomputable def FX7_text (v_pins v_bars v_taped v_at v_fault : Int32) (v_name v_low v_high v_tape : Nat → Int32) (v_first v_second : Int32) : Option (Int32 × Int32 × Int32 × Int32 × Int32 × Int32 × (Nat → Int32) × (Nat → Int32) × (Nat → Int32) × Int32 × Int32) := ((FX7_word v_taped 0 (-1) v_tape v_first v_second).bind (fun r8 => (if 0 ≤ r8.2.1 then (FX7_text_b29 v_tape  (-1) v_pins v_bars v_taped r8.1 r8.2.1 v_name v_low v_high r8.2.2.1 r8.2.2.2) else ((FX7_verb v_tape r8.2.2.1 r8.2.2.2).bind (fun r10 => (FX7_text_b29 v_tape  r10 v_pins v_bars v_taped r8.1 r8.2.1 v_name v_low v_high r8.2.2.1 r8.2.2.2))))))
set_option maxHeartbeats 4000000 in
set_option maxRecDepth 100000 in
theorem c_X7_text (l : Launch) (D : va_G) (cI cZ cS : ClassId) (a : Nat → Nat) (v_pins v_bars v_taped v_lined v_at v_fault : Int32) (v_name v_low v_high v_tape v_line : Nat → Int32) (v_imagePins v_imageBars : Int32) (v_imageName v_imageLow v_imageHigh : Nat → Int32) (v_isKept : Int32) (v_to v_carries : Nat → Int32) (v_seen v_rank : Int32) (v_one v_other : Nat → Int32) (v_thought v_gone : Int32) (v_tied v_part v_lack v_down : Nat → Int32) (v_parts v_lacks v_downs : Int32) (v_sort v_items v_item v_carried : Nat → Int32) (v_first v_second : Int32)  (u : Int32 × Int32 × Int32 × Int32 × Int32 × Int32 × (Nat → Int32) × (Nat → Int32) × (Nat → Int32) × Int32 × Int32) (hF : FX7_text v_pins v_bars v_taped v_at v_fault v_name v_low v_high v_tape v_first v_second = some u) : MCi l D (tyL cI cZ cS) yX7_text cX7_text 3 (some .int) 5 112 [.ref (a 0)] (wX7 cI cZ a v_pins v_bars v_taped v_lined v_at v_fault v_name v_low v_high v_tape v_line v_imagePins v_imageBars v_imageName v_imageLow v_imageHigh v_isKept v_to v_carries v_seen v_rank v_one v_other v_thought v_gone v_tied v_part v_lack v_down v_parts v_lacks v_downs v_sort v_items v_item v_carried v_first v_second) (wX7 cI cZ a u.2.1 u.2.2.1 u.2.2.2.1 v_lined u.2.2.2.2.1 u.2.2.2.2.2.1 u.2.2.2.2.2.2.1 u.2.2.2.2.2.2.2.1 u.2.2.2.2.2.2.2.2.1 v_tape v_line v_imagePins v_imageBars v_imageName v_imageLow v_imageHigh v_isKept v_to v_carries v_seen v_rank v_one v_other v_thought v_gone v_tied v_part v_lack v_down v_parts v_lacks v_downs v_sort v_items v_item v_carried u.2.2.2.2.2.2.2.2.2.1 u.2.2.2.2.2.2.2.2.2.2) u.1 := by
  refine MCi.mk (by decide) (Nat.le_of_ble_eq_true rfl) ?_
  intro p e s m args below meth c A ls Q h0 hP hD hA hS hl hfin0
  have hfin : ∀ (u' : Int32 × Int32 × Int32 × Int32 × Int32 × Int32 × (Nat → Int32) × (Nat → Int32) × (Nat → Int32) × Int32 × Int32), u' = u → ∀ (H : Heap) (locs : List Loc) (ls : Array Slot) (pc : Nat), va_P D vwCl (wX7 cI cZ a u'.2.1 u'.2.2.1 u'.2.2.2.1 v_lined u'.2.2.2.2.1 u'.2.2.2.2.2.1 u'.2.2.2.2.2.2.1 u'.2.2.2.2.2.2.2.1 u'.2.2.2.2.2.2.2.2.1 v_tape v_line v_imagePins v_imageBars v_imageName v_imageLow v_imageHigh v_isKept v_to v_carries v_seen v_rank v_one v_other v_thought v_gone v_tied v_part v_lack v_down v_parts v_lacks v_downs v_sort v_items v_item v_carried u'.2.2.2.2.2.2.2.2.2.1 u'.2.2.2.2.2.2.2.2.2.2) H → va_D A (wX7 cI cZ a u'.2.1 u'.2.2.1 u'.2.2.2.1 v_lined u'.2.2.2.2.1 u'.2.2.2.2.2.1 u'.2.2.2.2.2.2.1 u'.2.2.2.2.2.2.2.1 u'.2.2.2.2.2.2.2.2.1 v_tape v_line v_imagePins v_imageBars v_imageName v_imageLow v_imageHigh v_isKept v_to v_carries v_seen v_rank v_one v_other v_thought v_gone v_tied v_part v_lack v_down v_parts v_lacks v_downs v_sort v_items v_item v_carried u'.2.2.2.2.2.2.2.2.2.1 u'.2.2.2.2.2.2.2.2.2.2) → va_S A s.heap H locs → decode cX7_text pc = .ok (.ireturn, 1) → W p l e (uR 5 112) s m args below meth c H locs 0 0 Q (F0 m pc ls [.int u'.1]) := by intro u' hu; subst hu; exact hfin0
  clear hfin0
  obtain ⟨hx, hb, hr, hlk, hml, hown, hts, hK⟩ := id h0
  have hl : lv_has ls 3 [(0, .ref (a 0))] := hl
  have E := hF
  have J69 : ∀ (t0 v_pins v_bars v_taped v_at v_fault : Int32) (v_name v_low v_high : Nat → Int32) (v_first v_second : Int32) (H : Heap) (locs : List Loc) (ls : Array Slot), FX7_text_b69 v_tape  t0 v_pins v_bars v_taped v_at v_fault v_name v_low v_high v_first v_second = some u → va_P D vwCl (wX7 cI cZ a v_pins v_bars v_taped v_lined v_at v_fault v_name v_low v_high v_tape v_line v_imagePins v_imageBars v_imageName v_imageLow v_imageHigh v_isKept v_to v_carries v_seen v_rank v_one v_other v_thought v_gone v_tied v_part v_lack v_down v_parts v_lacks v_downs v_sort v_items v_item v_carried v_first v_second) H → va_D A (wX7 cI cZ a v_pins v_bars v_taped v_lined v_at v_fault v_name v_low v_high v_tape v_line v_imagePins v_imageBars v_imageName v_imageLow v_imageHigh v_isKept v_to v_carries v_seen v_rank v_one v_other v_thought v_gone v_tied v_part v_lack v_down v_parts v_lacks v_downs v_sort v_items v_item v_carried v_first v_second) → va_S A s.heap H locs → lv_has ls 3 [(0, .ref (a 0))] → W p l e (uR 5 112) s m args below meth c H locs 0 0 Q (F0 m 69 ls [.int t0]) := by
    intro t0 v_pins v_bars v_taped v_at v_fault v_name v_low v_high v_first v_second H locs ls E hP hD hS hl
    refine lv_istore_n (lv' := [(2, .int t0), (0, .ref (a 0))]) hx hb dX7_text_69 rfl hl (by decide) rfl (fun ls hl => ?_)
    refine lv_aload_n hx hb dX7_text_70 rfl (lv_at hl 1 rfl) ?_
    refine lv_iconst (v := 0) hx hb dX7_text_71 (by decide) ?_
    refine pf_X7_155 (wo := (wX7 cI cZ a v_pins v_bars 0 v_lined v_at v_fault v_name v_low v_high v_tape v_line v_imagePins v_imageBars v_imageName v_imageLow v_imageHigh v_isKept v_to v_carries v_seen v_rank v_one v_other v_thought v_gone v_tied v_part v_lack v_down v_parts v_lacks v_downs v_sort v_items v_item v_carried v_first v_second)) h0 hP hD hS 0 rfl (Nat.le_of_ble_eq_true rfl) rfl dX7_text_72 (fun H locs hP hD hS => ?_)
    refine lv_aload_n hx hb dX7_text_75 rfl (lv_at hl 1 rfl) ?_
    refine gf_X7_219 h0 hP 0 rfl rfl dX7_text_76 ?_
    refine lv_if_lt (tgt := 92) hx hb dX7_text_79 (by decide) (fun c1 => ?_) (fun c1 => ?_)
    · have E := br_p E c1
      refine lv_iload_n hx hb dX7_text_92 rfl (lv_at hl 0 rfl) ?_
      exact hfin _ (Option.some.inj E) _ _ _ _ hP hD hS dX7_text_93
    · have E := br_n E c1
      refine lv_bipush (v := (-100)) hx hb dX7_text_82 (by decide) ?_
      refine lv_aload_n hx hb dX7_text_84 rfl (lv_at hl 1 rfl) ?_
      refine gf_X7_219 h0 hP 0 rfl rfl dX7_text_85 ?_
      refine lv_isub hx hb dX7_text_88 ?_
      refine lv_goto (tgt := 93) hx hb dX7_text_89 (by decide) ?_
      exact hfin _ (Option.some.inj E) _ _ _ _ hP hD hS dX7_text_93
  have J42 : ∀ (l1 v_pins v_bars v_taped v_at v_fault : Int32) (v_name v_low v_high : Nat → Int32) (v_first v_second : Int32) (H : Heap) (locs : List Loc) (ls : Array Slot), FX7_text_b42 v_tape  l1 v_pins v_bars v_taped v_at v_fault v_name v_low v_high v_first v_second = some u → va_P D vwCl (wX7 cI cZ a v_pins v_bars v_taped v_lined v_at v_fault v_name v_low v_high v_tape v_line v_imagePins v_imageBars v_imageName v_imageLow v_imageHigh v_isKept v_to v_carries v_seen v_rank v_one v_other v_thought v_gone v_tied v_part v_lack v_down v_parts v_lacks v_downs v_sort v_items v_item v_carried v_first v_second) H → va_D A (wX7 cI cZ a v_pins v_bars v_taped v_lined v_at v_fault v_name v_low v_high v_tape v_line v_imagePins v_imageBars v_imageName v_imageLow v_imageHigh v_isKept v_to v_carries v_seen v_rank v_one v_other v_thought v_gone v_tied v_part v_lack v_down v_parts v_lacks v_downs v_sort v_items v_item v_carried v_first v_second) → va_S A s.heap H locs → lv_has ls 3 [(0, .ref (a 0)), (1, .int l1)] → W p l e (uR 5 112) s m args below meth c H locs 0 0 Q (F0 m 42 ls []) := by
    intro l1 v_pins v_bars v_taped v_at v_fault v_name v_low v_high v_first v_second H locs ls E hP hD hS hl
    refine lv_aload_n hx hb dX7_text_42 rfl (lv_at hl 0 rfl) ?_
    refine gf_X7_219 h0 hP 0 rfl rfl dX7_text_43 ?_
    refine lv_if_lt (tgt := 53) hx hb dX7_text_46 (by decide) (fun c2 => ?_) (fun c2 => ?_)
    · have E := br_p E c2
      refine lv_iload_n hx hb dX7_text_53 rfl (lv_at hl 1 rfl) ?_
      refine lv_if_ne (tgt := 64) hx hb dX7_text_54 (by decide) (fun c3 => ?_) (fun c3 => ?_)
      · have E := br_n E c3
        refine lv_aload_n hx hb dX7_text_64 rfl (lv_at hl 0 rfl) ?_
        refine lv_iload_n hx hb dX7_text_65 rfl (lv_at hl 1 rfl) ?_
        obtain ⟨r4, hF, E⟩ := bn_e E
        refine callVfi (wo := (wX7 cI cZ a v_pins r4.2.1 v_taped v_lined r4.2.2.1 r4.2.2.2.1 v_name r4.2.2.2.2.1 r4.2.2.2.2.2.1 v_tape v_line v_imagePins v_imageBars v_imageName v_imageLow v_imageHigh v_isKept v_to v_carries v_seen v_rank v_one v_other v_thought v_gone v_tied v_part v_lack v_down v_parts v_lacks v_downs v_sort v_items v_item v_carried r4.2.2.2.2.2.2.1 r4.2.2.2.2.2.2.2)) h0 (c_X7_toldOf l D cI cZ cS a v_pins v_bars v_taped v_lined v_at v_fault v_name v_low v_high v_tape v_line v_imagePins v_imageBars v_imageName v_imageLow v_imageHigh v_isKept v_to v_carries v_seen v_rank v_one v_other v_thought v_gone v_tied v_part v_lack v_down v_parts v_lacks v_downs v_sort v_items v_item v_carried v_first v_second l1 r4 hF) (gV wq_954 wq_956 wp_60 wq_8 wq_957) hdX7_toldOf ⟨Nat.le_of_ble_eq_true rfl, Nat.le_of_ble_eq_true rfl⟩ ⟨Nat.le_refl _, Nat.le_refl _⟩ hP hD hS hA 0 7 rfl rfl rfl hl.1 rfl (Nat.le_of_ble_eq_true rfl) dX7_text_66 (fun H locs hP hD hS => ?_)
        exact J69 _ _ _ _ _ _ _ _ _ _ _ _ _ _ E hP hD hS (lv_sub hl [0] rfl)
      · have E := br_p E c3
        refine lv_aload_n hx hb dX7_text_57 rfl (lv_at hl 0 rfl) ?_
        obtain ⟨r5, hF, E⟩ := bn_e E
        refine callVfi (wo := (wX7 cI cZ a r5.2.1 v_bars v_taped v_lined r5.2.2.1 r5.2.2.2.1 r5.2.2.2.2.1 v_low v_high v_tape v_line v_imagePins v_imageBars v_imageName v_imageLow v_imageHigh v_isKept v_to v_carries v_seen v_rank v_one v_other v_thought v_gone v_tied v_part v_lack v_down v_parts v_lacks v_downs v_sort v_items v_item v_carried r5.2.2.2.2.2.1 r5.2.2.2.2.2.2)) h0 (c_X7_newPin l D cI cZ cS a v_pins v_bars v_taped v_lined v_at v_fault v_name v_low v_high v_tape v_line v_imagePins v_imageBars v_imageName v_imageLow v_imageHigh v_isKept v_to v_carries v_seen v_rank v_one v_other v_thought v_gone v_tied v_part v_lack v_down v_parts v_lacks v_downs v_sort v_items v_item v_carried v_first v_second r5 hF) (gV wq_942 wq_944 wp_57 wq_8 wq_945) hdX7_newPin ⟨Nat.le_of_ble_eq_true rfl, Nat.le_of_ble_eq_true rfl⟩ ⟨Nat.le_refl _, Nat.le_refl _⟩ hP hD hS hA 0 7 rfl rfl rfl hl.1 rfl (Nat.le_of_ble_eq_true rfl) dX7_text_58 (fun H locs hP hD hS => ?_)
        refine lv_goto (tgt := 69) hx hb dX7_text_61 (by decide) ?_
        exact J69 _ _ _ _ _ _ _ _ _ _ _ _ _ _ E hP hD hS (lv_sub hl [0] rfl)
    · have E := br_n E c2
      refine lv_iconst (v := (-1)) hx hb dX7_text_49 (by decide) ?_
      refine lv_goto (tgt := 69) hx hb dX7_text_50 (by decide) ?_
      exact J69 _ _ _ _ _ _ _ _ _ _ _ _ _ _ E hP hD hS (lv_sub hl [0] rfl)
  have J29 : ∀ (t0 v_pins v_bars v_taped v_at v_fault : Int32) (v_name v_low v_high : Nat → Int32) (v_first v_second : Int32) (H : Heap) (locs : List Loc) (ls : Array Slot), FX7_text_b29 v_tape  t0 v_pins v_bars v_taped v_at v_fault v_name v_low v_high v_first v_second = some u → va_P D vwCl (wX7 cI cZ a v_pins v_bars v_taped v_lined v_at v_fault v_name v_low v_high v_tape v_line v_imagePins v_imageBars v_imageName v_imageLow v_imageHigh v_isKept v_to v_carries v_seen v_rank v_one v_other v_thought v_gone v_tied v_part v_lack v_down v_parts v_lacks v_downs v_sort v_items v_item v_carried v_first v_second) H → va_D A (wX7 cI cZ a v_pins v_bars v_taped v_lined v_at v_fault v_name v_low v_high v_tape v_line v_imagePins v_imageBars v_imageName v_imageLow v_imageHigh v_isKept v_to v_carries v_seen v_rank v_one v_other v_thought v_gone v_tied v_part v_lack v_down v_parts v_lacks v_downs v_sort v_items v_item v_carried v_first v_second) → va_S A s.heap H locs → lv_has ls 3 [(0, .ref (a 0))] → W p l e (uR 5 112) s m args below meth c H locs 0 0 Q (F0 m 29 ls [.int t0]) := by
    intro t0 v_pins v_bars v_taped v_at v_fault v_name v_low v_high v_first v_second H locs ls E hP hD hS hl
    refine lv_istore_n (lv' := [(1, .int t0), (0, .ref (a 0))]) hx hb dX7_text_29 rfl hl (by decide) rfl (fun ls hl => ?_)
    refine lv_iload_n hx hb dX7_text_30 rfl (lv_at hl 0 rfl) ?_
    refine lv_if_ge (tgt := 42) hx hb dX7_text_31 (by decide) (fun c6 => ?_) (fun c6 => ?_)
    · have E := br_p E c6
      exact J42 _ _ _ _ _ _ _ _ _ _ _ _ _ _ E hP hD hS (lv_sub hl [1, 0] rfl)
    · have E := br_n E c6
      refine lv_aload_n hx hb dX7_text_34 rfl (lv_at hl 1 rfl) ?_
      refine lv_aload_n hx hb dX7_text_35 rfl (lv_at hl 1 rfl) ?_
      refine gf_X7_225 h0 hP 0 rfl rfl dX7_text_36 ?_
      obtain ⟨r7, hF, E⟩ := bn_e E
      refine callVfv (wo := (wX7 cI cZ a v_pins v_bars v_taped v_lined v_at r7 v_name v_low v_high v_tape v_line v_imagePins v_imageBars v_imageName v_imageLow v_imageHigh v_isKept v_to v_carries v_seen v_rank v_one v_other v_thought v_gone v_tied v_part v_lack v_down v_parts v_lacks v_downs v_sort v_items v_item v_carried v_first v_second)) h0 (c_X7_fails l D cI cZ cS a v_pins v_bars v_taped v_lined v_at v_fault v_name v_low v_high v_tape v_line v_imagePins v_imageBars v_imageName v_imageLow v_imageHigh v_isKept v_to v_carries v_seen v_rank v_one v_other v_thought v_gone v_tied v_part v_lack v_down v_parts v_lacks v_downs v_sort v_items v_item v_carried v_first v_second v_first r7 hF) (gV wq_930 wq_932 wp_54 wq_8 wq_933) hdX7_fails ⟨Nat.le_of_ble_eq_true rfl, Nat.le_of_ble_eq_true rfl⟩ ⟨Nat.le_refl _, Nat.le_refl _⟩ hP hD hS hA 0 7 rfl rfl rfl hl.1 rfl (Nat.le_of_ble_eq_true rfl) dX7_text_39 (fun H locs hP hD hS => ?_)
      exact J42 _ _ _ _ _ _ _ _ _ _ _ _ _ _ E hP hD hS (lv_sub hl [1, 0] rfl)
  refine lv_aload_n hx hb dX7_text_0 rfl (lv_at hl 0 rfl) ?_
  refine lv_iconst (v := 0) hx hb dX7_text_1 (by decide) ?_
  refine pf_X7_222 (wo := (wX7 cI cZ a v_pins v_bars v_taped v_lined 0 v_fault v_name v_low v_high v_tape v_line v_imagePins v_imageBars v_imageName v_imageLow v_imageHigh v_isKept v_to v_carries v_seen v_rank v_one v_other v_thought v_gone v_tied v_part v_lack v_down v_parts v_lacks v_downs v_sort v_items v_item v_carried v_first v_second)) h0 hP hD hS 0 rfl (Nat.le_of_ble_eq_true rfl) rfl dX7_text_2 (fun H locs hP hD hS => ?_)
  refine lv_aload_n hx hb dX7_text_5 rfl (lv_at hl 0 rfl) ?_
  refine lv_iconst (v := (-1)) hx hb dX7_text_6 (by decide) ?_
  refine pf_X7_219 (wo := (wX7 cI cZ a v_pins v_bars v_taped v_lined 0 (-1) v_name v_low v_high v_tape v_line v_imagePins v_imageBars v_imageName v_imageLow v_imageHigh v_isKept v_to v_carries v_seen v_rank v_one v_other v_thought v_gone v_tied v_part v_lack v_down v_parts v_lacks v_downs v_sort v_items v_item v_carried v_first v_second)) h0 hP hD hS 0 rfl (Nat.le_of_ble_eq_true rfl) rfl dX7_text_7 (fun H locs hP hD hS => ?_)
  refine lv_aload_n hx hb dX7_text_10 rfl (lv_at hl 0 rfl) ?_
  obtain ⟨r8, hF, E⟩ := bn_e E
  refine callVfv (wo := (wX7 cI cZ a v_pins v_bars v_taped v_lined r8.1 r8.2.1 v_name v_low v_high v_tape v_line v_imagePins v_imageBars v_imageName v_imageLow v_imageHigh v_isKept v_to v_carries v_seen v_rank v_one v_other v_thought v_gone v_tied v_part v_lack v_down v_parts v_lacks v_downs v_sort v_items v_item v_carried r8.2.2.1 r8.2.2.2)) h0 (c_X7_word l D cI cZ cS a v_pins v_bars v_taped v_lined 0 (-1) v_name v_low v_high v_tape v_line v_imagePins v_imageBars v_imageName v_imageLow v_imageHigh v_isKept v_to v_carries v_seen v_rank v_one v_other v_thought v_gone v_tied v_part v_lack v_down v_parts v_lacks v_downs v_sort v_items v_item v_carried v_first v_second r8 hF) (gV wq_922 wq_924 wp_52 wq_8 wq_925) hdX7_word ⟨Nat.le_of_ble_eq_true rfl, Nat.le_of_ble_eq_true rfl⟩ ⟨Nat.le_refl _, Nat.le_refl _⟩ hP hD hS hA 0 7 rfl rfl rfl hl.1 rfl (Nat.le_of_ble_eq_true rfl) dX7_text_11 (fun H locs hP hD hS => ?_)
  refine lv_aload_n hx hb dX7_text_14 rfl (lv_at hl 0 rfl) ?_
  refine gf_X7_219 h0 hP 0 rfl rfl dX7_text_15 ?_
  refine lv_if_ge (tgt := 28) hx hb dX7_text_18 (by decide) (fun c9 => ?_) (fun c9 => ?_)
  · have E := br_p E c9
    refine lv_iconst (v := (-1)) hx hb dX7_text_28 (by decide) ?_
    exact J29 _ _ _ _ _ _ _ _ _ _ _ _ _ _ E hP hD hS (lv_sub hl [0] rfl)
  · have E := br_n E c9
    refine lv_aload_n hx hb dX7_text_21 rfl (lv_at hl 0 rfl) ?_
    obtain ⟨r10, hF, E⟩ := bn_e E
    refine callVfi (wo := (wX7 cI cZ a v_pins v_bars v_taped v_lined r8.1 r8.2.1 v_name v_low v_high v_tape v_line v_imagePins v_imageBars v_imageName v_imageLow v_imageHigh v_isKept v_to v_carries v_seen v_rank v_one v_other v_thought v_gone v_tied v_part v_lack v_down v_parts v_lacks v_downs v_sort v_items v_item v_carried r8.2.2.1 r8.2.2.2)) h0 (c_X7_verb l D cI cZ cS a v_pins v_bars v_taped v_lined r8.1 r8.2.1 v_name v_low v_high v_tape v_line v_imagePins v_imageBars v_imageName v_imageLow v_imageHigh v_isKept v_to v_carries v_seen v_rank v_one v_other v_thought v_gone v_tied v_part v_lack v_down v_parts v_lacks v_downs v_sort v_items v_item v_carried r8.2.2.1 r8.2.2.2 r10 hF) (gV wq_934 wq_936 wp_55 wq_8 wq_937) hdX7_verb ⟨Nat.le_of_ble_eq_true rfl, Nat.le_of_ble_eq_true rfl⟩ ⟨Nat.le_refl _, Nat.le_refl _⟩ hP hD hS hA 0 7 rfl rfl rfl hl.1 rfl (Nat.le_of_ble_eq_true rfl) dX7_text_22 (fun H locs hP hD hS => ?_)
    refine lv_goto (tgt := 29) hx hb dX7_text_25 (by decide) ?_
    exact J29 _ _ _ _ _ _ _ _ _ _ _ _ _ _ E hP hD hS (lv_sub hl [0] rfl)
theorem hdX7_named : yX7_named.cls = RX7 ∧ yX7_named.cls ≠ "java/lang/invoke/MethodHandle" ∧ yX7_named.cls ≠ "java/lang/invoke/VarHandle" ∧ (parseMethodDescriptor yX7_named.desc).map (fun d => d.parameters.length) = some 0 := by decide +kernel
noncomputable def FX7_named (v_pins v_taped v_at v_fault : Int32) (v_name v_tape : Nat → Int32) (v_first v_second : Int32) : Option (Int32 × Int32 × Int32 × Int32 × Int32 × Int32) := (if v_taped ≤ 4 then ((FX7_whose v_pins v_name v_tape 0 v_taped).bind (fun r2 => (some (r2, 0, 0, (-1), 0, v_taped)))) else (some ((-1), 0, 0, (-1), 0, v_taped)))
set_option maxHeartbeats 4000000 in
set_option maxRecDepth 100000 in
theorem c_X7_named (l : Launch) (D : va_G) (cI cZ cS : ClassId) (a : Nat → Nat) (v_pins v_bars v_taped v_lined v_at v_fault : Int32) (v_name v_low v_high v_tape v_line : Nat → Int32) (v_imagePins v_imageBars : Int32) (v_imageName v_imageLow v_imageHigh : Nat → Int32) (v_isKept : Int32) (v_to v_carries : Nat → Int32) (v_seen v_rank : Int32) (v_one v_other : Nat → Int32) (v_thought v_gone : Int32) (v_tied v_part v_lack v_down : Nat → Int32) (v_parts v_lacks v_downs : Int32) (v_sort v_items v_item v_carried : Nat → Int32) (v_first v_second : Int32)  (u : Int32 × Int32 × Int32 × Int32 × Int32 × Int32) (hF : FX7_named v_pins v_taped v_at v_fault v_name v_tape v_first v_second = some u) : MCi l D (tyL cI cZ cS) yX7_named cX7_named 2 (some .int) 2 45 [.ref (a 0)] (wX7 cI cZ a v_pins v_bars v_taped v_lined v_at v_fault v_name v_low v_high v_tape v_line v_imagePins v_imageBars v_imageName v_imageLow v_imageHigh v_isKept v_to v_carries v_seen v_rank v_one v_other v_thought v_gone v_tied v_part v_lack v_down v_parts v_lacks v_downs v_sort v_items v_item v_carried v_first v_second) (wX7 cI cZ a v_pins v_bars u.2.1 v_lined u.2.2.1 u.2.2.2.1 v_name v_low v_high v_tape v_line v_imagePins v_imageBars v_imageName v_imageLow v_imageHigh v_isKept v_to v_carries v_seen v_rank v_one v_other v_thought v_gone v_tied v_part v_lack v_down v_parts v_lacks v_downs v_sort v_items v_item v_carried u.2.2.2.2.1 u.2.2.2.2.2) u.1 := by
  refine MCi.mk (by decide) (Nat.le_of_ble_eq_true rfl) ?_
  intro p e s m args below meth c A ls Q h0 hP hD hA hS hl hfin0
  have hfin : ∀ (u' : Int32 × Int32 × Int32 × Int32 × Int32 × Int32), u' = u → ∀ (H : Heap) (locs : List Loc) (ls : Array Slot) (pc : Nat), va_P D vwCl (wX7 cI cZ a v_pins v_bars u'.2.1 v_lined u'.2.2.1 u'.2.2.2.1 v_name v_low v_high v_tape v_line v_imagePins v_imageBars v_imageName v_imageLow v_imageHigh v_isKept v_to v_carries v_seen v_rank v_one v_other v_thought v_gone v_tied v_part v_lack v_down v_parts v_lacks v_downs v_sort v_items v_item v_carried u'.2.2.2.2.1 u'.2.2.2.2.2) H → va_D A (wX7 cI cZ a v_pins v_bars u'.2.1 v_lined u'.2.2.1 u'.2.2.2.1 v_name v_low v_high v_tape v_line v_imagePins v_imageBars v_imageName v_imageLow v_imageHigh v_isKept v_to v_carries v_seen v_rank v_one v_other v_thought v_gone v_tied v_part v_lack v_down v_parts v_lacks v_downs v_sort v_items v_item v_carried u'.2.2.2.2.1 u'.2.2.2.2.2) → va_S A s.heap H locs → decode cX7_named pc = .ok (.ireturn, 1) → W p l e (uR 2 45) s m args below meth c H locs 0 0 Q (F0 m pc ls [.int u'.1]) := by intro u' hu; subst hu; exact hfin0
  clear hfin0
  obtain ⟨hx, hb, hr, hlk, hml, hown, hts, hK⟩ := id h0
  have hl : lv_has ls 2 [(0, .ref (a 0))] := hl
  have E := hF
  refine lv_aload_n hx hb dX7_named_0 rfl (lv_at hl 0 rfl) ?_
  refine lv_iconst (v := 0) hx hb dX7_named_1 (by decide) ?_
  refine pf_X7_222 (wo := (wX7 cI cZ a v_pins v_bars v_taped v_lined 0 v_fault v_name v_low v_high v_tape v_line v_imagePins v_imageBars v_imageName v_imageLow v_imageHigh v_isKept v_to v_carries v_seen v_rank v_one v_other v_thought v_gone v_tied v_part v_lack v_down v_parts v_lacks v_downs v_sort v_items v_item v_carried v_first v_second)) h0 hP hD hS 0 rfl (Nat.le_of_ble_eq_true rfl) rfl dX7_named_2 (fun H locs hP hD hS => ?_)
  refine lv_aload_n hx hb dX7_named_5 rfl (lv_at hl 0 rfl) ?_
  refine lv_iconst (v := (-1)) hx hb dX7_named_6 (by decide) ?_
  refine pf_X7_219 (wo := (wX7 cI cZ a v_pins v_bars v_taped v_lined 0 (-1) v_name v_low v_high v_tape v_line v_imagePins v_imageBars v_imageName v_imageLow v_imageHigh v_isKept v_to v_carries v_seen v_rank v_one v_other v_thought v_gone v_tied v_part v_lack v_down v_parts v_lacks v_downs v_sort v_items v_item v_carried v_first v_second)) h0 hP hD hS 0 rfl (Nat.le_of_ble_eq_true rfl) rfl dX7_named_7 (fun H locs hP hD hS => ?_)
  refine lv_aload_n hx hb dX7_named_10 rfl (lv_at hl 0 rfl) ?_
  refine lv_iconst (v := 0) hx hb dX7_named_11 (by decide) ?_
  refine pf_X7_225 (wo := (wX7 cI cZ a v_pins v_bars v_taped v_lined 0 (-1) v_name v_low v_high v_tape v_line v_imagePins v_imageBars v_imageName v_imageLow v_imageHigh v_isKept v_to v_carries v_seen v_rank v_one v_other v_thought v_gone v_tied v_part v_lack v_down v_parts v_lacks v_downs v_sort v_items v_item v_carried 0 v_second)) h0 hP hD hS 0 rfl (Nat.le_of_ble_eq_true rfl) rfl dX7_named_12 (fun H locs hP hD hS => ?_)
  refine lv_aload_n hx hb dX7_named_15 rfl (lv_at hl 0 rfl) ?_
  refine lv_aload_n hx hb dX7_named_16 rfl (lv_at hl 0 rfl) ?_
  refine gf_X7_155 h0 hP 0 rfl rfl dX7_named_17 ?_
  refine pf_X7_231 (wo := (wX7 cI cZ a v_pins v_bars v_taped v_lined 0 (-1) v_name v_low v_high v_tape v_line v_imagePins v_imageBars v_imageName v_imageLow v_imageHigh v_isKept v_to v_carries v_seen v_rank v_one v_other v_thought v_gone v_tied v_part v_lack v_down v_parts v_lacks v_downs v_sort v_items v_item v_carried 0 v_taped)) h0 hP hD hS 0 rfl (Nat.le_of_ble_eq_true rfl) rfl dX7_named_20 (fun H locs hP hD hS => ?_)
  refine lv_aload_n hx hb dX7_named_23 rfl (lv_at hl 0 rfl) ?_
  refine gf_X7_155 h0 hP 0 rfl rfl dX7_named_24 ?_
  refine lv_iconst (v := 4) hx hb dX7_named_27 (by decide) ?_
  refine lv_icmp_le (tgt := 35) hx hb dX7_named_28 (by decide) (fun c1 => ?_) (fun c1 => ?_)
  · have E := br_p E c1
    refine lv_aload_n hx hb dX7_named_35 rfl (lv_at hl 0 rfl) ?_
    obtain ⟨r2, hF, E⟩ := bn_e E
    refine callVfi (wo := (wX7 cI cZ a v_pins v_bars v_taped v_lined 0 (-1) v_name v_low v_high v_tape v_line v_imagePins v_imageBars v_imageName v_imageLow v_imageHigh v_isKept v_to v_carries v_seen v_rank v_one v_other v_thought v_gone v_tied v_part v_lack v_down v_parts v_lacks v_downs v_sort v_items v_item v_carried 0 v_taped)) h0 (c_X7_whose l D cI cZ cS a v_pins v_bars v_taped v_lined 0 (-1) v_name v_low v_high v_tape v_line v_imagePins v_imageBars v_imageName v_imageLow v_imageHigh v_isKept v_to v_carries v_seen v_rank v_one v_other v_thought v_gone v_tied v_part v_lack v_down v_parts v_lacks v_downs v_sort v_items v_item v_carried 0 v_taped r2 hF) (gV wq_946 wq_948 wp_58 wq_8 wq_949) hdX7_whose ⟨Nat.le_of_ble_eq_true rfl, Nat.le_of_ble_eq_true rfl⟩ ⟨Nat.le_refl _, Nat.le_refl _⟩ hP hD hS hA 0 7 rfl rfl rfl hl.1 rfl (Nat.le_of_ble_eq_true rfl) dX7_named_36 (fun H locs hP hD hS => ?_)
    refine lv_istore_n (lv' := [(1, .int r2), (0, .ref (a 0))]) hx hb dX7_named_39 rfl hl (by decide) rfl (fun ls hl => ?_)
    refine lv_aload_n hx hb dX7_named_40 rfl (lv_at hl 1 rfl) ?_
    refine lv_iconst (v := 0) hx hb dX7_named_41 (by decide) ?_
    refine pf_X7_155 (wo := (wX7 cI cZ a v_pins v_bars 0 v_lined 0 (-1) v_name v_low v_high v_tape v_line v_imagePins v_imageBars v_imageName v_imageLow v_imageHigh v_isKept v_to v_carries v_seen v_rank v_one v_other v_thought v_gone v_tied v_part v_lack v_down v_parts v_lacks v_downs v_sort v_items v_item v_carried 0 v_taped)) h0 hP hD hS 0 rfl (Nat.le_of_ble_eq_true rfl) rfl dX7_named_42 (fun H locs hP hD hS => ?_)
    refine lv_iload_n hx hb dX7_named_45 rfl (lv_at hl 0 rfl) ?_
    exact hfin _ (Option.some.inj E) _ _ _ _ hP hD hS dX7_named_46
  · have E := br_n E c1
    refine lv_iconst (v := (-1)) hx hb dX7_named_31 (by decide) ?_
    refine lv_goto (tgt := 39) hx hb dX7_named_32 (by decide) ?_
    refine lv_istore_n (lv' := [(1, .int (-1)), (0, .ref (a 0))]) hx hb dX7_named_39 rfl hl (by decide) rfl (fun ls hl => ?_)
    refine lv_aload_n hx hb dX7_named_40 rfl (lv_at hl 1 rfl) ?_
    refine lv_iconst (v := 0) hx hb dX7_named_41 (by decide) ?_
    refine pf_X7_155 (wo := (wX7 cI cZ a v_pins v_bars 0 v_lined 0 (-1) v_name v_low v_high v_tape v_line v_imagePins v_imageBars v_imageName v_imageLow v_imageHigh v_isKept v_to v_carries v_seen v_rank v_one v_other v_thought v_gone v_tied v_part v_lack v_down v_parts v_lacks v_downs v_sort v_items v_item v_carried 0 v_taped)) h0 hP hD hS 0 rfl (Nat.le_of_ble_eq_true rfl) rfl dX7_named_42 (fun H locs hP hD hS => ?_)
    refine lv_iload_n hx hb dX7_named_45 rfl (lv_at hl 0 rfl) ?_
    exact hfin _ (Option.some.inj E) _ _ _ _ hP hD hS dX7_named_46
theorem hdX7_isSheet : yX7_isSheet.cls ≠ "java/lang/invoke/MethodHandle" ∧ yX7_isSheet.cls ≠ "java/lang/invoke/VarHandle" ∧ (parseMethodDescriptor yX7_isSheet.desc).map (fun d => d.parameters.length) = some 1 := by decide +kernel
noncomputable def FX7_isSheet (p0 : Int32) : Option (Int32) := ((FX7_isIn p0 0 3).bind (fun r1 => (gd (r1 = 0 ∨ r1 = 1) (some r1))))
set_option maxHeartbeats 4000000 in
set_option maxRecDepth 100000 in
theorem c_X7_isSheet (l : Launch) (D : va_G) (cI cZ cS : ClassId)   (p0 : Int32) (u : Int32) (hF : FX7_isSheet p0 = some u) : MCi l D (tyL cI cZ cS) yX7_isSheet cX7_isSheet 1 (some .boolean) 1 22 [.int p0] ([] : va_W) ([] : va_W) u := by
  refine MCz.mk (by decide) (Nat.le_of_ble_eq_true rfl) ?_
  intro p e s m args below meth c A ls Q h0 hP hD hA hS hl hfin0
  have hfin : ∀ (u' : Int32), u' = u → ∀ (H : Heap) (locs : List Loc) (ls : Array Slot) (pc : Nat), (u' = 0 ∨ u' = 1) → va_P D vwCl ([] : va_W) H → va_D A ([] : va_W) → va_S A s.heap H locs → decode cX7_isSheet pc = .ok (.ireturn, 1) → W p l e (uR 1 22) s m args below meth c H locs 0 0 Q (F0 m pc ls [.int u']) := by intro u' hu; subst hu; exact hfin0
  clear hfin0
  obtain ⟨hx, hb, hr, hlk, hml, hown, hts, hK⟩ := id h0
  have hl : lv_has ls 1 [(0, .int p0)] := hl
  have E := hF
  refine lv_iload_n hx hb dX7_isSheet_0 rfl (lv_at hl 0 rfl) ?_
  refine lv_iconst (v := 0) hx hb dX7_isSheet_1 (by decide) ?_
  refine lv_iconst (v := 3) hx hb dX7_isSheet_2 (by decide) ?_
  obtain ⟨r1, hF, E⟩ := bn_e E
  refine callSi (wo := ([] : va_W)) h0 (c_X7_isIn l D cI cZ cS p0 0 3 r1 hF) (gS wq_734 wq_735 wq_8 wq_736) hdX7_isIn ⟨Nat.le_of_ble_eq_true rfl, Nat.le_of_ble_eq_true rfl⟩ ⟨Nat.le_refl _, Nat.le_refl _⟩ hP hD hS hA [] rfl rfl rfl rfl hl.1 rfl (Nat.le_of_ble_eq_true rfl) dX7_isSheet_3 (fun H locs hP hD hS => ?_)
  obtain ⟨z2, E⟩ := gd_e E
  exact hfin _ (Option.some.inj E) _ _ _ _ z2 hP hD hS dX7_isSheet_6
theorem hdX7_carriesWithLast : yX7_carriesWithLast.cls = RX7 ∧ yX7_carriesWithLast.cls ≠ "java/lang/invoke/MethodHandle" ∧ yX7_carriesWithLast.cls ≠ "java/lang/invoke/VarHandle" ∧ (parseMethodDescriptor yX7_carriesWithLast.desc).map (fun d => d.parameters.length) = some 1 := by decide +kernel
noncomputable def FX7_carriesWithLast_b49 (p1 v_bars : Int32) (v_low v_high : Nat → Int32) (k8 : Int32 → Int32 → (Nat → Int32) → (Nat → Int32) → Int32 → Int32 → Option ((Nat → Int32) × (Nat → Int32) × Int32 × Int32)) (l2 l3 : Int32) (v_to v_carries : Nat → Int32) (v_seen v_rank : Int32) : Option ((Nat → Int32) × (Nat → Int32) × Int32 × Int32) := (k8 l2 (l3 + 1) v_to v_carries v_seen v_rank)
noncomputable def FX7_carriesWithLast_b8 (p1 v_bars : Int32) (v_low v_high : Nat → Int32)  (k8 : Int32 → Int32 → (Nat → Int32) → (Nat → Int32) → Int32 → Int32 → Option ((Nat → Int32) × (Nat → Int32) × Int32 × Int32)) (l2 l3 : Int32) (v_to v_carries : Nat → Int32) (v_seen v_rank : Int32) : Option ((Nat → Int32) × (Nat → Int32) × Int32 × Int32) := (if v_bars ≤ l3 then (if p1 < 0 then (some (v_to, v_carries, v_seen, v_rank)) else (gd (vp_in p1 24) (gd (vp_in p1 24) ((FX7_comes (v_low p1.toNatClampNeg) (v_high p1.toNatClampNeg) v_to v_seen v_rank).bind (fun r5 => (gd (vp_in l2 24) (gd (r5.1 = 0 ∨ r5.1 = 1) (some (r5.2.1, (upd v_carries l2.toNatClampNeg r5.1), r5.2.2.1, r5.2.2.2))))))))) else (if l3 = p1 then (FX7_carriesWithLast_b49 p1 v_bars v_low v_high k8 l2 l3 v_to v_carries v_seen v_rank) else (gd (vp_in l3 24) (gd (vp_in l3 24) ((FX7_comes (v_low l3.toNatClampNeg) (v_high l3.toNatClampNeg) v_to v_seen v_rank).bind (fun r11 => (gd (vp_in l2 24) (gd (r11.1 = 0 ∨ r11.1 = 1) (FX7_carriesWithLast_b49 p1 v_bars v_low v_high k8 (l2 + 1) l3 r11.2.1 (upd v_carries l2.toNatClampNeg r11.1) r11.2.2.1 r11.2.2.2)))))))))
noncomputable def FX7_carriesWithLast_h8 (p1 v_bars : Int32) (v_low v_high : Nat → Int32)  : Nat → Int32 → Int32 → (Nat → Int32) → (Nat → Int32) → Int32 → Int32 → Option ((Nat → Int32) × (Nat → Int32) × Int32 × Int32)
  | 0 => fun _ _ _ _ _ _ => none
  | n + 1 => fun l2 l3 v_to v_carries v_seen v_rank => FX7_carriesWithLast_b8 p1 v_bars v_low v_high  (FX7_carriesWithLast_h8 p1 v_bars v_low v_high  n) l2 l3 v_to v_carries v_seen v_rank
noncomputable def FX7_carriesWithLast (p1 : Int32) (v_bars : Int32) (v_low v_high v_to v_carries : Nat → Int32) (v_seen v_rank : Int32) : Option ((Nat → Int32) × (Nat → Int32) × Int32 × Int32) := ((FX7_empties v_to v_rank).bind (fun r14 => (FX7_carriesWithLast_h8 p1 v_bars v_low v_high  5000 0 0 r14.1 v_carries v_seen r14.2)))
set_option maxHeartbeats 4000000 in
set_option maxRecDepth 100000 in
theorem c_X7_carriesWithLast (l : Launch) (D : va_G) (cI cZ cS : ClassId) (a : Nat → Nat) (v_pins v_bars v_taped v_lined v_at v_fault : Int32) (v_name v_low v_high v_tape v_line : Nat → Int32) (v_imagePins v_imageBars : Int32) (v_imageName v_imageLow v_imageHigh : Nat → Int32) (v_isKept : Int32) (v_to v_carries : Nat → Int32) (v_seen v_rank : Int32) (v_one v_other : Nat → Int32) (v_thought v_gone : Int32) (v_tied v_part v_lack v_down : Nat → Int32) (v_parts v_lacks v_downs : Int32) (v_sort v_items v_item v_carried : Nat → Int32) (v_first v_second : Int32) (p1 : Int32) (u : (Nat → Int32) × (Nat → Int32) × Int32 × Int32) (hF : FX7_carriesWithLast p1 v_bars v_low v_high v_to v_carries v_seen v_rank = some u) : MCv l D (tyL cI cZ cS) yX7_carriesWithLast cX7_carriesWithLast 4 none 17 387 [.ref (a 0), .int p1] (wX7 cI cZ a v_pins v_bars v_taped v_lined v_at v_fault v_name v_low v_high v_tape v_line v_imagePins v_imageBars v_imageName v_imageLow v_imageHigh v_isKept v_to v_carries v_seen v_rank v_one v_other v_thought v_gone v_tied v_part v_lack v_down v_parts v_lacks v_downs v_sort v_items v_item v_carried v_first v_second) (wX7 cI cZ a v_pins v_bars v_taped v_lined v_at v_fault v_name v_low v_high v_tape v_line v_imagePins v_imageBars v_imageName v_imageLow v_imageHigh v_isKept u.1 u.2.1 u.2.2.1 u.2.2.2 v_one v_other v_thought v_gone v_tied v_part v_lack v_down v_parts v_lacks v_downs v_sort v_items v_item v_carried v_first v_second) := by
  refine MCv.mk (by decide) (Nat.le_of_ble_eq_true rfl) ?_
  intro p e s m args below meth c A ls Q h0 hP hD hA hS hl hfin0
  have hfin : ∀ (u' : (Nat → Int32) × (Nat → Int32) × Int32 × Int32), u' = u → ∀ (H : Heap) (locs : List Loc) (ls : Array Slot) (pc : Nat), va_P D vwCl (wX7 cI cZ a v_pins v_bars v_taped v_lined v_at v_fault v_name v_low v_high v_tape v_line v_imagePins v_imageBars v_imageName v_imageLow v_imageHigh v_isKept u'.1 u'.2.1 u'.2.2.1 u'.2.2.2 v_one v_other v_thought v_gone v_tied v_part v_lack v_down v_parts v_lacks v_downs v_sort v_items v_item v_carried v_first v_second) H → va_D A (wX7 cI cZ a v_pins v_bars v_taped v_lined v_at v_fault v_name v_low v_high v_tape v_line v_imagePins v_imageBars v_imageName v_imageLow v_imageHigh v_isKept u'.1 u'.2.1 u'.2.2.1 u'.2.2.2 v_one v_other v_thought v_gone v_tied v_part v_lack v_down v_parts v_lacks v_downs v_sort v_items v_item v_carried v_first v_second) → va_S A s.heap H locs → decode cX7_carriesWithLast pc = .ok (.return_, 1) → W p l e (uR 17 387) s m args below meth c H locs 0 0 Q (F0 m pc ls []) := by intro u' hu; subst hu; exact hfin0
  clear hfin0
  obtain ⟨hx, hb, hr, hlk, hml, hown, hts, hK⟩ := id h0
  have hl : lv_has ls 4 [(0, .ref (a 0)), (1, .int p1)] := hl
  have E := hF
  have J8 : ∀ (n8 : Nat) (l2 l3 : Int32) (v_to v_carries : Nat → Int32) (v_seen v_rank : Int32) (H : Heap) (locs : List Loc) (ls : Array Slot), FX7_carriesWithLast_h8 p1 v_bars v_low v_high  n8 l2 l3 v_to v_carries v_seen v_rank = some u → va_P D vwCl (wX7 cI cZ a v_pins v_bars v_taped v_lined v_at v_fault v_name v_low v_high v_tape v_line v_imagePins v_imageBars v_imageName v_imageLow v_imageHigh v_isKept v_to v_carries v_seen v_rank v_one v_other v_thought v_gone v_tied v_part v_lack v_down v_parts v_lacks v_downs v_sort v_items v_item v_carried v_first v_second) H → va_D A (wX7 cI cZ a v_pins v_bars v_taped v_lined v_at v_fault v_name v_low v_high v_tape v_line v_imagePins v_imageBars v_imageName v_imageLow v_imageHigh v_isKept v_to v_carries v_seen v_rank v_one v_other v_thought v_gone v_tied v_part v_lack v_down v_parts v_lacks v_downs v_sort v_items v_item v_carried v_first v_second) → va_S A s.heap H locs → lv_has ls 4 [(0, .ref (a 0)), (1, .int p1), (2, .int l2), (3, .int l3)] → W p l e (uR 17 387) s m args below meth c H locs 0 0 Q (F0 m 8 ls []) := by
    intro n8
    induction n8 with
    | zero => intro l2 l3 v_to v_carries v_seen v_rank H locs ls E; exact none_e E
    | succ n8 ih8 =>
      intro l2 l3 v_to v_carries v_seen v_rank H locs ls E hP hD hS hl
      have E : FX7_carriesWithLast_b8 p1 v_bars v_low v_high  (FX7_carriesWithLast_h8 p1 v_bars v_low v_high  n8) l2 l3 v_to v_carries v_seen v_rank = some u := E
      have J49 : ∀ (l2 l3 : Int32) (v_to v_carries : Nat → Int32) (v_seen v_rank : Int32) (H : Heap) (locs : List Loc) (ls : Array Slot), FX7_carriesWithLast_b49 p1 v_bars v_low v_high (FX7_carriesWithLast_h8 p1 v_bars v_low v_high  n8) l2 l3 v_to v_carries v_seen v_rank = some u → va_P D vwCl (wX7 cI cZ a v_pins v_bars v_taped v_lined v_at v_fault v_name v_low v_high v_tape v_line v_imagePins v_imageBars v_imageName v_imageLow v_imageHigh v_isKept v_to v_carries v_seen v_rank v_one v_other v_thought v_gone v_tied v_part v_lack v_down v_parts v_lacks v_downs v_sort v_items v_item v_carried v_first v_second) H → va_D A (wX7 cI cZ a v_pins v_bars v_taped v_lined v_at v_fault v_name v_low v_high v_tape v_line v_imagePins v_imageBars v_imageName v_imageLow v_imageHigh v_isKept v_to v_carries v_seen v_rank v_one v_other v_thought v_gone v_tied v_part v_lack v_down v_parts v_lacks v_downs v_sort v_items v_item v_carried v_first v_second) → va_S A s.heap H locs → lv_has ls 4 [(0, .ref (a 0)), (1, .int p1), (2, .int l2), (3, .int l3)] → W p l e (uR 17 387) s m args below meth c H locs 0 0 Q (F0 m 49 ls []) := by
        intro l2 l3 v_to v_carries v_seen v_rank H locs ls E hP hD hS hl
        refine lv_iinc (v := (l3 + 1)) (lv' := [(3, .int (l3 + 1)), (0, .ref (a 0)), (1, .int p1), (2, .int l2)]) hx hb dX7_carriesWithLast_49 hl (k := 3) rfl rfl (by decide) rfl (fun ls hl => ?_)
        refine lv_goto (tgt := 8) hx hb dX7_carriesWithLast_52 (by decide) ?_
        exact ih8 _ _ _ _ _ _ _ _ _ E hP hD hS (lv_sub hl [1, 2, 3, 0] rfl)
      refine lv_iload_n hx hb dX7_carriesWithLast_8 rfl (lv_at hl 3 rfl) ?_
      refine lv_aload_n hx hb dX7_carriesWithLast_9 rfl (lv_at hl 0 rfl) ?_
      refine gf_X7_106 h0 hP 0 rfl rfl dX7_carriesWithLast_10 ?_
      refine lv_icmp_ge (tgt := 55) hx hb dX7_carriesWithLast_13 (by decide) (fun c1 => ?_) (fun c1 => ?_)
      · have E := br_p E c1
        refine lv_iload_n hx hb dX7_carriesWithLast_55 rfl (lv_at hl 1 rfl) ?_
        refine lv_if_lt (tgt := 81) hx hb dX7_carriesWithLast_56 (by decide) (fun c2 => ?_) (fun c2 => ?_)
        · have E := br_p E c2
          exact hfin _ (Option.some.inj E) _ _ _ _ hP hD hS dX7_carriesWithLast_81
        · have E := br_n E c2
          refine lv_aload_n hx hb dX7_carriesWithLast_59 rfl (lv_at hl 0 rfl) ?_
          refine gf_X7_37 h0 hP 0 rfl rfl dX7_carriesWithLast_60 ?_
          refine lv_iload_n hx hb dX7_carriesWithLast_63 rfl (lv_at hl 2 rfl) ?_
          refine lv_aload_n hx hb dX7_carriesWithLast_64 rfl (lv_at hl 0 rfl) ?_
          refine lv_aload_n hx hb dX7_carriesWithLast_65 rfl (lv_at hl 0 rfl) ?_
          refine gf_X7_13 h0 hP 0 rfl rfl dX7_carriesWithLast_66 ?_
          refine lv_iload_n hx hb dX7_carriesWithLast_69 rfl (lv_at hl 1 rfl) ?_
          obtain ⟨g3, E⟩ := gd_e E
          refine aldi hx hb hK hP 2 rfl rfl g3 dX7_carriesWithLast_70 ?_
          refine lv_aload_n hx hb dX7_carriesWithLast_71 rfl (lv_at hl 0 rfl) ?_
          refine gf_X7_16 h0 hP 0 rfl rfl dX7_carriesWithLast_72 ?_
          refine lv_iload_n hx hb dX7_carriesWithLast_75 rfl (lv_at hl 1 rfl) ?_
          obtain ⟨g4, E⟩ := gd_e E
          refine aldi hx hb hK hP 3 rfl rfl g4 dX7_carriesWithLast_76 ?_
          obtain ⟨r5, hF, E⟩ := bn_e E
          refine callVfi (wo := (wX7 cI cZ a v_pins v_bars v_taped v_lined v_at v_fault v_name v_low v_high v_tape v_line v_imagePins v_imageBars v_imageName v_imageLow v_imageHigh v_isKept r5.2.1 v_carries r5.2.2.1 r5.2.2.2 v_one v_other v_thought v_gone v_tied v_part v_lack v_down v_parts v_lacks v_downs v_sort v_items v_item v_carried v_first v_second)) h0 (c_X7_comes l D cI cZ cS a v_pins v_bars v_taped v_lined v_at v_fault v_name v_low v_high v_tape v_line v_imagePins v_imageBars v_imageName v_imageLow v_imageHigh v_isKept v_to v_carries v_seen v_rank v_one v_other v_thought v_gone v_tied v_part v_lack v_down v_parts v_lacks v_downs v_sort v_items v_item v_carried v_first v_second (v_low p1.toNatClampNeg) (v_high p1.toNatClampNeg) r5 hF) (gV wq_767 wq_769 wp_27 wq_8 wq_770) hdX7_comes ⟨Nat.le_of_ble_eq_true rfl, Nat.le_of_ble_eq_true rfl⟩ ⟨Nat.le_refl _, Nat.le_refl _⟩ hP hD hS hA 0 7 rfl rfl rfl hl.1 rfl (Nat.le_of_ble_eq_true rfl) dX7_carriesWithLast_77 (fun H locs hP hD hS => ?_)
          obtain ⟨g6, E⟩ := gd_e E
          obtain ⟨z7, E⟩ := gd_e E
          refine astz (wo := (wX7 cI cZ a v_pins v_bars v_taped v_lined v_at v_fault v_name v_low v_high v_tape v_line v_imagePins v_imageBars v_imageName v_imageLow v_imageHigh v_isKept r5.2.1 (upd v_carries l2.toNatClampNeg r5.1) r5.2.2.1 r5.2.2.2 v_one v_other v_thought v_gone v_tied v_part v_lack v_down v_parts v_lacks v_downs v_sort v_items v_item v_carried v_first v_second)) hx hb hK hP hD hS 10 rfl rfl g6 z7 rfl dX7_carriesWithLast_80 (fun H locs hP hD hS => ?_)
          exact hfin _ (Option.some.inj E) _ _ _ _ hP hD hS dX7_carriesWithLast_81
      · have E := br_n E c1
        refine lv_iload_n hx hb dX7_carriesWithLast_16 rfl (lv_at hl 3 rfl) ?_
        refine lv_iload_n hx hb dX7_carriesWithLast_17 rfl (lv_at hl 1 rfl) ?_
        refine lv_icmp_ne (tgt := 24) hx hb dX7_carriesWithLast_18 (by decide) (fun c8 => ?_) (fun c8 => ?_)
        · have E := br_n E c8
          refine lv_aload_n hx hb dX7_carriesWithLast_24 rfl (lv_at hl 0 rfl) ?_
          refine gf_X7_37 h0 hP 0 rfl rfl dX7_carriesWithLast_25 ?_
          refine lv_iload_n hx hb dX7_carriesWithLast_28 rfl (lv_at hl 2 rfl) ?_
          refine lv_aload_n hx hb dX7_carriesWithLast_29 rfl (lv_at hl 0 rfl) ?_
          refine lv_aload_n hx hb dX7_carriesWithLast_30 rfl (lv_at hl 0 rfl) ?_
          refine gf_X7_13 h0 hP 0 rfl rfl dX7_carriesWithLast_31 ?_
          refine lv_iload_n hx hb dX7_carriesWithLast_34 rfl (lv_at hl 3 rfl) ?_
          obtain ⟨g9, E⟩ := gd_e E
          refine aldi hx hb hK hP 2 rfl rfl g9 dX7_carriesWithLast_35 ?_
          refine lv_aload_n hx hb dX7_carriesWithLast_36 rfl (lv_at hl 0 rfl) ?_
          refine gf_X7_16 h0 hP 0 rfl rfl dX7_carriesWithLast_37 ?_
          refine lv_iload_n hx hb dX7_carriesWithLast_40 rfl (lv_at hl 3 rfl) ?_
          obtain ⟨g10, E⟩ := gd_e E
          refine aldi hx hb hK hP 3 rfl rfl g10 dX7_carriesWithLast_41 ?_
          obtain ⟨r11, hF, E⟩ := bn_e E
          refine callVfi (wo := (wX7 cI cZ a v_pins v_bars v_taped v_lined v_at v_fault v_name v_low v_high v_tape v_line v_imagePins v_imageBars v_imageName v_imageLow v_imageHigh v_isKept r11.2.1 v_carries r11.2.2.1 r11.2.2.2 v_one v_other v_thought v_gone v_tied v_part v_lack v_down v_parts v_lacks v_downs v_sort v_items v_item v_carried v_first v_second)) h0 (c_X7_comes l D cI cZ cS a v_pins v_bars v_taped v_lined v_at v_fault v_name v_low v_high v_tape v_line v_imagePins v_imageBars v_imageName v_imageLow v_imageHigh v_isKept v_to v_carries v_seen v_rank v_one v_other v_thought v_gone v_tied v_part v_lack v_down v_parts v_lacks v_downs v_sort v_items v_item v_carried v_first v_second (v_low l3.toNatClampNeg) (v_high l3.toNatClampNeg) r11 hF) (gV wq_767 wq_769 wp_27 wq_8 wq_770) hdX7_comes ⟨Nat.le_of_ble_eq_true rfl, Nat.le_of_ble_eq_true rfl⟩ ⟨Nat.le_refl _, Nat.le_refl _⟩ hP hD hS hA 0 7 rfl rfl rfl hl.1 rfl (Nat.le_of_ble_eq_true rfl) dX7_carriesWithLast_42 (fun H locs hP hD hS => ?_)
          obtain ⟨g12, E⟩ := gd_e E
          obtain ⟨z13, E⟩ := gd_e E
          refine astz (wo := (wX7 cI cZ a v_pins v_bars v_taped v_lined v_at v_fault v_name v_low v_high v_tape v_line v_imagePins v_imageBars v_imageName v_imageLow v_imageHigh v_isKept r11.2.1 (upd v_carries l2.toNatClampNeg r11.1) r11.2.2.1 r11.2.2.2 v_one v_other v_thought v_gone v_tied v_part v_lack v_down v_parts v_lacks v_downs v_sort v_items v_item v_carried v_first v_second)) hx hb hK hP hD hS 10 rfl rfl g12 z13 rfl dX7_carriesWithLast_45 (fun H locs hP hD hS => ?_)
          refine lv_iinc (v := (l2 + 1)) (lv' := [(2, .int (l2 + 1)), (0, .ref (a 0)), (1, .int p1), (3, .int l3)]) hx hb dX7_carriesWithLast_46 hl (k := 2) rfl rfl (by decide) rfl (fun ls hl => ?_)
          exact J49 _ _ _ _ _ _ _ _ _ E hP hD hS (lv_sub hl [1, 2, 0, 3] rfl)
        · have E := br_p E c8
          refine lv_goto (tgt := 49) hx hb dX7_carriesWithLast_21 (by decide) ?_
          exact J49 _ _ _ _ _ _ _ _ _ E hP hD hS (lv_sub hl [0, 1, 2, 3] rfl)
  refine lv_aload_n hx hb dX7_carriesWithLast_0 rfl (lv_at hl 0 rfl) ?_
  obtain ⟨r14, hF, E⟩ := bn_e E
  refine callVfv (wo := (wX7 cI cZ a v_pins v_bars v_taped v_lined v_at v_fault v_name v_low v_high v_tape v_line v_imagePins v_imageBars v_imageName v_imageLow v_imageHigh v_isKept r14.1 v_carries v_seen r14.2 v_one v_other v_thought v_gone v_tied v_part v_lack v_down v_parts v_lacks v_downs v_sort v_items v_item v_carried v_first v_second)) h0 (c_X7_empties l D cI cZ cS a v_pins v_bars v_taped v_lined v_at v_fault v_name v_low v_high v_tape v_line v_imagePins v_imageBars v_imageName v_imageLow v_imageHigh v_isKept v_to v_carries v_seen v_rank v_one v_other v_thought v_gone v_tied v_part v_lack v_down v_parts v_lacks v_downs v_sort v_items v_item v_carried v_first v_second r14 hF) (gV wq_763 wq_765 wp_26 wq_8 wq_766) hdX7_empties ⟨Nat.le_of_ble_eq_true rfl, Nat.le_of_ble_eq_true rfl⟩ ⟨Nat.le_refl _, Nat.le_refl _⟩ hP hD hS hA 0 7 rfl rfl rfl hl.1 rfl (Nat.le_of_ble_eq_true rfl) dX7_carriesWithLast_1 (fun H locs hP hD hS => ?_)
  refine lv_iconst (v := 0) hx hb dX7_carriesWithLast_4 (by decide) ?_
  refine lv_istore_n (lv' := [(2, .int 0), (0, .ref (a 0)), (1, .int p1)]) hx hb dX7_carriesWithLast_5 rfl hl (by decide) rfl (fun ls hl => ?_)
  refine lv_iconst (v := 0) hx hb dX7_carriesWithLast_6 (by decide) ?_
  refine lv_istore_n (lv' := [(3, .int 0), (2, .int 0), (0, .ref (a 0)), (1, .int p1)]) hx hb dX7_carriesWithLast_7 rfl hl (by decide) rfl (fun ls hl => ?_)
  exact J8 5000 _ _ _ _ _ _ _ _ _ E hP hD hS (lv_sub hl [2, 3, 1, 0] rfl)
theorem hdX7_otherwise : yX7_otherwise.cls = RX7 ∧ yX7_otherwise.cls ≠ "java/lang/invoke/MethodHandle" ∧ yX7_otherwise.cls ≠ "java/lang/invoke/VarHandle" ∧ (parseMethodDescriptor yX7_otherwise.desc).map (fun d => d.parameters.length) = some 1 := by decide +kernel
noncomputable def FX7_otherwise_b57 (p1 v_bars : Int32) (v_carries v_items v_item : Nat → Int32)   : Option (Int32) := (gd (vp_in p1 4) (if (v_items p1.toNatClampNeg) = v_bars then (some (-1)) else (gd (vp_in p1 4) (some (if v_bars < (v_items p1.toNatClampNeg) then v_bars else (v_items p1.toNatClampNeg))))))
noncomputable def FX7_otherwise_b40 (p1 v_bars : Int32) (v_carries v_items v_item : Nat → Int32) (k2 : Int32 → Option (Int32)) (l2 t0 : Int32) : Option (Int32) := (gd (vp_in l2 24) (if t0 = (v_carries l2.toNatClampNeg) then (k2 (l2 + 1)) else (some l2)))
noncomputable def FX7_otherwise_b2 (p1 v_bars : Int32) (v_carries v_items v_item : Nat → Int32)  (k2 : Int32 → Option (Int32)) (l2 : Int32) : Option (Int32) := (gd (vp_in p1 4) (if (v_items p1.toNatClampNeg) ≤ l2 then (FX7_otherwise_b57 p1 v_bars v_carries v_items v_item  ) else (if v_bars ≤ l2 then (FX7_otherwise_b57 p1 v_bars v_carries v_items v_item  ) else (gd (vp_in ((40 * p1) + l2) 160) (if (v_item ((40 * p1) + l2).toNatClampNeg) = 1 then (FX7_otherwise_b40 p1 v_bars v_carries v_items v_item k2 l2 1) else (FX7_otherwise_b40 p1 v_bars v_carries v_items v_item k2 l2 0))))))
noncomputable def FX7_otherwise_h2 (p1 v_bars : Int32) (v_carries v_items v_item : Nat → Int32)  : Nat → Int32 → Option (Int32)
  | 0 => fun _ => none
  | n + 1 => fun l2 => FX7_otherwise_b2 p1 v_bars v_carries v_items v_item  (FX7_otherwise_h2 p1 v_bars v_carries v_items v_item  n) l2
noncomputable def FX7_otherwise (p1 : Int32) (v_bars : Int32) (v_carries v_items v_item : Nat → Int32) : Option (Int32) := (FX7_otherwise_h2 p1 v_bars v_carries v_items v_item  5000 0)
set_option maxHeartbeats 4000000 in
set_option maxRecDepth 100000 in
theorem c_X7_otherwise (l : Launch) (D : va_G) (cI cZ cS : ClassId) (a : Nat → Nat) (v_pins v_bars v_taped v_lined v_at v_fault : Int32) (v_name v_low v_high v_tape v_line : Nat → Int32) (v_imagePins v_imageBars : Int32) (v_imageName v_imageLow v_imageHigh : Nat → Int32) (v_isKept : Int32) (v_to v_carries : Nat → Int32) (v_seen v_rank : Int32) (v_one v_other : Nat → Int32) (v_thought v_gone : Int32) (v_tied v_part v_lack v_down : Nat → Int32) (v_parts v_lacks v_downs : Int32) (v_sort v_items v_item v_carried : Nat → Int32) (v_first v_second : Int32) (p1 : Int32) (u : Int32) (hF : FX7_otherwise p1 v_bars v_carries v_items v_item = some u) : MCi l D (tyL cI cZ cS) yX7_otherwise cX7_otherwise 3 (some .int) 1 21 [.ref (a 0), .int p1] (wX7 cI cZ a v_pins v_bars v_taped v_lined v_at v_fault v_name v_low v_high v_tape v_line v_imagePins v_imageBars v_imageName v_imageLow v_imageHigh v_isKept v_to v_carries v_seen v_rank v_one v_other v_thought v_gone v_tied v_part v_lack v_down v_parts v_lacks v_downs v_sort v_items v_item v_carried v_first v_second) (wX7 cI cZ a v_pins v_bars v_taped v_lined v_at v_fault v_name v_low v_high v_tape v_line v_imagePins v_imageBars v_imageName v_imageLow v_imageHigh v_isKept v_to v_carries v_seen v_rank v_one v_other v_thought v_gone v_tied v_part v_lack v_down v_parts v_lacks v_downs v_sort v_items v_item v_carried v_first v_second) u := by
  refine MCi.mk (by decide) (Nat.le_of_ble_eq_true rfl) ?_
  intro p e s m args below meth c A ls Q h0 hP hD hA hS hl hfin0
  have hfin : ∀ (u' : Int32), u' = u → ∀ (H : Heap) (locs : List Loc) (ls : Array Slot) (pc : Nat), va_P D vwCl (wX7 cI cZ a v_pins v_bars v_taped v_lined v_at v_fault v_name v_low v_high v_tape v_line v_imagePins v_imageBars v_imageName v_imageLow v_imageHigh v_isKept v_to v_carries v_seen v_rank v_one v_other v_thought v_gone v_tied v_part v_lack v_down v_parts v_lacks v_downs v_sort v_items v_item v_carried v_first v_second) H → va_D A (wX7 cI cZ a v_pins v_bars v_taped v_lined v_at v_fault v_name v_low v_high v_tape v_line v_imagePins v_imageBars v_imageName v_imageLow v_imageHigh v_isKept v_to v_carries v_seen v_rank v_one v_other v_thought v_gone v_tied v_part v_lack v_down v_parts v_lacks v_downs v_sort v_items v_item v_carried v_first v_second) → va_S A s.heap H locs → decode cX7_otherwise pc = .ok (.ireturn, 1) → W p l e (uR 1 21) s m args below meth c H locs 0 0 Q (F0 m pc ls [.int u']) := by intro u' hu; subst hu; exact hfin0
  clear hfin0
  obtain ⟨hx, hb, hr, hlk, hml, hown, hts, hK⟩ := id h0
  have hl : lv_has ls 3 [(0, .ref (a 0)), (1, .int p1)] := hl
  have E := hF
  have J57 : ∀  (H : Heap) (locs : List Loc) (ls : Array Slot), FX7_otherwise_b57 p1 v_bars v_carries v_items v_item   = some u → va_P D vwCl (wX7 cI cZ a v_pins v_bars v_taped v_lined v_at v_fault v_name v_low v_high v_tape v_line v_imagePins v_imageBars v_imageName v_imageLow v_imageHigh v_isKept v_to v_carries v_seen v_rank v_one v_other v_thought v_gone v_tied v_part v_lack v_down v_parts v_lacks v_downs v_sort v_items v_item v_carried v_first v_second) H → va_D A (wX7 cI cZ a v_pins v_bars v_taped v_lined v_at v_fault v_name v_low v_high v_tape v_line v_imagePins v_imageBars v_imageName v_imageLow v_imageHigh v_isKept v_to v_carries v_seen v_rank v_one v_other v_thought v_gone v_tied v_part v_lack v_down v_parts v_lacks v_downs v_sort v_items v_item v_carried v_first v_second) → va_S A s.heap H locs → lv_has ls 3 [(0, .ref (a 0)), (1, .int p1)] → W p l e (uR 1 21) s m args below meth c H locs 0 0 Q (F0 m 57 ls []) := by
    intro  H locs ls E hP hD hS hl
    refine lv_aload_n hx hb dX7_otherwise_57 rfl (lv_at hl 0 rfl) ?_
    refine gf_X7_62 h0 hP 0 rfl rfl dX7_otherwise_58 ?_
    refine lv_iload_n hx hb dX7_otherwise_61 rfl (lv_at hl 1 rfl) ?_
    obtain ⟨g1, E⟩ := gd_e E
    refine aldi hx hb hK hP 18 rfl rfl g1 dX7_otherwise_62 ?_
    refine lv_aload_n hx hb dX7_otherwise_63 rfl (lv_at hl 0 rfl) ?_
    refine gf_X7_106 h0 hP 0 rfl rfl dX7_otherwise_64 ?_
    refine lv_icmp_ne (tgt := 74) hx hb dX7_otherwise_67 (by decide) (fun c2 => ?_) (fun c2 => ?_)
    · have E := br_n E c2
      refine lv_aload_n hx hb dX7_otherwise_74 rfl (lv_at hl 0 rfl) ?_
      refine gf_X7_62 h0 hP 0 rfl rfl dX7_otherwise_75 ?_
      refine lv_iload_n hx hb dX7_otherwise_78 rfl (lv_at hl 1 rfl) ?_
      obtain ⟨g3, E⟩ := gd_e E
      refine aldi hx hb hK hP 18 rfl rfl g3 dX7_otherwise_79 ?_
      refine lv_aload_n hx hb dX7_otherwise_80 rfl (lv_at hl 0 rfl) ?_
      refine gf_X7_106 h0 hP 0 rfl rfl dX7_otherwise_81 ?_
      refine va_mmin hx hb (hml.trans hl.1.symm) hown (hts _ wq_741) (hts _ wq_285) (hts _ wq_9) (hts _ wq_286) (Nat.le_of_ble_eq_true rfl) (Nat.le_of_ble_eq_true rfl) (Nat.le_refl _) (Nat.le_refl _) dX7_otherwise_84 ?_
      exact hfin _ (Option.some.inj E) _ _ _ _ hP hD hS dX7_otherwise_87
    · have E := br_p E c2
      refine lv_iconst (v := (-1)) hx hb dX7_otherwise_70 (by decide) ?_
      refine lv_goto (tgt := 87) hx hb dX7_otherwise_71 (by decide) ?_
      exact hfin _ (Option.some.inj E) _ _ _ _ hP hD hS dX7_otherwise_87
  have J2 : ∀ (n2 : Nat) (l2 : Int32) (H : Heap) (locs : List Loc) (ls : Array Slot), FX7_otherwise_h2 p1 v_bars v_carries v_items v_item  n2 l2 = some u → va_P D vwCl (wX7 cI cZ a v_pins v_bars v_taped v_lined v_at v_fault v_name v_low v_high v_tape v_line v_imagePins v_imageBars v_imageName v_imageLow v_imageHigh v_isKept v_to v_carries v_seen v_rank v_one v_other v_thought v_gone v_tied v_part v_lack v_down v_parts v_lacks v_downs v_sort v_items v_item v_carried v_first v_second) H → va_D A (wX7 cI cZ a v_pins v_bars v_taped v_lined v_at v_fault v_name v_low v_high v_tape v_line v_imagePins v_imageBars v_imageName v_imageLow v_imageHigh v_isKept v_to v_carries v_seen v_rank v_one v_other v_thought v_gone v_tied v_part v_lack v_down v_parts v_lacks v_downs v_sort v_items v_item v_carried v_first v_second) → va_S A s.heap H locs → lv_has ls 3 [(0, .ref (a 0)), (1, .int p1), (2, .int l2)] → W p l e (uR 1 21) s m args below meth c H locs 0 0 Q (F0 m 2 ls []) := by
    intro n2
    induction n2 with
    | zero => intro l2 H locs ls E; exact none_e E
    | succ n2 ih2 =>
      intro l2 H locs ls E hP hD hS hl
      have E : FX7_otherwise_b2 p1 v_bars v_carries v_items v_item  (FX7_otherwise_h2 p1 v_bars v_carries v_items v_item  n2) l2 = some u := E
      have J40 : ∀ (l2 t0 : Int32) (H : Heap) (locs : List Loc) (ls : Array Slot), FX7_otherwise_b40 p1 v_bars v_carries v_items v_item (FX7_otherwise_h2 p1 v_bars v_carries v_items v_item  n2) l2 t0 = some u → va_P D vwCl (wX7 cI cZ a v_pins v_bars v_taped v_lined v_at v_fault v_name v_low v_high v_tape v_line v_imagePins v_imageBars v_imageName v_imageLow v_imageHigh v_isKept v_to v_carries v_seen v_rank v_one v_other v_thought v_gone v_tied v_part v_lack v_down v_parts v_lacks v_downs v_sort v_items v_item v_carried v_first v_second) H → va_D A (wX7 cI cZ a v_pins v_bars v_taped v_lined v_at v_fault v_name v_low v_high v_tape v_line v_imagePins v_imageBars v_imageName v_imageLow v_imageHigh v_isKept v_to v_carries v_seen v_rank v_one v_other v_thought v_gone v_tied v_part v_lack v_down v_parts v_lacks v_downs v_sort v_items v_item v_carried v_first v_second) → va_S A s.heap H locs → lv_has ls 3 [(0, .ref (a 0)), (1, .int p1), (2, .int l2)] → W p l e (uR 1 21) s m args below meth c H locs 0 0 Q (F0 m 40 ls [.int t0]) := by
        intro l2 t0 H locs ls E hP hD hS hl
        refine lv_aload_n hx hb dX7_otherwise_40 rfl (lv_at hl 0 rfl) ?_
        refine gf_X7_37 h0 hP 0 rfl rfl dX7_otherwise_41 ?_
        refine lv_iload_n hx hb dX7_otherwise_44 rfl (lv_at hl 2 rfl) ?_
        obtain ⟨g4, E⟩ := gd_e E
        refine aldz hx hb hK hP 10 rfl rfl g4 dX7_otherwise_45 ?_
        refine lv_icmp_eq (tgt := 51) hx hb dX7_otherwise_46 (by decide) (fun c5 => ?_) (fun c5 => ?_)
        · have E := br_p E c5
          refine lv_iinc (v := (l2 + 1)) (lv' := [(2, .int (l2 + 1)), (0, .ref (a 0)), (1, .int p1)]) hx hb dX7_otherwise_51 hl (k := 2) rfl rfl (by decide) rfl (fun ls hl => ?_)
          refine lv_goto (tgt := 2) hx hb dX7_otherwise_54 (by decide) ?_
          exact ih2 _ _ _ _ E hP hD hS (lv_sub hl [1, 2, 0] rfl)
        · have E := br_n E c5
          refine lv_iload_n hx hb dX7_otherwise_49 rfl (lv_at hl 2 rfl) ?_
          exact hfin _ (Option.some.inj E) _ _ _ _ hP hD hS dX7_otherwise_50
      refine lv_iload_n hx hb dX7_otherwise_2 rfl (lv_at hl 2 rfl) ?_
      refine lv_aload_n hx hb dX7_otherwise_3 rfl (lv_at hl 0 rfl) ?_
      refine gf_X7_62 h0 hP 0 rfl rfl dX7_otherwise_4 ?_
      refine lv_iload_n hx hb dX7_otherwise_7 rfl (lv_at hl 1 rfl) ?_
      obtain ⟨g6, E⟩ := gd_e E
      refine aldi hx hb hK hP 18 rfl rfl g6 dX7_otherwise_8 ?_
      refine lv_icmp_ge (tgt := 57) hx hb dX7_otherwise_9 (by decide) (fun c7 => ?_) (fun c7 => ?_)
      · have E := br_p E c7
        exact J57  _ _ _ E hP hD hS (lv_sub hl [0, 1] rfl)
      · have E := br_n E c7
        refine lv_iload_n hx hb dX7_otherwise_12 rfl (lv_at hl 2 rfl) ?_
        refine lv_aload_n hx hb dX7_otherwise_13 rfl (lv_at hl 0 rfl) ?_
        refine gf_X7_106 h0 hP 0 rfl rfl dX7_otherwise_14 ?_
        refine lv_icmp_ge (tgt := 57) hx hb dX7_otherwise_17 (by decide) (fun c8 => ?_) (fun c8 => ?_)
        · have E := br_p E c8
          exact J57  _ _ _ E hP hD hS (lv_sub hl [0, 1] rfl)
        · have E := br_n E c8
          refine lv_aload_n hx hb dX7_otherwise_20 rfl (lv_at hl 0 rfl) ?_
          refine gf_X7_65 h0 hP 0 rfl rfl dX7_otherwise_21 ?_
          refine lv_bipush (v := 40) hx hb dX7_otherwise_24 (by decide) ?_
          refine lv_iload_n hx hb dX7_otherwise_26 rfl (lv_at hl 1 rfl) ?_
          refine lv_imul hx hb dX7_otherwise_27 ?_
          refine lv_iload_n hx hb dX7_otherwise_28 rfl (lv_at hl 2 rfl) ?_
          refine lv_iadd hx hb dX7_otherwise_29 ?_
          obtain ⟨g9, E⟩ := gd_e E
          refine aldi hx hb hK hP 19 rfl rfl g9 dX7_otherwise_30 ?_
          refine lv_iconst (v := 1) hx hb dX7_otherwise_31 (by decide) ?_
          refine lv_icmp_ne (tgt := 39) hx hb dX7_otherwise_32 (by decide) (fun c10 => ?_) (fun c10 => ?_)
          · have E := br_n E c10
            refine lv_iconst (v := 0) hx hb dX7_otherwise_39 (by decide) ?_
            exact J40 _ _ _ _ _ E hP hD hS (lv_sub hl [0, 1, 2] rfl)
          · have E := br_p E c10
            refine lv_iconst (v := 1) hx hb dX7_otherwise_35 (by decide) ?_
            refine lv_goto (tgt := 40) hx hb dX7_otherwise_36 (by decide) ?_
            exact J40 _ _ _ _ _ E hP hD hS (lv_sub hl [0, 1, 2] rfl)
  refine lv_iconst (v := 0) hx hb dX7_otherwise_0 (by decide) ?_
  refine lv_istore_n (lv' := [(2, .int 0), (0, .ref (a 0)), (1, .int p1)]) hx hb dX7_otherwise_1 rfl hl (by decide) rfl (fun ls hl => ?_)
  exact J2 5000 _ _ _ _ E hP hD hS (lv_sub hl [1, 2, 0] rfl)
theorem hdX7_tells : yX7_tells.cls = RX7 ∧ yX7_tells.cls ≠ "java/lang/invoke/MethodHandle" ∧ yX7_tells.cls ≠ "java/lang/invoke/VarHandle" ∧ (parseMethodDescriptor yX7_tells.desc).map (fun d => d.parameters.length) = some 2 := by decide +kernel
noncomputable def FX7_tells_b97 (p1 p2 v_bars : Int32) (v_low v_high v_sort v_items v_item : Nat → Int32) (k64 : Int32 → Int32 → (Nat → Int32) → (Nat → Int32) → Int32 → Int32 → Option (Int32 × (Nat → Int32) × (Nat → Int32) × Int32 × Int32)) (l4 t0 t1 : Int32) (v_to v_carries : Nat → Int32) (v_seen v_rank : Int32) : Option (Int32 × (Nat → Int32) × (Nat → Int32) × Int32 × Int32) := (k64 (t0 ||| t1) (l4 + 1) v_to v_carries v_seen v_rank)
noncomputable def FX7_tells_b64 (p1 p2 v_bars : Int32) (v_low v_high v_sort v_items v_item : Nat → Int32)  (k64 : Int32 → Int32 → (Nat → Int32) → (Nat → Int32) → Int32 → Int32 → Option (Int32 × (Nat → Int32) × (Nat → Int32) × Int32 × Int32)) (l3 l4 : Int32) (v_to v_carries : Nat → Int32) (v_seen v_rank : Int32) : Option (Int32 × (Nat → Int32) × (Nat → Int32) × Int32 × Int32) := (if v_bars ≤ l4 then (some (l3, v_to, v_carries, v_seen, v_rank)) else ((FX7_carriesWithLast l4 v_bars v_low v_high v_to v_carries v_seen v_rank).bind (fun r2 => ((FX7_otherwise p1 v_bars r2.2.1 v_items v_item).bind (fun r3 => (if r3 = (-1) then (FX7_tells_b97 p1 p2 v_bars v_low v_high v_sort v_items v_item k64 l4 l3 ((1 : Int32) <<< (l4 &&& 31)) r2.1 r2.2.1 r2.2.2.1 r2.2.2.2) else (FX7_tells_b97 p1 p2 v_bars v_low v_high v_sort v_items v_item k64 l4 l3 0 r2.1 r2.2.1 r2.2.2.1 r2.2.2.2)))))))
noncomputable def FX7_tells_h64 (p1 p2 v_bars : Int32) (v_low v_high v_sort v_items v_item : Nat → Int32)  : Nat → Int32 → Int32 → (Nat → Int32) → (Nat → Int32) → Int32 → Int32 → Option (Int32 × (Nat → Int32) × (Nat → Int32) × Int32 × Int32)
  | 0 => fun _ _ _ _ _ _ => none
  | n + 1 => fun l3 l4 v_to v_carries v_seen v_rank => FX7_tells_b64 p1 p2 v_bars v_low v_high v_sort v_items v_item  (FX7_tells_h64 p1 p2 v_bars v_low v_high v_sort v_items v_item  n) l3 l4 v_to v_carries v_seen v_rank
noncomputable def FX7_tells (p1 p2 : Int32) (v_bars : Int32) (v_low v_high v_to v_carries : Nat → Int32) (v_seen v_rank : Int32) (v_sort v_items v_item : Nat → Int32) : Option (Int32 × (Nat → Int32) × (Nat → Int32) × Int32 × Int32) := ((FX7_isSheet p1).bind (fun r5 => (if r5 = 0 then (some ((-2), v_to, v_carries, v_seen, v_rank)) else ((FX7_isIn p2 0 1).bind (fun r7 => (if r7 = 0 then (some ((-2), v_to, v_carries, v_seen, v_rank)) else (gd (vp_in p1 4) (if 0 ≤ (v_sort p1.toNatClampNeg) then (gd (vp_in p1 4) (if (v_items p1.toNatClampNeg) ≤ 24 then (if p2 = 0 then ((FX7_carriesAll v_bars v_low v_high v_to v_carries v_seen v_rank).bind (fun r14 => ((FX7_otherwise p1 v_bars r14.2.1 v_items v_item).bind (fun r15 => (some (r15, r14.1, r14.2.1, r14.2.2.1, r14.2.2.2)))))) else (FX7_tells_h64 p1 p2 v_bars v_low v_high v_sort v_items v_item  5000 0 0 v_to v_carries v_seen v_rank)) else (some ((-2), v_to, v_carries, v_seen, v_rank)))) else (some ((-11), v_to, v_carries, v_seen, v_rank))))))))))
set_option maxHeartbeats 4000000 in
set_option maxRecDepth 100000 in
theorem c_X7_tells (l : Launch) (D : va_G) (cI cZ cS : ClassId) (a : Nat → Nat) (v_pins v_bars v_taped v_lined v_at v_fault : Int32) (v_name v_low v_high v_tape v_line : Nat → Int32) (v_imagePins v_imageBars : Int32) (v_imageName v_imageLow v_imageHigh : Nat → Int32) (v_isKept : Int32) (v_to v_carries : Nat → Int32) (v_seen v_rank : Int32) (v_one v_other : Nat → Int32) (v_thought v_gone : Int32) (v_tied v_part v_lack v_down : Nat → Int32) (v_parts v_lacks v_downs : Int32) (v_sort v_items v_item v_carried : Nat → Int32) (v_first v_second : Int32) (p1 p2 : Int32) (u : Int32 × (Nat → Int32) × (Nat → Int32) × Int32 × Int32) (hF : FX7_tells p1 p2 v_bars v_low v_high v_to v_carries v_seen v_rank v_sort v_items v_item = some u) : MCi l D (tyL cI cZ cS) yX7_tells cX7_tells 5 (some .int) 18 410 [.ref (a 0), .int p1, .int p2] (wX7 cI cZ a v_pins v_bars v_taped v_lined v_at v_fault v_name v_low v_high v_tape v_line v_imagePins v_imageBars v_imageName v_imageLow v_imageHigh v_isKept v_to v_carries v_seen v_rank v_one v_other v_thought v_gone v_tied v_part v_lack v_down v_parts v_lacks v_downs v_sort v_items v_item v_carried v_first v_second) (wX7 cI cZ a v_pins v_bars v_taped v_lined v_at v_fault v_name v_low v_high v_tape v_line v_imagePins v_imageBars v_imageName v_imageLow v_imageHigh v_isKept u.2.1 u.2.2.1 u.2.2.2.1 u.2.2.2.2 v_one v_other v_thought v_gone v_tied v_part v_lack v_down v_parts v_lacks v_downs v_sort v_items v_item v_carried v_first v_second) u.1 := by
  refine MCi.mk (by decide) (Nat.le_of_ble_eq_true rfl) ?_
  intro p e s m args below meth c A ls Q h0 hP hD hA hS hl hfin0
  have hfin : ∀ (u' : Int32 × (Nat → Int32) × (Nat → Int32) × Int32 × Int32), u' = u → ∀ (H : Heap) (locs : List Loc) (ls : Array Slot) (pc : Nat), va_P D vwCl (wX7 cI cZ a v_pins v_bars v_taped v_lined v_at v_fault v_name v_low v_high v_tape v_line v_imagePins v_imageBars v_imageName v_imageLow v_imageHigh v_isKept u'.2.1 u'.2.2.1 u'.2.2.2.1 u'.2.2.2.2 v_one v_other v_thought v_gone v_tied v_part v_lack v_down v_parts v_lacks v_downs v_sort v_items v_item v_carried v_first v_second) H → va_D A (wX7 cI cZ a v_pins v_bars v_taped v_lined v_at v_fault v_name v_low v_high v_tape v_line v_imagePins v_imageBars v_imageName v_imageLow v_imageHigh v_isKept u'.2.1 u'.2.2.1 u'.2.2.2.1 u'.2.2.2.2 v_one v_other v_thought v_gone v_tied v_part v_lack v_down v_parts v_lacks v_downs v_sort v_items v_item v_carried v_first v_second) → va_S A s.heap H locs → decode cX7_tells pc = .ok (.ireturn, 1) → W p l e (uR 18 410) s m args below meth c H locs 0 0 Q (F0 m pc ls [.int u'.1]) := by intro u' hu; subst hu; exact hfin0
  clear hfin0
  obtain ⟨hx, hb, hr, hlk, hml, hown, hts, hK⟩ := id h0
  have hl : lv_has ls 5 [(0, .ref (a 0)), (1, .int p1), (2, .int p2)] := hl
  have E := hF
  have J64 : ∀ (n64 : Nat) (l3 l4 : Int32) (v_to v_carries : Nat → Int32) (v_seen v_rank : Int32) (H : Heap) (locs : List Loc) (ls : Array Slot), FX7_tells_h64 p1 p2 v_bars v_low v_high v_sort v_items v_item  n64 l3 l4 v_to v_carries v_seen v_rank = some u → va_P D vwCl (wX7 cI cZ a v_pins v_bars v_taped v_lined v_at v_fault v_name v_low v_high v_tape v_line v_imagePins v_imageBars v_imageName v_imageLow v_imageHigh v_isKept v_to v_carries v_seen v_rank v_one v_other v_thought v_gone v_tied v_part v_lack v_down v_parts v_lacks v_downs v_sort v_items v_item v_carried v_first v_second) H → va_D A (wX7 cI cZ a v_pins v_bars v_taped v_lined v_at v_fault v_name v_low v_high v_tape v_line v_imagePins v_imageBars v_imageName v_imageLow v_imageHigh v_isKept v_to v_carries v_seen v_rank v_one v_other v_thought v_gone v_tied v_part v_lack v_down v_parts v_lacks v_downs v_sort v_items v_item v_carried v_first v_second) → va_S A s.heap H locs → lv_has ls 5 [(0, .ref (a 0)), (1, .int p1), (3, .int l3), (4, .int l4)] → W p l e (uR 18 410) s m args below meth c H locs 0 0 Q (F0 m 64 ls []) := by
    intro n64
    induction n64 with
    | zero => intro l3 l4 v_to v_carries v_seen v_rank H locs ls E; exact none_e E
    | succ n64 ih64 =>
      intro l3 l4 v_to v_carries v_seen v_rank H locs ls E hP hD hS hl
      have E : FX7_tells_b64 p1 p2 v_bars v_low v_high v_sort v_items v_item  (FX7_tells_h64 p1 p2 v_bars v_low v_high v_sort v_items v_item  n64) l3 l4 v_to v_carries v_seen v_rank = some u := E
      have J97 : ∀ (l4 t0 t1 : Int32) (v_to v_carries : Nat → Int32) (v_seen v_rank : Int32) (H : Heap) (locs : List Loc) (ls : Array Slot), FX7_tells_b97 p1 p2 v_bars v_low v_high v_sort v_items v_item (FX7_tells_h64 p1 p2 v_bars v_low v_high v_sort v_items v_item  n64) l4 t0 t1 v_to v_carries v_seen v_rank = some u → va_P D vwCl (wX7 cI cZ a v_pins v_bars v_taped v_lined v_at v_fault v_name v_low v_high v_tape v_line v_imagePins v_imageBars v_imageName v_imageLow v_imageHigh v_isKept v_to v_carries v_seen v_rank v_one v_other v_thought v_gone v_tied v_part v_lack v_down v_parts v_lacks v_downs v_sort v_items v_item v_carried v_first v_second) H → va_D A (wX7 cI cZ a v_pins v_bars v_taped v_lined v_at v_fault v_name v_low v_high v_tape v_line v_imagePins v_imageBars v_imageName v_imageLow v_imageHigh v_isKept v_to v_carries v_seen v_rank v_one v_other v_thought v_gone v_tied v_part v_lack v_down v_parts v_lacks v_downs v_sort v_items v_item v_carried v_first v_second) → va_S A s.heap H locs → lv_has ls 5 [(0, .ref (a 0)), (1, .int p1), (4, .int l4)] → W p l e (uR 18 410) s m args below meth c H locs 0 0 Q (F0 m 97 ls [.int t1, .int t0]) := by
        intro l4 t0 t1 v_to v_carries v_seen v_rank H locs ls E hP hD hS hl
        refine lv_ior hx hb dX7_tells_97 ?_
        refine lv_istore_n (lv' := [(3, .int (t0 ||| t1)), (0, .ref (a 0)), (1, .int p1), (4, .int l4)]) hx hb dX7_tells_98 rfl hl (by decide) rfl (fun ls hl => ?_)
        refine lv_iinc (v := (l4 + 1)) (lv' := [(4, .int (l4 + 1)), (3, .int (t0 ||| t1)), (0, .ref (a 0)), (1, .int p1)]) hx hb dX7_tells_99 hl (k := 3) rfl rfl (by decide) rfl (fun ls hl => ?_)
        refine lv_goto (tgt := 64) hx hb dX7_tells_102 (by decide) ?_
        exact ih64 _ _ _ _ _ _ _ _ _ E hP hD hS (lv_sub hl [2, 3, 1, 0] rfl)
      refine lv_iload hx hb dX7_tells_64 (lv_at hl 3 rfl) ?_
      refine lv_aload_n hx hb dX7_tells_66 rfl (lv_at hl 0 rfl) ?_
      refine gf_X7_106 h0 hP 0 rfl rfl dX7_tells_67 ?_
      refine lv_icmp_ge (tgt := 105) hx hb dX7_tells_70 (by decide) (fun c1 => ?_) (fun c1 => ?_)
      · have E := br_p E c1
        refine lv_iload_n hx hb dX7_tells_105 rfl (lv_at hl 2 rfl) ?_
        exact hfin _ (Option.some.inj E) _ _ _ _ hP hD hS dX7_tells_106
      · have E := br_n E c1
        refine lv_aload_n hx hb dX7_tells_73 rfl (lv_at hl 0 rfl) ?_
        refine lv_iload hx hb dX7_tells_74 (lv_at hl 3 rfl) ?_
        obtain ⟨r2, hF, E⟩ := bn_e E
        refine callVfv (wo := (wX7 cI cZ a v_pins v_bars v_taped v_lined v_at v_fault v_name v_low v_high v_tape v_line v_imagePins v_imageBars v_imageName v_imageLow v_imageHigh v_isKept r2.1 r2.2.1 r2.2.2.1 r2.2.2.2 v_one v_other v_thought v_gone v_tied v_part v_lack v_down v_parts v_lacks v_downs v_sort v_items v_item v_carried v_first v_second)) h0 (c_X7_carriesWithLast l D cI cZ cS a v_pins v_bars v_taped v_lined v_at v_fault v_name v_low v_high v_tape v_line v_imagePins v_imageBars v_imageName v_imageLow v_imageHigh v_isKept v_to v_carries v_seen v_rank v_one v_other v_thought v_gone v_tied v_part v_lack v_down v_parts v_lacks v_downs v_sort v_items v_item v_carried v_first v_second l4 r2 hF) (gV wq_979 wq_981 wp_63 wq_8 wq_982) hdX7_carriesWithLast ⟨Nat.le_of_ble_eq_true rfl, Nat.le_of_ble_eq_true rfl⟩ ⟨Nat.le_refl _, Nat.le_refl _⟩ hP hD hS hA 0 7 rfl rfl rfl hl.1 rfl (Nat.le_of_ble_eq_true rfl) dX7_tells_76 (fun H locs hP hD hS => ?_)
        refine lv_iload_n hx hb dX7_tells_79 rfl (lv_at hl 2 rfl) ?_
        refine lv_aload_n hx hb dX7_tells_80 rfl (lv_at hl 0 rfl) ?_
        refine lv_iload_n hx hb dX7_tells_81 rfl (lv_at hl 1 rfl) ?_
        obtain ⟨r3, hF, E⟩ := bn_e E
        refine callVfi (wo := (wX7 cI cZ a v_pins v_bars v_taped v_lined v_at v_fault v_name v_low v_high v_tape v_line v_imagePins v_imageBars v_imageName v_imageLow v_imageHigh v_isKept r2.1 r2.2.1 r2.2.2.1 r2.2.2.2 v_one v_other v_thought v_gone v_tied v_part v_lack v_down v_parts v_lacks v_downs v_sort v_items v_item v_carried v_first v_second)) h0 (c_X7_otherwise l D cI cZ cS a v_pins v_bars v_taped v_lined v_at v_fault v_name v_low v_high v_tape v_line v_imagePins v_imageBars v_imageName v_imageLow v_imageHigh v_isKept r2.1 r2.2.1 r2.2.2.1 r2.2.2.2 v_one v_other v_thought v_gone v_tied v_part v_lack v_down v_parts v_lacks v_downs v_sort v_items v_item v_carried v_first v_second p1 r3 hF) (gV wq_975 wq_977 wp_62 wq_8 wq_978) hdX7_otherwise ⟨Nat.le_of_ble_eq_true rfl, Nat.le_of_ble_eq_true rfl⟩ ⟨Nat.le_refl _, Nat.le_refl _⟩ hP hD hS hA 0 7 rfl rfl rfl hl.1 rfl (Nat.le_of_ble_eq_true rfl) dX7_tells_82 (fun H locs hP hD hS => ?_)
        refine lv_iconst (v := (-1)) hx hb dX7_tells_85 (by decide) ?_
        refine lv_icmp_ne (tgt := 96) hx hb dX7_tells_86 (by decide) (fun c4 => ?_) (fun c4 => ?_)
        · have E := br_n E c4
          refine lv_iconst (v := 0) hx hb dX7_tells_96 (by decide) ?_
          exact J97 _ _ _ _ _ _ _ _ _ _ E hP hD hS (lv_sub hl [0, 1, 3] rfl)
        · have E := br_p E c4
          refine lv_iconst (v := 1) hx hb dX7_tells_89 (by decide) ?_
          refine lv_iload hx hb dX7_tells_90 (lv_at hl 3 rfl) ?_
          refine lv_ishl hx hb dX7_tells_92 ?_
          refine lv_goto (tgt := 97) hx hb dX7_tells_93 (by decide) ?_
          exact J97 _ _ _ _ _ _ _ _ _ _ E hP hD hS (lv_sub hl [0, 1, 3] rfl)
  refine lv_iload_n hx hb dX7_tells_0 rfl (lv_at hl 1 rfl) ?_
  obtain ⟨r5, hF, E⟩ := bn_e E
  refine callSi (wo := (wX7 cI cZ a v_pins v_bars v_taped v_lined v_at v_fault v_name v_low v_high v_tape v_line v_imagePins v_imageBars v_imageName v_imageLow v_imageHigh v_isKept v_to v_carries v_seen v_rank v_one v_other v_thought v_gone v_tied v_part v_lack v_down v_parts v_lacks v_downs v_sort v_items v_item v_carried v_first v_second)) h0 (c_X7_isSheet l D cI cZ cS p1 r5 hF) (gS wq_972 wq_973 wq_8 wq_974) hdX7_isSheet ⟨Nat.le_of_ble_eq_true rfl, Nat.le_of_ble_eq_true rfl⟩ ⟨Nat.le_refl _, Nat.le_refl _⟩ hP hD hS hA [] rfl rfl rfl rfl hl.1 rfl (Nat.le_of_ble_eq_true rfl) dX7_tells_1 (fun H locs hP hD hS => ?_)
  refine lv_if_eq (tgt := 16) hx hb dX7_tells_4 (by decide) (fun c6 => ?_) (fun c6 => ?_)
  · have E := br_p E c6
    refine lv_bipush (v := (-2)) hx hb dX7_tells_16 (by decide) ?_
    exact hfin _ (Option.some.inj E) _ _ _ _ hP hD hS dX7_tells_18
  · have E := br_n E c6
    refine lv_iload_n hx hb dX7_tells_7 rfl (lv_at hl 2 rfl) ?_
    refine lv_iconst (v := 0) hx hb dX7_tells_8 (by decide) ?_
    refine lv_iconst (v := 1) hx hb dX7_tells_9 (by decide) ?_
    obtain ⟨r7, hF, E⟩ := bn_e E
    refine callSi (wo := (wX7 cI cZ a v_pins v_bars v_taped v_lined v_at v_fault v_name v_low v_high v_tape v_line v_imagePins v_imageBars v_imageName v_imageLow v_imageHigh v_isKept v_to v_carries v_seen v_rank v_one v_other v_thought v_gone v_tied v_part v_lack v_down v_parts v_lacks v_downs v_sort v_items v_item v_carried v_first v_second)) h0 (c_X7_isIn l D cI cZ cS p2 0 1 r7 hF) (gS wq_734 wq_735 wq_8 wq_736) hdX7_isIn ⟨Nat.le_of_ble_eq_true rfl, Nat.le_of_ble_eq_true rfl⟩ ⟨Nat.le_refl _, Nat.le_refl _⟩ hP hD hS hA [] rfl rfl rfl rfl hl.1 rfl (Nat.le_of_ble_eq_true rfl) dX7_tells_10 (fun H locs hP hD hS => ?_)
    refine lv_if_ne (tgt := 19) hx hb dX7_tells_13 (by decide) (fun c8 => ?_) (fun c8 => ?_)
    · have E := br_n E c8
      refine lv_aload_n hx hb dX7_tells_19 rfl (lv_at hl 0 rfl) ?_
      refine gf_X7_59 h0 hP 0 rfl rfl dX7_tells_20 ?_
      refine lv_iload_n hx hb dX7_tells_23 rfl (lv_at hl 1 rfl) ?_
      obtain ⟨g9, E⟩ := gd_e E
      refine aldi hx hb hK hP 17 rfl rfl g9 dX7_tells_24 ?_
      refine lv_if_ge (tgt := 31) hx hb dX7_tells_25 (by decide) (fun c10 => ?_) (fun c10 => ?_)
      · have E := br_p E c10
        refine lv_aload_n hx hb dX7_tells_31 rfl (lv_at hl 0 rfl) ?_
        refine gf_X7_62 h0 hP 0 rfl rfl dX7_tells_32 ?_
        refine lv_iload_n hx hb dX7_tells_35 rfl (lv_at hl 1 rfl) ?_
        obtain ⟨g11, E⟩ := gd_e E
        refine aldi hx hb hK hP 18 rfl rfl g11 dX7_tells_36 ?_
        refine lv_bipush (v := 24) hx hb dX7_tells_37 (by decide) ?_
        refine lv_icmp_le (tgt := 45) hx hb dX7_tells_39 (by decide) (fun c12 => ?_) (fun c12 => ?_)
        · have E := br_p E c12
          refine lv_iload_n hx hb dX7_tells_45 rfl (lv_at hl 2 rfl) ?_
          refine lv_if_ne (tgt := 59) hx hb dX7_tells_46 (by decide) (fun c13 => ?_) (fun c13 => ?_)
          · have E := br_n E c13
            refine lv_iconst (v := 0) hx hb dX7_tells_59 (by decide) ?_
            refine lv_istore_n (lv' := [(3, .int 0), (0, .ref (a 0)), (1, .int p1), (2, .int p2)]) hx hb dX7_tells_60 rfl hl (by decide) rfl (fun ls hl => ?_)
            refine lv_iconst (v := 0) hx hb dX7_tells_61 (by decide) ?_
            refine lv_istore (lv' := [(4, .int 0), (3, .int 0), (0, .ref (a 0)), (1, .int p1), (2, .int p2)]) hx hb dX7_tells_62 hl (by decide) rfl (fun ls hl => ?_)
            exact J64 5000 _ _ _ _ _ _ _ _ _ E hP hD hS (lv_sub hl [2, 3, 1, 0] rfl)
          · have E := br_p E c13
            refine lv_aload_n hx hb dX7_tells_49 rfl (lv_at hl 0 rfl) ?_
            obtain ⟨r14, hF, E⟩ := bn_e E
            refine callVfv (wo := (wX7 cI cZ a v_pins v_bars v_taped v_lined v_at v_fault v_name v_low v_high v_tape v_line v_imagePins v_imageBars v_imageName v_imageLow v_imageHigh v_isKept r14.1 r14.2.1 r14.2.2.1 r14.2.2.2 v_one v_other v_thought v_gone v_tied v_part v_lack v_down v_parts v_lacks v_downs v_sort v_items v_item v_carried v_first v_second)) h0 (c_X7_carriesAll l D cI cZ cS a v_pins v_bars v_taped v_lined v_at v_fault v_name v_low v_high v_tape v_line v_imagePins v_imageBars v_imageName v_imageLow v_imageHigh v_isKept v_to v_carries v_seen v_rank v_one v_other v_thought v_gone v_tied v_part v_lack v_down v_parts v_lacks v_downs v_sort v_items v_item v_carried v_first v_second r14 hF) (gV wq_759 wq_761 wp_25 wq_8 wq_762) hdX7_carriesAll ⟨Nat.le_of_ble_eq_true rfl, Nat.le_of_ble_eq_true rfl⟩ ⟨Nat.le_refl _, Nat.le_refl _⟩ hP hD hS hA 0 7 rfl rfl rfl hl.1 rfl (Nat.le_of_ble_eq_true rfl) dX7_tells_50 (fun H locs hP hD hS => ?_)
            refine lv_aload_n hx hb dX7_tells_53 rfl (lv_at hl 0 rfl) ?_
            refine lv_iload_n hx hb dX7_tells_54 rfl (lv_at hl 1 rfl) ?_
            obtain ⟨r15, hF, E⟩ := bn_e E
            refine callVfi (wo := (wX7 cI cZ a v_pins v_bars v_taped v_lined v_at v_fault v_name v_low v_high v_tape v_line v_imagePins v_imageBars v_imageName v_imageLow v_imageHigh v_isKept r14.1 r14.2.1 r14.2.2.1 r14.2.2.2 v_one v_other v_thought v_gone v_tied v_part v_lack v_down v_parts v_lacks v_downs v_sort v_items v_item v_carried v_first v_second)) h0 (c_X7_otherwise l D cI cZ cS a v_pins v_bars v_taped v_lined v_at v_fault v_name v_low v_high v_tape v_line v_imagePins v_imageBars v_imageName v_imageLow v_imageHigh v_isKept r14.1 r14.2.1 r14.2.2.1 r14.2.2.2 v_one v_other v_thought v_gone v_tied v_part v_lack v_down v_parts v_lacks v_downs v_sort v_items v_item v_carried v_first v_second p1 r15 hF) (gV wq_975 wq_977 wp_62 wq_8 wq_978) hdX7_otherwise ⟨Nat.le_of_ble_eq_true rfl, Nat.le_of_ble_eq_true rfl⟩ ⟨Nat.le_refl _, Nat.le_refl _⟩ hP hD hS hA 0 7 rfl rfl rfl hl.1 rfl (Nat.le_of_ble_eq_true rfl) dX7_tells_55 (fun H locs hP hD hS => ?_)
            exact hfin _ (Option.some.inj E) _ _ _ _ hP hD hS dX7_tells_58
        · have E := br_n E c12
          refine lv_bipush (v := (-2)) hx hb dX7_tells_42 (by decide) ?_
          exact hfin _ (Option.some.inj E) _ _ _ _ hP hD hS dX7_tells_44
      · have E := br_n E c10
        refine lv_bipush (v := (-11)) hx hb dX7_tells_28 (by decide) ?_
        exact hfin _ (Option.some.inj E) _ _ _ _ hP hD hS dX7_tells_30
    · have E := br_p E c8
      refine lv_bipush (v := (-2)) hx hb dX7_tells_16 (by decide) ?_
      exact hfin _ (Option.some.inj E) _ _ _ _ hP hD hS dX7_tells_18
theorem hdX7_film : yX7_film.cls = RX7 ∧ yX7_film.cls ≠ "java/lang/invoke/MethodHandle" ∧ yX7_film.cls ≠ "java/lang/invoke/VarHandle" ∧ (parseMethodDescriptor yX7_film.desc).map (fun d => d.parameters.length) = some 1 := by decide +kernel
noncomputable def FX7_film_b65 (p1 v_bars : Int32) (v_low v_high : Nat → Int32) (k33 : Int32 → (Nat → Int32) → (Nat → Int32) → Int32 → Int32 → (Nat → Int32) → (Nat → Int32) → (Nat → Int32) → Option (Int32 × (Nat → Int32) × (Nat → Int32) × Int32 × Int32 × (Nat → Int32) × (Nat → Int32) × (Nat → Int32))) (l2 t1 t2 : Int32) (v_to v_carries : Nat → Int32) (v_seen v_rank : Int32) (v_sort v_items v_item : Nat → Int32) : Option (Int32 × (Nat → Int32) × (Nat → Int32) × Int32 × Int32 × (Nat → Int32) × (Nat → Int32) × (Nat → Int32)) := (gd (vp_in t1 160) (k33 (l2 + 1) v_to v_carries v_seen v_rank v_sort v_items (upd v_item t1.toNatClampNeg t2)))
noncomputable def FX7_film_b33 (p1 v_bars : Int32) (v_low v_high : Nat → Int32)  (k33 : Int32 → (Nat → Int32) → (Nat → Int32) → Int32 → Int32 → (Nat → Int32) → (Nat → Int32) → (Nat → Int32) → Option (Int32 × (Nat → Int32) × (Nat → Int32) × Int32 × Int32 × (Nat → Int32) × (Nat → Int32) × (Nat → Int32))) (l2 : Int32) (v_to v_carries : Nat → Int32) (v_seen v_rank : Int32) (v_sort v_items v_item : Nat → Int32) : Option (Int32 × (Nat → Int32) × (Nat → Int32) × Int32 × Int32 × (Nat → Int32) × (Nat → Int32) × (Nat → Int32)) := (if v_bars ≤ l2 then (some (v_bars, v_to, v_carries, v_seen, v_rank, v_sort, v_items, v_item)) else (gd (vp_in l2 24) (if (v_carries l2.toNatClampNeg) = 0 then (FX7_film_b65 p1 v_bars v_low v_high k33 l2 ((40 * p1) + l2) 0 v_to v_carries v_seen v_rank v_sort v_items v_item) else (FX7_film_b65 p1 v_bars v_low v_high k33 l2 ((40 * p1) + l2) 1 v_to v_carries v_seen v_rank v_sort v_items v_item))))
noncomputable def FX7_film_h33 (p1 v_bars : Int32) (v_low v_high : Nat → Int32)  : Nat → Int32 → (Nat → Int32) → (Nat → Int32) → Int32 → Int32 → (Nat → Int32) → (Nat → Int32) → (Nat → Int32) → Option (Int32 × (Nat → Int32) × (Nat → Int32) × Int32 × Int32 × (Nat → Int32) × (Nat → Int32) × (Nat → Int32))
  | 0 => fun _ _ _ _ _ _ _ _ => none
  | n + 1 => fun l2 v_to v_carries v_seen v_rank v_sort v_items v_item => FX7_film_b33 p1 v_bars v_low v_high  (FX7_film_h33 p1 v_bars v_low v_high  n) l2 v_to v_carries v_seen v_rank v_sort v_items v_item
noncomputable def FX7_film (p1 : Int32) (v_bars : Int32) (v_low v_high v_to v_carries : Nat → Int32) (v_seen v_rank : Int32) (v_sort v_items v_item : Nat → Int32) : Option (Int32 × (Nat → Int32) × (Nat → Int32) × Int32 × Int32 × (Nat → Int32) × (Nat → Int32) × (Nat → Int32)) := ((FX7_isSheet p1).bind (fun r5 => (if r5 = 0 then (some ((-2), v_to, v_carries, v_seen, v_rank, v_sort, v_items, v_item)) else ((FX7_carriesAll v_bars v_low v_high v_to v_carries v_seen v_rank).bind (fun r7 => (gd (vp_in p1 4) (gd (vp_in p1 4) (FX7_film_h33 p1 v_bars v_low v_high  5000 0 r7.1 r7.2.1 r7.2.2.1 r7.2.2.2 (upd v_sort p1.toNatClampNeg 0) (upd v_items p1.toNatClampNeg v_bars) v_item))))))))
set_option maxHeartbeats 4000000 in
set_option maxRecDepth 100000 in
theorem c_X7_film (l : Launch) (D : va_G) (cI cZ cS : ClassId) (a : Nat → Nat) (v_pins v_bars v_taped v_lined v_at v_fault : Int32) (v_name v_low v_high v_tape v_line : Nat → Int32) (v_imagePins v_imageBars : Int32) (v_imageName v_imageLow v_imageHigh : Nat → Int32) (v_isKept : Int32) (v_to v_carries : Nat → Int32) (v_seen v_rank : Int32) (v_one v_other : Nat → Int32) (v_thought v_gone : Int32) (v_tied v_part v_lack v_down : Nat → Int32) (v_parts v_lacks v_downs : Int32) (v_sort v_items v_item v_carried : Nat → Int32) (v_first v_second : Int32) (p1 : Int32) (u : Int32 × (Nat → Int32) × (Nat → Int32) × Int32 × Int32 × (Nat → Int32) × (Nat → Int32) × (Nat → Int32)) (hF : FX7_film p1 v_bars v_low v_high v_to v_carries v_seen v_rank v_sort v_items v_item = some u) : MCi l D (tyL cI cZ cS) yX7_film cX7_film 3 (some .int) 18 408 [.ref (a 0), .int p1] (wX7 cI cZ a v_pins v_bars v_taped v_lined v_at v_fault v_name v_low v_high v_tape v_line v_imagePins v_imageBars v_imageName v_imageLow v_imageHigh v_isKept v_to v_carries v_seen v_rank v_one v_other v_thought v_gone v_tied v_part v_lack v_down v_parts v_lacks v_downs v_sort v_items v_item v_carried v_first v_second) (wX7 cI cZ a v_pins v_bars v_taped v_lined v_at v_fault v_name v_low v_high v_tape v_line v_imagePins v_imageBars v_imageName v_imageLow v_imageHigh v_isKept u.2.1 u.2.2.1 u.2.2.2.1 u.2.2.2.2.1 v_one v_other v_thought v_gone v_tied v_part v_lack v_down v_parts v_lacks v_downs u.2.2.2.2.2.1 u.2.2.2.2.2.2.1 u.2.2.2.2.2.2.2 v_carried v_first v_second) u.1 := by
  refine MCi.mk (by decide) (Nat.le_of_ble_eq_true rfl) ?_
  intro p e s m args below meth c A ls Q h0 hP hD hA hS hl hfin0
  have hfin : ∀ (u' : Int32 × (Nat → Int32) × (Nat → Int32) × Int32 × Int32 × (Nat → Int32) × (Nat → Int32) × (Nat → Int32)), u' = u → ∀ (H : Heap) (locs : List Loc) (ls : Array Slot) (pc : Nat), va_P D vwCl (wX7 cI cZ a v_pins v_bars v_taped v_lined v_at v_fault v_name v_low v_high v_tape v_line v_imagePins v_imageBars v_imageName v_imageLow v_imageHigh v_isKept u'.2.1 u'.2.2.1 u'.2.2.2.1 u'.2.2.2.2.1 v_one v_other v_thought v_gone v_tied v_part v_lack v_down v_parts v_lacks v_downs u'.2.2.2.2.2.1 u'.2.2.2.2.2.2.1 u'.2.2.2.2.2.2.2 v_carried v_first v_second) H → va_D A (wX7 cI cZ a v_pins v_bars v_taped v_lined v_at v_fault v_name v_low v_high v_tape v_line v_imagePins v_imageBars v_imageName v_imageLow v_imageHigh v_isKept u'.2.1 u'.2.2.1 u'.2.2.2.1 u'.2.2.2.2.1 v_one v_other v_thought v_gone v_tied v_part v_lack v_down v_parts v_lacks v_downs u'.2.2.2.2.2.1 u'.2.2.2.2.2.2.1 u'.2.2.2.2.2.2.2 v_carried v_first v_second) → va_S A s.heap H locs → decode cX7_film pc = .ok (.ireturn, 1) → W p l e (uR 18 408) s m args below meth c H locs 0 0 Q (F0 m pc ls [.int u'.1]) := by intro u' hu; subst hu; exact hfin0
  clear hfin0
  obtain ⟨hx, hb, hr, hlk, hml, hown, hts, hK⟩ := id h0
  have hl : lv_has ls 3 [(0, .ref (a 0)), (1, .int p1)] := hl
  have E := hF
  have J33 : ∀ (n33 : Nat) (l2 : Int32) (v_to v_carries : Nat → Int32) (v_seen v_rank : Int32) (v_sort v_items v_item : Nat → Int32) (H : Heap) (locs : List Loc) (ls : Array Slot), FX7_film_h33 p1 v_bars v_low v_high  n33 l2 v_to v_carries v_seen v_rank v_sort v_items v_item = some u → va_P D vwCl (wX7 cI cZ a v_pins v_bars v_taped v_lined v_at v_fault v_name v_low v_high v_tape v_line v_imagePins v_imageBars v_imageName v_imageLow v_imageHigh v_isKept v_to v_carries v_seen v_rank v_one v_other v_thought v_gone v_tied v_part v_lack v_down v_parts v_lacks v_downs v_sort v_items v_item v_carried v_first v_second) H → va_D A (wX7 cI cZ a v_pins v_bars v_taped v_lined v_at v_fault v_name v_low v_high v_tape v_line v_imagePins v_imageBars v_imageName v_imageLow v_imageHigh v_isKept v_to v_carries v_seen v_rank v_one v_other v_thought v_gone v_tied v_part v_lack v_down v_parts v_lacks v_downs v_sort v_items v_item v_carried v_first v_second) → va_S A s.heap H locs → lv_has ls 3 [(0, .ref (a 0)), (1, .int p1), (2, .int l2)] → W p l e (uR 18 408) s m args below meth c H locs 0 0 Q (F0 m 33 ls []) := by
    intro n33
    induction n33 with
    | zero => intro l2 v_to v_carries v_seen v_rank v_sort v_items v_item H locs ls E; exact none_e E
    | succ n33 ih33 =>
      intro l2 v_to v_carries v_seen v_rank v_sort v_items v_item H locs ls E hP hD hS hl
      have E : FX7_film_b33 p1 v_bars v_low v_high  (FX7_film_h33 p1 v_bars v_low v_high  n33) l2 v_to v_carries v_seen v_rank v_sort v_items v_item = some u := E
      have J65 : ∀ (l2 t1 t2 : Int32) (v_to v_carries : Nat → Int32) (v_seen v_rank : Int32) (v_sort v_items v_item : Nat → Int32) (H : Heap) (locs : List Loc) (ls : Array Slot), FX7_film_b65 p1 v_bars v_low v_high (FX7_film_h33 p1 v_bars v_low v_high  n33) l2 t1 t2 v_to v_carries v_seen v_rank v_sort v_items v_item = some u → va_P D vwCl (wX7 cI cZ a v_pins v_bars v_taped v_lined v_at v_fault v_name v_low v_high v_tape v_line v_imagePins v_imageBars v_imageName v_imageLow v_imageHigh v_isKept v_to v_carries v_seen v_rank v_one v_other v_thought v_gone v_tied v_part v_lack v_down v_parts v_lacks v_downs v_sort v_items v_item v_carried v_first v_second) H → va_D A (wX7 cI cZ a v_pins v_bars v_taped v_lined v_at v_fault v_name v_low v_high v_tape v_line v_imagePins v_imageBars v_imageName v_imageLow v_imageHigh v_isKept v_to v_carries v_seen v_rank v_one v_other v_thought v_gone v_tied v_part v_lack v_down v_parts v_lacks v_downs v_sort v_items v_item v_carried v_first v_second) → va_S A s.heap H locs → lv_has ls 3 [(0, .ref (a 0)), (1, .int p1), (2, .int l2)] → W p l e (uR 18 408) s m args below meth c H locs 0 0 Q (F0 m 65 ls [.int t2, .int t1, .ref (a 19)]) := by
        intro l2 t1 t2 v_to v_carries v_seen v_rank v_sort v_items v_item H locs ls E hP hD hS hl
        obtain ⟨g1, E⟩ := gd_e E
        refine asti (wo := (wX7 cI cZ a v_pins v_bars v_taped v_lined v_at v_fault v_name v_low v_high v_tape v_line v_imagePins v_imageBars v_imageName v_imageLow v_imageHigh v_isKept v_to v_carries v_seen v_rank v_one v_other v_thought v_gone v_tied v_part v_lack v_down v_parts v_lacks v_downs v_sort v_items (upd v_item t1.toNatClampNeg t2) v_carried v_first v_second)) hx hb hK hP hD hS 19 rfl rfl g1 rfl dX7_film_65 (fun H locs hP hD hS => ?_)
        refine lv_iinc (v := (l2 + 1)) (lv' := [(2, .int (l2 + 1)), (0, .ref (a 0)), (1, .int p1)]) hx hb dX7_film_66 hl (k := 2) rfl rfl (by decide) rfl (fun ls hl => ?_)
        refine lv_goto (tgt := 33) hx hb dX7_film_69 (by decide) ?_
        exact ih33 _ _ _ _ _ _ _ _ _ _ _ E hP hD hS (lv_sub hl [1, 2, 0] rfl)
      refine lv_iload_n hx hb dX7_film_33 rfl (lv_at hl 2 rfl) ?_
      refine lv_aload_n hx hb dX7_film_34 rfl (lv_at hl 0 rfl) ?_
      refine gf_X7_106 h0 hP 0 rfl rfl dX7_film_35 ?_
      refine lv_icmp_ge (tgt := 72) hx hb dX7_film_38 (by decide) (fun c2 => ?_) (fun c2 => ?_)
      · have E := br_p E c2
        refine lv_aload_n hx hb dX7_film_72 rfl (lv_at hl 0 rfl) ?_
        refine gf_X7_106 h0 hP 0 rfl rfl dX7_film_73 ?_
        exact hfin _ (Option.some.inj E) _ _ _ _ hP hD hS dX7_film_76
      · have E := br_n E c2
        refine lv_aload_n hx hb dX7_film_41 rfl (lv_at hl 0 rfl) ?_
        refine gf_X7_65 h0 hP 0 rfl rfl dX7_film_42 ?_
        refine lv_bipush (v := 40) hx hb dX7_film_45 (by decide) ?_
        refine lv_iload_n hx hb dX7_film_47 rfl (lv_at hl 1 rfl) ?_
        refine lv_imul hx hb dX7_film_48 ?_
        refine lv_iload_n hx hb dX7_film_49 rfl (lv_at hl 2 rfl) ?_
        refine lv_iadd hx hb dX7_film_50 ?_
        refine lv_aload_n hx hb dX7_film_51 rfl (lv_at hl 0 rfl) ?_
        refine gf_X7_37 h0 hP 0 rfl rfl dX7_film_52 ?_
        refine lv_iload_n hx hb dX7_film_55 rfl (lv_at hl 2 rfl) ?_
        obtain ⟨g3, E⟩ := gd_e E
        refine aldz hx hb hK hP 10 rfl rfl g3 dX7_film_56 ?_
        refine lv_if_eq (tgt := 64) hx hb dX7_film_57 (by decide) (fun c4 => ?_) (fun c4 => ?_)
        · have E := br_p E c4
          refine lv_iconst (v := 0) hx hb dX7_film_64 (by decide) ?_
          exact J65 _ _ _ _ _ _ _ _ _ _ _ _ _ E hP hD hS (lv_sub hl [0, 1, 2] rfl)
        · have E := br_n E c4
          refine lv_iconst (v := 1) hx hb dX7_film_60 (by decide) ?_
          refine lv_goto (tgt := 65) hx hb dX7_film_61 (by decide) ?_
          exact J65 _ _ _ _ _ _ _ _ _ _ _ _ _ E hP hD hS (lv_sub hl [0, 1, 2] rfl)
  refine lv_iload_n hx hb dX7_film_0 rfl (lv_at hl 1 rfl) ?_
  obtain ⟨r5, hF, E⟩ := bn_e E
  refine callSi (wo := (wX7 cI cZ a v_pins v_bars v_taped v_lined v_at v_fault v_name v_low v_high v_tape v_line v_imagePins v_imageBars v_imageName v_imageLow v_imageHigh v_isKept v_to v_carries v_seen v_rank v_one v_other v_thought v_gone v_tied v_part v_lack v_down v_parts v_lacks v_downs v_sort v_items v_item v_carried v_first v_second)) h0 (c_X7_isSheet l D cI cZ cS p1 r5 hF) (gS wq_972 wq_973 wq_8 wq_974) hdX7_isSheet ⟨Nat.le_of_ble_eq_true rfl, Nat.le_of_ble_eq_true rfl⟩ ⟨Nat.le_refl _, Nat.le_refl _⟩ hP hD hS hA [] rfl rfl rfl rfl hl.1 rfl (Nat.le_of_ble_eq_true rfl) dX7_film_1 (fun H locs hP hD hS => ?_)
  refine lv_if_ne (tgt := 10) hx hb dX7_film_4 (by decide) (fun c6 => ?_) (fun c6 => ?_)
  · have E := br_n E c6
    refine lv_aload_n hx hb dX7_film_10 rfl (lv_at hl 0 rfl) ?_
    obtain ⟨r7, hF, E⟩ := bn_e E
    refine callVfv (wo := (wX7 cI cZ a v_pins v_bars v_taped v_lined v_at v_fault v_name v_low v_high v_tape v_line v_imagePins v_imageBars v_imageName v_imageLow v_imageHigh v_isKept r7.1 r7.2.1 r7.2.2.1 r7.2.2.2 v_one v_other v_thought v_gone v_tied v_part v_lack v_down v_parts v_lacks v_downs v_sort v_items v_item v_carried v_first v_second)) h0 (c_X7_carriesAll l D cI cZ cS a v_pins v_bars v_taped v_lined v_at v_fault v_name v_low v_high v_tape v_line v_imagePins v_imageBars v_imageName v_imageLow v_imageHigh v_isKept v_to v_carries v_seen v_rank v_one v_other v_thought v_gone v_tied v_part v_lack v_down v_parts v_lacks v_downs v_sort v_items v_item v_carried v_first v_second r7 hF) (gV wq_759 wq_761 wp_25 wq_8 wq_762) hdX7_carriesAll ⟨Nat.le_of_ble_eq_true rfl, Nat.le_of_ble_eq_true rfl⟩ ⟨Nat.le_refl _, Nat.le_refl _⟩ hP hD hS hA 0 7 rfl rfl rfl hl.1 rfl (Nat.le_of_ble_eq_true rfl) dX7_film_11 (fun H locs hP hD hS => ?_)
    refine lv_aload_n hx hb dX7_film_14 rfl (lv_at hl 0 rfl) ?_
    refine gf_X7_59 h0 hP 0 rfl rfl dX7_film_15 ?_
    refine lv_iload_n hx hb dX7_film_18 rfl (lv_at hl 1 rfl) ?_
    refine lv_iconst (v := 0) hx hb dX7_film_19 (by decide) ?_
    obtain ⟨g8, E⟩ := gd_e E
    refine asti (wo := (wX7 cI cZ a v_pins v_bars v_taped v_lined v_at v_fault v_name v_low v_high v_tape v_line v_imagePins v_imageBars v_imageName v_imageLow v_imageHigh v_isKept r7.1 r7.2.1 r7.2.2.1 r7.2.2.2 v_one v_other v_thought v_gone v_tied v_part v_lack v_down v_parts v_lacks v_downs (upd v_sort p1.toNatClampNeg 0) v_items v_item v_carried v_first v_second)) hx hb hK hP hD hS 17 rfl rfl g8 rfl dX7_film_20 (fun H locs hP hD hS => ?_)
    refine lv_aload_n hx hb dX7_film_21 rfl (lv_at hl 0 rfl) ?_
    refine gf_X7_62 h0 hP 0 rfl rfl dX7_film_22 ?_
    refine lv_iload_n hx hb dX7_film_25 rfl (lv_at hl 1 rfl) ?_
    refine lv_aload_n hx hb dX7_film_26 rfl (lv_at hl 0 rfl) ?_
    refine gf_X7_106 h0 hP 0 rfl rfl dX7_film_27 ?_
    obtain ⟨g9, E⟩ := gd_e E
    refine asti (wo := (wX7 cI cZ a v_pins v_bars v_taped v_lined v_at v_fault v_name v_low v_high v_tape v_line v_imagePins v_imageBars v_imageName v_imageLow v_imageHigh v_isKept r7.1 r7.2.1 r7.2.2.1 r7.2.2.2 v_one v_other v_thought v_gone v_tied v_part v_lack v_down v_parts v_lacks v_downs (upd v_sort p1.toNatClampNeg 0) (upd v_items p1.toNatClampNeg v_bars) v_item v_carried v_first v_second)) hx hb hK hP hD hS 18 rfl rfl g9 rfl dX7_film_30 (fun H locs hP hD hS => ?_)
    refine lv_iconst (v := 0) hx hb dX7_film_31 (by decide) ?_
    refine lv_istore_n (lv' := [(2, .int 0), (0, .ref (a 0)), (1, .int p1)]) hx hb dX7_film_32 rfl hl (by decide) rfl (fun ls hl => ?_)
    exact J33 5000 _ _ _ _ _ _ _ _ _ _ _ E hP hD hS (lv_sub hl [1, 2, 0] rfl)
  · have E := br_p E c6
    refine lv_bipush (v := (-2)) hx hb dX7_film_7 (by decide) ?_
    exact hfin _ (Option.some.inj E) _ _ _ _ hP hD hS dX7_film_9
theorem hdX7_image : yX7_image.cls = RX7 ∧ yX7_image.cls ≠ "java/lang/invoke/MethodHandle" ∧ yX7_image.cls ≠ "java/lang/invoke/VarHandle" ∧ (parseMethodDescriptor yX7_image.desc).map (fun d => d.parameters.length) = some 0 := by decide +kernel
noncomputable def FX7_image_b49 (v_pins v_bars : Int32) (v_name v_low v_high : Nat → Int32)  (k49 : Int32 → Int32 → Int32 → (Nat → Int32) → (Nat → Int32) → (Nat → Int32) → Int32 → Option (Int32 × Int32 × Int32 × (Nat → Int32) × (Nat → Int32) × (Nat → Int32) × Int32)) (l1 v_imagePins v_imageBars : Int32) (v_imageName v_imageLow v_imageHigh : Nat → Int32) (v_isKept : Int32) : Option (Int32 × Int32 × Int32 × (Nat → Int32) × (Nat → Int32) × (Nat → Int32) × Int32) := (if 24 ≤ l1 then (some (v_pins, v_imagePins, v_imageBars, v_imageName, v_imageLow, v_imageHigh, v_isKept)) else (gd (vp_in l1 24) (gd (vp_in l1 24) (gd (vp_in l1 24) (gd (vp_in l1 24) (k49 (l1 + 1) v_imagePins v_imageBars v_imageName (upd v_imageLow l1.toNatClampNeg (v_low l1.toNatClampNeg)) (upd v_imageHigh l1.toNatClampNeg (v_high l1.toNatClampNeg)) v_isKept))))))
noncomputable def FX7_image_h49 (v_pins v_bars : Int32) (v_name v_low v_high : Nat → Int32)  : Nat → Int32 → Int32 → Int32 → (Nat → Int32) → (Nat → Int32) → (Nat → Int32) → Int32 → Option (Int32 × Int32 × Int32 × (Nat → Int32) × (Nat → Int32) × (Nat → Int32) × Int32)
  | 0 => fun _ _ _ _ _ _ _ => none
  | n + 1 => fun l1 v_imagePins v_imageBars v_imageName v_imageLow v_imageHigh v_isKept => FX7_image_b49 v_pins v_bars v_name v_low v_high  (FX7_image_h49 v_pins v_bars v_name v_low v_high  n) l1 v_imagePins v_imageBars v_imageName v_imageLow v_imageHigh v_isKept
noncomputable def FX7_image_b23 (v_pins v_bars : Int32) (v_name v_low v_high : Nat → Int32)  (k23 : Int32 → Int32 → Int32 → (Nat → Int32) → (Nat → Int32) → (Nat → Int32) → Int32 → Option (Int32 × Int32 × Int32 × (Nat → Int32) × (Nat → Int32) × (Nat → Int32) × Int32)) (l1 v_imagePins v_imageBars : Int32) (v_imageName v_imageLow v_imageHigh : Nat → Int32) (v_isKept : Int32) : Option (Int32 × Int32 × Int32 × (Nat → Int32) × (Nat → Int32) × (Nat → Int32) × Int32) := (if 48 ≤ l1 then (FX7_image_h49 v_pins v_bars v_name v_low v_high  5000 0 v_imagePins v_imageBars v_imageName v_imageLow v_imageHigh v_isKept) else (gd (vp_in l1 48) (gd (vp_in l1 48) (k23 (l1 + 1) v_imagePins v_imageBars (upd v_imageName l1.toNatClampNeg (v_name l1.toNatClampNeg)) v_imageLow v_imageHigh v_isKept))))
noncomputable def FX7_image_h23 (v_pins v_bars : Int32) (v_name v_low v_high : Nat → Int32)  : Nat → Int32 → Int32 → Int32 → (Nat → Int32) → (Nat → Int32) → (Nat → Int32) → Int32 → Option (Int32 × Int32 × Int32 × (Nat → Int32) × (Nat → Int32) × (Nat → Int32) × Int32)
  | 0 => fun _ _ _ _ _ _ _ => none
  | n + 1 => fun l1 v_imagePins v_imageBars v_imageName v_imageLow v_imageHigh v_isKept => FX7_image_b23 v_pins v_bars v_name v_low v_high  (FX7_image_h23 v_pins v_bars v_name v_low v_high  n) l1 v_imagePins v_imageBars v_imageName v_imageLow v_imageHigh v_isKept
noncomputable def FX7_image (v_pins v_bars : Int32) (v_name v_low v_high : Nat → Int32) (v_imagePins v_imageBars : Int32) (v_imageName v_imageLow v_imageHigh : Nat → Int32) (v_isKept : Int32) : Option (Int32 × Int32 × Int32 × (Nat → Int32) × (Nat → Int32) × (Nat → Int32) × Int32) := (FX7_image_h23 v_pins v_bars v_name v_low v_high  5000 0 v_pins v_bars v_imageName v_imageLow v_imageHigh 1)
set_option maxHeartbeats 4000000 in
set_option maxRecDepth 100000 in
theorem c_X7_image (l : Launch) (D : va_G) (cI cZ cS : ClassId) (a : Nat → Nat) (v_pins v_bars v_taped v_lined v_at v_fault : Int32) (v_name v_low v_high v_tape v_line : Nat → Int32) (v_imagePins v_imageBars : Int32) (v_imageName v_imageLow v_imageHigh : Nat → Int32) (v_isKept : Int32) (v_to v_carries : Nat → Int32) (v_seen v_rank : Int32) (v_one v_other : Nat → Int32) (v_thought v_gone : Int32) (v_tied v_part v_lack v_down : Nat → Int32) (v_parts v_lacks v_downs : Int32) (v_sort v_items v_item v_carried : Nat → Int32) (v_first v_second : Int32)  (u : Int32 × Int32 × Int32 × (Nat → Int32) × (Nat → Int32) × (Nat → Int32) × Int32) (hF : FX7_image v_pins v_bars v_name v_low v_high v_imagePins v_imageBars v_imageName v_imageLow v_imageHigh v_isKept = some u) : MCi l D (tyL cI cZ cS) yX7_image cX7_image 2 (some .int) 0 0 [.ref (a 0)] (wX7 cI cZ a v_pins v_bars v_taped v_lined v_at v_fault v_name v_low v_high v_tape v_line v_imagePins v_imageBars v_imageName v_imageLow v_imageHigh v_isKept v_to v_carries v_seen v_rank v_one v_other v_thought v_gone v_tied v_part v_lack v_down v_parts v_lacks v_downs v_sort v_items v_item v_carried v_first v_second) (wX7 cI cZ a v_pins v_bars v_taped v_lined v_at v_fault v_name v_low v_high v_tape v_line u.2.1 u.2.2.1 u.2.2.2.1 u.2.2.2.2.1 u.2.2.2.2.2.1 u.2.2.2.2.2.2 v_to v_carries v_seen v_rank v_one v_other v_thought v_gone v_tied v_part v_lack v_down v_parts v_lacks v_downs v_sort v_items v_item v_carried v_first v_second) u.1 := by
  refine MCi.mk (by decide) (Nat.le_of_ble_eq_true rfl) ?_
  intro p e s m args below meth c A ls Q h0 hP hD hA hS hl hfin0
  have hfin : ∀ (u' : Int32 × Int32 × Int32 × (Nat → Int32) × (Nat → Int32) × (Nat → Int32) × Int32), u' = u → ∀ (H : Heap) (locs : List Loc) (ls : Array Slot) (pc : Nat), va_P D vwCl (wX7 cI cZ a v_pins v_bars v_taped v_lined v_at v_fault v_name v_low v_high v_tape v_line u'.2.1 u'.2.2.1 u'.2.2.2.1 u'.2.2.2.2.1 u'.2.2.2.2.2.1 u'.2.2.2.2.2.2 v_to v_carries v_seen v_rank v_one v_other v_thought v_gone v_tied v_part v_lack v_down v_parts v_lacks v_downs v_sort v_items v_item v_carried v_first v_second) H → va_D A (wX7 cI cZ a v_pins v_bars v_taped v_lined v_at v_fault v_name v_low v_high v_tape v_line u'.2.1 u'.2.2.1 u'.2.2.2.1 u'.2.2.2.2.1 u'.2.2.2.2.2.1 u'.2.2.2.2.2.2 v_to v_carries v_seen v_rank v_one v_other v_thought v_gone v_tied v_part v_lack v_down v_parts v_lacks v_downs v_sort v_items v_item v_carried v_first v_second) → va_S A s.heap H locs → decode cX7_image pc = .ok (.ireturn, 1) → W p l e (uR 0 0) s m args below meth c H locs 0 0 Q (F0 m pc ls [.int u'.1]) := by intro u' hu; subst hu; exact hfin0
  clear hfin0
  obtain ⟨hx, hb, hr, hlk, hml, hown, hts, hK⟩ := id h0
  have hl : lv_has ls 2 [(0, .ref (a 0))] := hl
  have E := hF
  have J49 : ∀ (n49 : Nat) (l1 v_imagePins v_imageBars : Int32) (v_imageName v_imageLow v_imageHigh : Nat → Int32) (v_isKept : Int32) (H : Heap) (locs : List Loc) (ls : Array Slot), FX7_image_h49 v_pins v_bars v_name v_low v_high  n49 l1 v_imagePins v_imageBars v_imageName v_imageLow v_imageHigh v_isKept = some u → va_P D vwCl (wX7 cI cZ a v_pins v_bars v_taped v_lined v_at v_fault v_name v_low v_high v_tape v_line v_imagePins v_imageBars v_imageName v_imageLow v_imageHigh v_isKept v_to v_carries v_seen v_rank v_one v_other v_thought v_gone v_tied v_part v_lack v_down v_parts v_lacks v_downs v_sort v_items v_item v_carried v_first v_second) H → va_D A (wX7 cI cZ a v_pins v_bars v_taped v_lined v_at v_fault v_name v_low v_high v_tape v_line v_imagePins v_imageBars v_imageName v_imageLow v_imageHigh v_isKept v_to v_carries v_seen v_rank v_one v_other v_thought v_gone v_tied v_part v_lack v_down v_parts v_lacks v_downs v_sort v_items v_item v_carried v_first v_second) → va_S A s.heap H locs → lv_has ls 2 [(0, .ref (a 0)), (1, .int l1)] → W p l e (uR 0 0) s m args below meth c H locs 0 0 Q (F0 m 49 ls []) := by
    intro n49
    induction n49 with
    | zero => intro l1 v_imagePins v_imageBars v_imageName v_imageLow v_imageHigh v_isKept H locs ls E; exact none_e E
    | succ n49 ih49 =>
      intro l1 v_imagePins v_imageBars v_imageName v_imageLow v_imageHigh v_isKept H locs ls E hP hD hS hl
      have E : FX7_image_b49 v_pins v_bars v_name v_low v_high  (FX7_image_h49 v_pins v_bars v_name v_low v_high  n49) l1 v_imagePins v_imageBars v_imageName v_imageLow v_imageHigh v_isKept = some u := E
      refine lv_iload_n hx hb dX7_image_49 rfl (lv_at hl 1 rfl) ?_
      refine lv_bipush (v := 24) hx hb dX7_image_50 (by decide) ?_
      refine lv_icmp_ge (tgt := 85) hx hb dX7_image_52 (by decide) (fun c1 => ?_) (fun c1 => ?_)
      · have E := br_p E c1
        refine lv_aload_n hx hb dX7_image_85 rfl (lv_at hl 0 rfl) ?_
        refine gf_X7_71 h0 hP 0 rfl rfl dX7_image_86 ?_
        exact hfin _ (Option.some.inj E) _ _ _ _ hP hD hS dX7_image_89
      · have E := br_n E c1
        refine lv_aload_n hx hb dX7_image_55 rfl (lv_at hl 0 rfl) ?_
        refine gf_X7_28 h0 hP 0 rfl rfl dX7_image_56 ?_
        refine lv_iload_n hx hb dX7_image_59 rfl (lv_at hl 1 rfl) ?_
        refine lv_aload_n hx hb dX7_image_60 rfl (lv_at hl 0 rfl) ?_
        refine gf_X7_13 h0 hP 0 rfl rfl dX7_image_61 ?_
        refine lv_iload_n hx hb dX7_image_64 rfl (lv_at hl 1 rfl) ?_
        obtain ⟨g2, E⟩ := gd_e E
        refine aldi hx hb hK hP 2 rfl rfl g2 dX7_image_65 ?_
        obtain ⟨g3, E⟩ := gd_e E
        refine asti (wo := (wX7 cI cZ a v_pins v_bars v_taped v_lined v_at v_fault v_name v_low v_high v_tape v_line v_imagePins v_imageBars v_imageName (upd v_imageLow l1.toNatClampNeg (v_low l1.toNatClampNeg)) v_imageHigh v_isKept v_to v_carries v_seen v_rank v_one v_other v_thought v_gone v_tied v_part v_lack v_down v_parts v_lacks v_downs v_sort v_items v_item v_carried v_first v_second)) hx hb hK hP hD hS 7 rfl rfl g3 rfl dX7_image_66 (fun H locs hP hD hS => ?_)
        refine lv_aload_n hx hb dX7_image_67 rfl (lv_at hl 0 rfl) ?_
        refine gf_X7_31 h0 hP 0 rfl rfl dX7_image_68 ?_
        refine lv_iload_n hx hb dX7_image_71 rfl (lv_at hl 1 rfl) ?_
        refine lv_aload_n hx hb dX7_image_72 rfl (lv_at hl 0 rfl) ?_
        refine gf_X7_16 h0 hP 0 rfl rfl dX7_image_73 ?_
        refine lv_iload_n hx hb dX7_image_76 rfl (lv_at hl 1 rfl) ?_
        obtain ⟨g4, E⟩ := gd_e E
        refine aldi hx hb hK hP 3 rfl rfl g4 dX7_image_77 ?_
        obtain ⟨g5, E⟩ := gd_e E
        refine asti (wo := (wX7 cI cZ a v_pins v_bars v_taped v_lined v_at v_fault v_name v_low v_high v_tape v_line v_imagePins v_imageBars v_imageName (upd v_imageLow l1.toNatClampNeg (v_low l1.toNatClampNeg)) (upd v_imageHigh l1.toNatClampNeg (v_high l1.toNatClampNeg)) v_isKept v_to v_carries v_seen v_rank v_one v_other v_thought v_gone v_tied v_part v_lack v_down v_parts v_lacks v_downs v_sort v_items v_item v_carried v_first v_second)) hx hb hK hP hD hS 8 rfl rfl g5 rfl dX7_image_78 (fun H locs hP hD hS => ?_)
        refine lv_iinc (v := (l1 + 1)) (lv' := [(1, .int (l1 + 1)), (0, .ref (a 0))]) hx hb dX7_image_79 hl (k := 1) rfl rfl (by decide) rfl (fun ls hl => ?_)
        refine lv_goto (tgt := 49) hx hb dX7_image_82 (by decide) ?_
        exact ih49 _ _ _ _ _ _ _ _ _ _ E hP hD hS (lv_sub hl [1, 0] rfl)
  have J23 : ∀ (n23 : Nat) (l1 v_imagePins v_imageBars : Int32) (v_imageName v_imageLow v_imageHigh : Nat → Int32) (v_isKept : Int32) (H : Heap) (locs : List Loc) (ls : Array Slot), FX7_image_h23 v_pins v_bars v_name v_low v_high  n23 l1 v_imagePins v_imageBars v_imageName v_imageLow v_imageHigh v_isKept = some u → va_P D vwCl (wX7 cI cZ a v_pins v_bars v_taped v_lined v_at v_fault v_name v_low v_high v_tape v_line v_imagePins v_imageBars v_imageName v_imageLow v_imageHigh v_isKept v_to v_carries v_seen v_rank v_one v_other v_thought v_gone v_tied v_part v_lack v_down v_parts v_lacks v_downs v_sort v_items v_item v_carried v_first v_second) H → va_D A (wX7 cI cZ a v_pins v_bars v_taped v_lined v_at v_fault v_name v_low v_high v_tape v_line v_imagePins v_imageBars v_imageName v_imageLow v_imageHigh v_isKept v_to v_carries v_seen v_rank v_one v_other v_thought v_gone v_tied v_part v_lack v_down v_parts v_lacks v_downs v_sort v_items v_item v_carried v_first v_second) → va_S A s.heap H locs → lv_has ls 2 [(0, .ref (a 0)), (1, .int l1)] → W p l e (uR 0 0) s m args below meth c H locs 0 0 Q (F0 m 23 ls []) := by
    intro n23
    induction n23 with
    | zero => intro l1 v_imagePins v_imageBars v_imageName v_imageLow v_imageHigh v_isKept H locs ls E; exact none_e E
    | succ n23 ih23 =>
      intro l1 v_imagePins v_imageBars v_imageName v_imageLow v_imageHigh v_isKept H locs ls E hP hD hS hl
      have E : FX7_image_b23 v_pins v_bars v_name v_low v_high  (FX7_image_h23 v_pins v_bars v_name v_low v_high  n23) l1 v_imagePins v_imageBars v_imageName v_imageLow v_imageHigh v_isKept = some u := E
      refine lv_iload_n hx hb dX7_image_23 rfl (lv_at hl 1 rfl) ?_
      refine lv_bipush (v := 48) hx hb dX7_image_24 (by decide) ?_
      refine lv_icmp_ge (tgt := 47) hx hb dX7_image_26 (by decide) (fun c6 => ?_) (fun c6 => ?_)
      · have E := br_p E c6
        refine lv_iconst (v := 0) hx hb dX7_image_47 (by decide) ?_
        refine lv_istore_n (lv' := [(1, .int 0), (0, .ref (a 0))]) hx hb dX7_image_48 rfl hl (by decide) rfl (fun ls hl => ?_)
        exact J49 5000 _ _ _ _ _ _ _ _ _ _ E hP hD hS (lv_sub hl [1, 0] rfl)
      · have E := br_n E c6
        refine lv_aload_n hx hb dX7_image_29 rfl (lv_at hl 0 rfl) ?_
        refine gf_X7_25 h0 hP 0 rfl rfl dX7_image_30 ?_
        refine lv_iload_n hx hb dX7_image_33 rfl (lv_at hl 1 rfl) ?_
        refine lv_aload_n hx hb dX7_image_34 rfl (lv_at hl 0 rfl) ?_
        refine gf_X7_9 h0 hP 0 rfl rfl dX7_image_35 ?_
        refine lv_iload_n hx hb dX7_image_38 rfl (lv_at hl 1 rfl) ?_
        obtain ⟨g7, E⟩ := gd_e E
        refine aldi hx hb hK hP 1 rfl rfl g7 dX7_image_39 ?_
        obtain ⟨g8, E⟩ := gd_e E
        refine asti (wo := (wX7 cI cZ a v_pins v_bars v_taped v_lined v_at v_fault v_name v_low v_high v_tape v_line v_imagePins v_imageBars (upd v_imageName l1.toNatClampNeg (v_name l1.toNatClampNeg)) v_imageLow v_imageHigh v_isKept v_to v_carries v_seen v_rank v_one v_other v_thought v_gone v_tied v_part v_lack v_down v_parts v_lacks v_downs v_sort v_items v_item v_carried v_first v_second)) hx hb hK hP hD hS 6 rfl rfl g8 rfl dX7_image_40 (fun H locs hP hD hS => ?_)
        refine lv_iinc (v := (l1 + 1)) (lv' := [(1, .int (l1 + 1)), (0, .ref (a 0))]) hx hb dX7_image_41 hl (k := 1) rfl rfl (by decide) rfl (fun ls hl => ?_)
        refine lv_goto (tgt := 23) hx hb dX7_image_44 (by decide) ?_
        exact ih23 _ _ _ _ _ _ _ _ _ _ E hP hD hS (lv_sub hl [1, 0] rfl)
  refine lv_aload_n hx hb dX7_image_0 rfl (lv_at hl 0 rfl) ?_
  refine lv_iconst (v := 1) hx hb dX7_image_1 (by decide) ?_
  refine pf_X7_276 (wo := (wX7 cI cZ a v_pins v_bars v_taped v_lined v_at v_fault v_name v_low v_high v_tape v_line v_imagePins v_imageBars v_imageName v_imageLow v_imageHigh 1 v_to v_carries v_seen v_rank v_one v_other v_thought v_gone v_tied v_part v_lack v_down v_parts v_lacks v_downs v_sort v_items v_item v_carried v_first v_second)) h0 hP hD hS 0 rfl (Nat.le_of_ble_eq_true rfl) (Or.inr rfl) rfl dX7_image_2 (fun H locs hP hD hS => ?_)
  refine lv_aload_n hx hb dX7_image_5 rfl (lv_at hl 0 rfl) ?_
  refine lv_aload_n hx hb dX7_image_6 rfl (lv_at hl 0 rfl) ?_
  refine gf_X7_71 h0 hP 0 rfl rfl dX7_image_7 ?_
  refine pf_X7_280 (wo := (wX7 cI cZ a v_pins v_bars v_taped v_lined v_at v_fault v_name v_low v_high v_tape v_line v_pins v_imageBars v_imageName v_imageLow v_imageHigh 1 v_to v_carries v_seen v_rank v_one v_other v_thought v_gone v_tied v_part v_lack v_down v_parts v_lacks v_downs v_sort v_items v_item v_carried v_first v_second)) h0 hP hD hS 0 rfl (Nat.le_of_ble_eq_true rfl) rfl dX7_image_10 (fun H locs hP hD hS => ?_)
  refine lv_aload_n hx hb dX7_image_13 rfl (lv_at hl 0 rfl) ?_
  refine lv_aload_n hx hb dX7_image_14 rfl (lv_at hl 0 rfl) ?_
  refine gf_X7_106 h0 hP 0 rfl rfl dX7_image_15 ?_
  refine pf_X7_283 (wo := (wX7 cI cZ a v_pins v_bars v_taped v_lined v_at v_fault v_name v_low v_high v_tape v_line v_pins v_bars v_imageName v_imageLow v_imageHigh 1 v_to v_carries v_seen v_rank v_one v_other v_thought v_gone v_tied v_part v_lack v_down v_parts v_lacks v_downs v_sort v_items v_item v_carried v_first v_second)) h0 hP hD hS 0 rfl (Nat.le_of_ble_eq_true rfl) rfl dX7_image_18 (fun H locs hP hD hS => ?_)
  refine lv_iconst (v := 0) hx hb dX7_image_21 (by decide) ?_
  refine lv_istore_n (lv' := [(1, .int 0), (0, .ref (a 0))]) hx hb dX7_image_22 rfl hl (by decide) rfl (fun ls hl => ?_)
  exact J23 5000 _ _ _ _ _ _ _ _ _ _ E hP hD hS (lv_sub hl [1, 0] rfl)
theorem hdX7_back : yX7_back.cls = RX7 ∧ yX7_back.cls ≠ "java/lang/invoke/MethodHandle" ∧ yX7_back.cls ≠ "java/lang/invoke/VarHandle" ∧ (parseMethodDescriptor yX7_back.desc).map (fun d => d.parameters.length) = some 0 := by decide +kernel
noncomputable def FX7_back_b54 (v_imagePins v_imageBars : Int32) (v_imageName v_imageLow v_imageHigh : Nat → Int32) (v_isKept : Int32)  (k54 : Int32 → Int32 → Int32 → (Nat → Int32) → (Nat → Int32) → (Nat → Int32) → Option (Int32 × Int32 × Int32 × (Nat → Int32) × (Nat → Int32) × (Nat → Int32))) (l1 v_pins v_bars : Int32) (v_name v_low v_high : Nat → Int32) : Option (Int32 × Int32 × Int32 × (Nat → Int32) × (Nat → Int32) × (Nat → Int32)) := (if 24 ≤ l1 then (some (v_pins, v_pins, v_bars, v_name, v_low, v_high)) else (gd (vp_in l1 24) (gd (vp_in l1 24) (gd (vp_in l1 24) (gd (vp_in l1 24) (k54 (l1 + 1) v_pins v_bars v_name (upd v_low l1.toNatClampNeg (v_imageLow l1.toNatClampNeg)) (upd v_high l1.toNatClampNeg (v_imageHigh l1.toNatClampNeg))))))))
noncomputable def FX7_back_h54 (v_imagePins v_imageBars : Int32) (v_imageName v_imageLow v_imageHigh : Nat → Int32) (v_isKept : Int32)  : Nat → Int32 → Int32 → Int32 → (Nat → Int32) → (Nat → Int32) → (Nat → Int32) → Option (Int32 × Int32 × Int32 × (Nat → Int32) × (Nat → Int32) × (Nat → Int32))
  | 0 => fun _ _ _ _ _ _ => none
  | n + 1 => fun l1 v_pins v_bars v_name v_low v_high => FX7_back_b54 v_imagePins v_imageBars v_imageName v_imageLow v_imageHigh v_isKept  (FX7_back_h54 v_imagePins v_imageBars v_imageName v_imageLow v_imageHigh v_isKept  n) l1 v_pins v_bars v_name v_low v_high
noncomputable def FX7_back_b28 (v_imagePins v_imageBars : Int32) (v_imageName v_imageLow v_imageHigh : Nat → Int32) (v_isKept : Int32)  (k28 : Int32 → Int32 → Int32 → (Nat → Int32) → (Nat → Int32) → (Nat → Int32) → Option (Int32 × Int32 × Int32 × (Nat → Int32) × (Nat → Int32) × (Nat → Int32))) (l1 v_pins v_bars : Int32) (v_name v_low v_high : Nat → Int32) : Option (Int32 × Int32 × Int32 × (Nat → Int32) × (Nat → Int32) × (Nat → Int32)) := (if 48 ≤ l1 then (FX7_back_h54 v_imagePins v_imageBars v_imageName v_imageLow v_imageHigh v_isKept  5000 0 v_pins v_bars v_name v_low v_high) else (gd (vp_in l1 48) (gd (vp_in l1 48) (k28 (l1 + 1) v_pins v_bars (upd v_name l1.toNatClampNeg (v_imageName l1.toNatClampNeg)) v_low v_high))))
noncomputable def FX7_back_h28 (v_imagePins v_imageBars : Int32) (v_imageName v_imageLow v_imageHigh : Nat → Int32) (v_isKept : Int32)  : Nat → Int32 → Int32 → Int32 → (Nat → Int32) → (Nat → Int32) → (Nat → Int32) → Option (Int32 × Int32 × Int32 × (Nat → Int32) × (Nat → Int32) × (Nat → Int32))
  | 0 => fun _ _ _ _ _ _ => none
  | n + 1 => fun l1 v_pins v_bars v_name v_low v_high => FX7_back_b28 v_imagePins v_imageBars v_imageName v_imageLow v_imageHigh v_isKept  (FX7_back_h28 v_imagePins v_imageBars v_imageName v_imageLow v_imageHigh v_isKept  n) l1 v_pins v_bars v_name v_low v_high
noncomputable def FX7_back (v_pins v_bars : Int32) (v_name v_low v_high : Nat → Int32) (v_imagePins v_imageBars : Int32) (v_imageName v_imageLow v_imageHigh : Nat → Int32) (v_isKept : Int32) : Option (Int32 × Int32 × Int32 × (Nat → Int32) × (Nat → Int32) × (Nat → Int32)) := (if v_isKept = 0 then (some ((-3), v_pins, v_bars, v_name, v_low, v_high)) else (FX7_back_h28 v_imagePins v_imageBars v_imageName v_imageLow v_imageHigh v_isKept  5000 0 v_imagePins v_imageBars v_name v_low v_high))
set_option maxHeartbeats 4000000 in
set_option maxRecDepth 100000 in
theorem c_X7_back (l : Launch) (D : va_G) (cI cZ cS : ClassId) (a : Nat → Nat) (v_pins v_bars v_taped v_lined v_at v_fault : Int32) (v_name v_low v_high v_tape v_line : Nat → Int32) (v_imagePins v_imageBars : Int32) (v_imageName v_imageLow v_imageHigh : Nat → Int32) (v_isKept : Int32) (v_to v_carries : Nat → Int32) (v_seen v_rank : Int32) (v_one v_other : Nat → Int32) (v_thought v_gone : Int32) (v_tied v_part v_lack v_down : Nat → Int32) (v_parts v_lacks v_downs : Int32) (v_sort v_items v_item v_carried : Nat → Int32) (v_first v_second : Int32)  (u : Int32 × Int32 × Int32 × (Nat → Int32) × (Nat → Int32) × (Nat → Int32)) (hF : FX7_back v_pins v_bars v_name v_low v_high v_imagePins v_imageBars v_imageName v_imageLow v_imageHigh v_isKept = some u) : MCi l D (tyL cI cZ cS) yX7_back cX7_back 2 (some .int) 0 0 [.ref (a 0)] (wX7 cI cZ a v_pins v_bars v_taped v_lined v_at v_fault v_name v_low v_high v_tape v_line v_imagePins v_imageBars v_imageName v_imageLow v_imageHigh v_isKept v_to v_carries v_seen v_rank v_one v_other v_thought v_gone v_tied v_part v_lack v_down v_parts v_lacks v_downs v_sort v_items v_item v_carried v_first v_second) (wX7 cI cZ a u.2.1 u.2.2.1 v_taped v_lined v_at v_fault u.2.2.2.1 u.2.2.2.2.1 u.2.2.2.2.2 v_tape v_line v_imagePins v_imageBars v_imageName v_imageLow v_imageHigh v_isKept v_to v_carries v_seen v_rank v_one v_other v_thought v_gone v_tied v_part v_lack v_down v_parts v_lacks v_downs v_sort v_items v_item v_carried v_first v_second) u.1 := by
  refine MCi.mk (by decide) (Nat.le_of_ble_eq_true rfl) ?_
  intro p e s m args below meth c A ls Q h0 hP hD hA hS hl hfin0
  have hfin : ∀ (u' : Int32 × Int32 × Int32 × (Nat → Int32) × (Nat → Int32) × (Nat → Int32)), u' = u → ∀ (H : Heap) (locs : List Loc) (ls : Array Slot) (pc : Nat), va_P D vwCl (wX7 cI cZ a u'.2.1 u'.2.2.1 v_taped v_lined v_at v_fault u'.2.2.2.1 u'.2.2.2.2.1 u'.2.2.2.2.2 v_tape v_line v_imagePins v_imageBars v_imageName v_imageLow v_imageHigh v_isKept v_to v_carries v_seen v_rank v_one v_other v_thought v_gone v_tied v_part v_lack v_down v_parts v_lacks v_downs v_sort v_items v_item v_carried v_first v_second) H → va_D A (wX7 cI cZ a u'.2.1 u'.2.2.1 v_taped v_lined v_at v_fault u'.2.2.2.1 u'.2.2.2.2.1 u'.2.2.2.2.2 v_tape v_line v_imagePins v_imageBars v_imageName v_imageLow v_imageHigh v_isKept v_to v_carries v_seen v_rank v_one v_other v_thought v_gone v_tied v_part v_lack v_down v_parts v_lacks v_downs v_sort v_items v_item v_carried v_first v_second) → va_S A s.heap H locs → decode cX7_back pc = .ok (.ireturn, 1) → W p l e (uR 0 0) s m args below meth c H locs 0 0 Q (F0 m pc ls [.int u'.1]) := by intro u' hu; subst hu; exact hfin0
  clear hfin0
  obtain ⟨hx, hb, hr, hlk, hml, hown, hts, hK⟩ := id h0
  have hl : lv_has ls 2 [(0, .ref (a 0))] := hl
  have E := hF
  have J54 : ∀ (n54 : Nat) (l1 v_pins v_bars : Int32) (v_name v_low v_high : Nat → Int32) (H : Heap) (locs : List Loc) (ls : Array Slot), FX7_back_h54 v_imagePins v_imageBars v_imageName v_imageLow v_imageHigh v_isKept  n54 l1 v_pins v_bars v_name v_low v_high = some u → va_P D vwCl (wX7 cI cZ a v_pins v_bars v_taped v_lined v_at v_fault v_name v_low v_high v_tape v_line v_imagePins v_imageBars v_imageName v_imageLow v_imageHigh v_isKept v_to v_carries v_seen v_rank v_one v_other v_thought v_gone v_tied v_part v_lack v_down v_parts v_lacks v_downs v_sort v_items v_item v_carried v_first v_second) H → va_D A (wX7 cI cZ a v_pins v_bars v_taped v_lined v_at v_fault v_name v_low v_high v_tape v_line v_imagePins v_imageBars v_imageName v_imageLow v_imageHigh v_isKept v_to v_carries v_seen v_rank v_one v_other v_thought v_gone v_tied v_part v_lack v_down v_parts v_lacks v_downs v_sort v_items v_item v_carried v_first v_second) → va_S A s.heap H locs → lv_has ls 2 [(0, .ref (a 0)), (1, .int l1)] → W p l e (uR 0 0) s m args below meth c H locs 0 0 Q (F0 m 54 ls []) := by
    intro n54
    induction n54 with
    | zero => intro l1 v_pins v_bars v_name v_low v_high H locs ls E; exact none_e E
    | succ n54 ih54 =>
      intro l1 v_pins v_bars v_name v_low v_high H locs ls E hP hD hS hl
      have E : FX7_back_b54 v_imagePins v_imageBars v_imageName v_imageLow v_imageHigh v_isKept  (FX7_back_h54 v_imagePins v_imageBars v_imageName v_imageLow v_imageHigh v_isKept  n54) l1 v_pins v_bars v_name v_low v_high = some u := E
      refine lv_iload_n hx hb dX7_back_54 rfl (lv_at hl 1 rfl) ?_
      refine lv_bipush (v := 24) hx hb dX7_back_55 (by decide) ?_
      refine lv_icmp_ge (tgt := 90) hx hb dX7_back_57 (by decide) (fun c1 => ?_) (fun c1 => ?_)
      · have E := br_p E c1
        refine lv_aload_n hx hb dX7_back_90 rfl (lv_at hl 0 rfl) ?_
        refine gf_X7_71 h0 hP 0 rfl rfl dX7_back_91 ?_
        exact hfin _ (Option.some.inj E) _ _ _ _ hP hD hS dX7_back_94
      · have E := br_n E c1
        refine lv_aload_n hx hb dX7_back_60 rfl (lv_at hl 0 rfl) ?_
        refine gf_X7_13 h0 hP 0 rfl rfl dX7_back_61 ?_
        refine lv_iload_n hx hb dX7_back_64 rfl (lv_at hl 1 rfl) ?_
        refine lv_aload_n hx hb dX7_back_65 rfl (lv_at hl 0 rfl) ?_
        refine gf_X7_28 h0 hP 0 rfl rfl dX7_back_66 ?_
        refine lv_iload_n hx hb dX7_back_69 rfl (lv_at hl 1 rfl) ?_
        obtain ⟨g2, E⟩ := gd_e E
        refine aldi hx hb hK hP 7 rfl rfl g2 dX7_back_70 ?_
        obtain ⟨g3, E⟩ := gd_e E
        refine asti (wo := (wX7 cI cZ a v_pins v_bars v_taped v_lined v_at v_fault v_name (upd v_low l1.toNatClampNeg (v_imageLow l1.toNatClampNeg)) v_high v_tape v_line v_imagePins v_imageBars v_imageName v_imageLow v_imageHigh v_isKept v_to v_carries v_seen v_rank v_one v_other v_thought v_gone v_tied v_part v_lack v_down v_parts v_lacks v_downs v_sort v_items v_item v_carried v_first v_second)) hx hb hK hP hD hS 2 rfl rfl g3 rfl dX7_back_71 (fun H locs hP hD hS => ?_)
        refine lv_aload_n hx hb dX7_back_72 rfl (lv_at hl 0 rfl) ?_
        refine gf_X7_16 h0 hP 0 rfl rfl dX7_back_73 ?_
        refine lv_iload_n hx hb dX7_back_76 rfl (lv_at hl 1 rfl) ?_
        refine lv_aload_n hx hb dX7_back_77 rfl (lv_at hl 0 rfl) ?_
        refine gf_X7_31 h0 hP 0 rfl rfl dX7_back_78 ?_
        refine lv_iload_n hx hb dX7_back_81 rfl (lv_at hl 1 rfl) ?_
        obtain ⟨g4, E⟩ := gd_e E
        refine aldi hx hb hK hP 8 rfl rfl g4 dX7_back_82 ?_
        obtain ⟨g5, E⟩ := gd_e E
        refine asti (wo := (wX7 cI cZ a v_pins v_bars v_taped v_lined v_at v_fault v_name (upd v_low l1.toNatClampNeg (v_imageLow l1.toNatClampNeg)) (upd v_high l1.toNatClampNeg (v_imageHigh l1.toNatClampNeg)) v_tape v_line v_imagePins v_imageBars v_imageName v_imageLow v_imageHigh v_isKept v_to v_carries v_seen v_rank v_one v_other v_thought v_gone v_tied v_part v_lack v_down v_parts v_lacks v_downs v_sort v_items v_item v_carried v_first v_second)) hx hb hK hP hD hS 3 rfl rfl g5 rfl dX7_back_83 (fun H locs hP hD hS => ?_)
        refine lv_iinc (v := (l1 + 1)) (lv' := [(1, .int (l1 + 1)), (0, .ref (a 0))]) hx hb dX7_back_84 hl (k := 1) rfl rfl (by decide) rfl (fun ls hl => ?_)
        refine lv_goto (tgt := 54) hx hb dX7_back_87 (by decide) ?_
        exact ih54 _ _ _ _ _ _ _ _ _ E hP hD hS (lv_sub hl [1, 0] rfl)
  have J28 : ∀ (n28 : Nat) (l1 v_pins v_bars : Int32) (v_name v_low v_high : Nat → Int32) (H : Heap) (locs : List Loc) (ls : Array Slot), FX7_back_h28 v_imagePins v_imageBars v_imageName v_imageLow v_imageHigh v_isKept  n28 l1 v_pins v_bars v_name v_low v_high = some u → va_P D vwCl (wX7 cI cZ a v_pins v_bars v_taped v_lined v_at v_fault v_name v_low v_high v_tape v_line v_imagePins v_imageBars v_imageName v_imageLow v_imageHigh v_isKept v_to v_carries v_seen v_rank v_one v_other v_thought v_gone v_tied v_part v_lack v_down v_parts v_lacks v_downs v_sort v_items v_item v_carried v_first v_second) H → va_D A (wX7 cI cZ a v_pins v_bars v_taped v_lined v_at v_fault v_name v_low v_high v_tape v_line v_imagePins v_imageBars v_imageName v_imageLow v_imageHigh v_isKept v_to v_carries v_seen v_rank v_one v_other v_thought v_gone v_tied v_part v_lack v_down v_parts v_lacks v_downs v_sort v_items v_item v_carried v_first v_second) → va_S A s.heap H locs → lv_has ls 2 [(0, .ref (a 0)), (1, .int l1)] → W p l e (uR 0 0) s m args below meth c H locs 0 0 Q (F0 m 28 ls []) := by
    intro n28
    induction n28 with
    | zero => intro l1 v_pins v_bars v_name v_low v_high H locs ls E; exact none_e E
    | succ n28 ih28 =>
      intro l1 v_pins v_bars v_name v_low v_high H locs ls E hP hD hS hl
      have E : FX7_back_b28 v_imagePins v_imageBars v_imageName v_imageLow v_imageHigh v_isKept  (FX7_back_h28 v_imagePins v_imageBars v_imageName v_imageLow v_imageHigh v_isKept  n28) l1 v_pins v_bars v_name v_low v_high = some u := E
      refine lv_iload_n hx hb dX7_back_28 rfl (lv_at hl 1 rfl) ?_
      refine lv_bipush (v := 48) hx hb dX7_back_29 (by decide) ?_
      refine lv_icmp_ge (tgt := 52) hx hb dX7_back_31 (by decide) (fun c6 => ?_) (fun c6 => ?_)
      · have E := br_p E c6
        refine lv_iconst (v := 0) hx hb dX7_back_52 (by decide) ?_
        refine lv_istore_n (lv' := [(1, .int 0), (0, .ref (a 0))]) hx hb dX7_back_53 rfl hl (by decide) rfl (fun ls hl => ?_)
        exact J54 5000 _ _ _ _ _ _ _ _ _ E hP hD hS (lv_sub hl [1, 0] rfl)
      · have E := br_n E c6
        refine lv_aload_n hx hb dX7_back_34 rfl (lv_at hl 0 rfl) ?_
        refine gf_X7_9 h0 hP 0 rfl rfl dX7_back_35 ?_
        refine lv_iload_n hx hb dX7_back_38 rfl (lv_at hl 1 rfl) ?_
        refine lv_aload_n hx hb dX7_back_39 rfl (lv_at hl 0 rfl) ?_
        refine gf_X7_25 h0 hP 0 rfl rfl dX7_back_40 ?_
        refine lv_iload_n hx hb dX7_back_43 rfl (lv_at hl 1 rfl) ?_
        obtain ⟨g7, E⟩ := gd_e E
        refine aldi hx hb hK hP 6 rfl rfl g7 dX7_back_44 ?_
        obtain ⟨g8, E⟩ := gd_e E
        refine asti (wo := (wX7 cI cZ a v_pins v_bars v_taped v_lined v_at v_fault (upd v_name l1.toNatClampNeg (v_imageName l1.toNatClampNeg)) v_low v_high v_tape v_line v_imagePins v_imageBars v_imageName v_imageLow v_imageHigh v_isKept v_to v_carries v_seen v_rank v_one v_other v_thought v_gone v_tied v_part v_lack v_down v_parts v_lacks v_downs v_sort v_items v_item v_carried v_first v_second)) hx hb hK hP hD hS 1 rfl rfl g8 rfl dX7_back_45 (fun H locs hP hD hS => ?_)
        refine lv_iinc (v := (l1 + 1)) (lv' := [(1, .int (l1 + 1)), (0, .ref (a 0))]) hx hb dX7_back_46 hl (k := 1) rfl rfl (by decide) rfl (fun ls hl => ?_)
        refine lv_goto (tgt := 28) hx hb dX7_back_49 (by decide) ?_
        exact ih28 _ _ _ _ _ _ _ _ _ E hP hD hS (lv_sub hl [1, 0] rfl)
  refine lv_aload_n hx hb dX7_back_0 rfl (lv_at hl 0 rfl) ?_
  refine gf_X7_276 h0 hP 0 rfl rfl dX7_back_1 ?_
  refine lv_if_ne (tgt := 10) hx hb dX7_back_4 (by decide) (fun c9 => ?_) (fun c9 => ?_)
  · have E := br_n E c9
    refine lv_aload_n hx hb dX7_back_10 rfl (lv_at hl 0 rfl) ?_
    refine lv_aload_n hx hb dX7_back_11 rfl (lv_at hl 0 rfl) ?_
    refine gf_X7_280 h0 hP 0 rfl rfl dX7_back_12 ?_
    refine pf_X7_71 (wo := (wX7 cI cZ a v_imagePins v_bars v_taped v_lined v_at v_fault v_name v_low v_high v_tape v_line v_imagePins v_imageBars v_imageName v_imageLow v_imageHigh v_isKept v_to v_carries v_seen v_rank v_one v_other v_thought v_gone v_tied v_part v_lack v_down v_parts v_lacks v_downs v_sort v_items v_item v_carried v_first v_second)) h0 hP hD hS 0 rfl (Nat.le_of_ble_eq_true rfl) rfl dX7_back_15 (fun H locs hP hD hS => ?_)
    refine lv_aload_n hx hb dX7_back_18 rfl (lv_at hl 0 rfl) ?_
    refine lv_aload_n hx hb dX7_back_19 rfl (lv_at hl 0 rfl) ?_
    refine gf_X7_283 h0 hP 0 rfl rfl dX7_back_20 ?_
    refine pf_X7_106 (wo := (wX7 cI cZ a v_imagePins v_imageBars v_taped v_lined v_at v_fault v_name v_low v_high v_tape v_line v_imagePins v_imageBars v_imageName v_imageLow v_imageHigh v_isKept v_to v_carries v_seen v_rank v_one v_other v_thought v_gone v_tied v_part v_lack v_down v_parts v_lacks v_downs v_sort v_items v_item v_carried v_first v_second)) h0 hP hD hS 0 rfl (Nat.le_of_ble_eq_true rfl) rfl dX7_back_23 (fun H locs hP hD hS => ?_)
    refine lv_iconst (v := 0) hx hb dX7_back_26 (by decide) ?_
    refine lv_istore_n (lv' := [(1, .int 0), (0, .ref (a 0))]) hx hb dX7_back_27 rfl hl (by decide) rfl (fun ls hl => ?_)
    exact J28 5000 _ _ _ _ _ _ _ _ _ E hP hD hS (lv_sub hl [1, 0] rfl)
  · have E := br_p E c9
    refine lv_bipush (v := (-3)) hx hb dX7_back_7 (by decide) ?_
    exact hfin _ (Option.some.inj E) _ _ _ _ hP hD hS dX7_back_9
