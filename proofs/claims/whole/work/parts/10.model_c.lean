theorem hdX7_goes : yX7_goes.cls = RX7 ∧ yX7_goes.cls ≠ "java/lang/invoke/MethodHandle" ∧ yX7_goes.cls ≠ "java/lang/invoke/VarHandle" ∧ (parseMethodDescriptor yX7_goes.desc).map (fun d => d.parameters.length) = some 1 := by decide +kernel
noncomputable def FX7_goes_b92 (p1 : Int32) (k7 : Int32 → Int32 → Int32 → (Nat → Int32) → (Nat → Int32) → Int32 → Int32 → Option (Int32 × (Nat → Int32) × (Nat → Int32) × Int32 × Int32)) (l2 l3 l4 : Int32) (v_one v_other : Nat → Int32) (v_thought v_gone : Int32) : Option (Int32 × (Nat → Int32) × (Nat → Int32) × Int32 × Int32) := (k7 l2 l3 (l4 + 1) v_one v_other v_thought v_gone)
noncomputable def FX7_goes_b38 (p1 : Int32) (k7 : Int32 → Int32 → Int32 → (Nat → Int32) → (Nat → Int32) → Int32 → Int32 → Option (Int32 × (Nat → Int32) × (Nat → Int32) × Int32 × Int32)) (l2 l3 l4 : Int32) (v_one v_other : Nat → Int32) (v_thought v_gone : Int32) : Option (Int32 × (Nat → Int32) × (Nat → Int32) × Int32 × Int32) := (gd (vp_in l4 72) (gd (vp_in l4 72) (FX7_goes_b92 p1 k7 (l2 ||| ((1 : Int32) <<< ((((v_one l4.toNatClampNeg) + (v_other l4.toNatClampNeg)) - p1) &&& 31))) l3 l4 v_one v_other v_thought v_gone)))
noncomputable def FX7_goes_b7 (p1 : Int32)  (k7 : Int32 → Int32 → Int32 → (Nat → Int32) → (Nat → Int32) → Int32 → Int32 → Option (Int32 × (Nat → Int32) × (Nat → Int32) × Int32 × Int32)) (l2 l3 l4 : Int32) (v_one v_other : Nat → Int32) (v_thought v_gone : Int32) : Option (Int32 × (Nat → Int32) × (Nat → Int32) × Int32 × Int32) := (if v_thought ≤ l4 then (some (l2, v_one, v_other, l3, (v_gone ||| ((1 : Int32) <<< (p1 &&& 31))))) else (gd (vp_in l4 72) (if (v_one l4.toNatClampNeg) = p1 then (FX7_goes_b38 p1 k7 l2 l3 l4 v_one v_other v_thought v_gone) else (gd (vp_in l4 72) (if (v_other l4.toNatClampNeg) = p1 then (FX7_goes_b38 p1 k7 l2 l3 l4 v_one v_other v_thought v_gone) else (gd (vp_in l4 72) (gd (vp_in l3 72) (gd (vp_in l4 72) (gd (vp_in l3 72) (FX7_goes_b92 p1 k7 l2 (l3 + 1) l4 (upd v_one l3.toNatClampNeg (v_one l4.toNatClampNeg)) (upd v_other l3.toNatClampNeg (v_other l4.toNatClampNeg)) v_thought v_gone))))))))))
noncomputable def FX7_goes_h7 (p1 : Int32)  : Nat → Int32 → Int32 → Int32 → (Nat → Int32) → (Nat → Int32) → Int32 → Int32 → Option (Int32 × (Nat → Int32) × (Nat → Int32) × Int32 × Int32)
  | 0 => fun _ _ _ _ _ _ _ => none
  | n + 1 => fun l2 l3 l4 v_one v_other v_thought v_gone => FX7_goes_b7 p1  (FX7_goes_h7 p1  n) l2 l3 l4 v_one v_other v_thought v_gone
noncomputable def FX7_goes (p1 : Int32) (v_one v_other : Nat → Int32) (v_thought v_gone : Int32) : Option (Int32 × (Nat → Int32) × (Nat → Int32) × Int32 × Int32) := (FX7_goes_h7 p1  5000 0 0 0 v_one v_other v_thought v_gone)
set_option maxHeartbeats 4000000 in
set_option maxRecDepth 100000 in
theorem c_X7_goes (l : Launch) (D : va_G) (cI cZ cS : ClassId) (a : Nat → Nat) (v_pins v_bars v_taped v_lined v_at v_fault : Int32) (v_name v_low v_high v_tape v_line : Nat → Int32) (v_imagePins v_imageBars : Int32) (v_imageName v_imageLow v_imageHigh : Nat → Int32) (v_isKept : Int32) (v_to v_carries : Nat → Int32) (v_seen v_rank : Int32) (v_one v_other : Nat → Int32) (v_thought v_gone : Int32) (v_tied v_part v_lack v_down : Nat → Int32) (v_parts v_lacks v_downs : Int32) (v_sort v_items v_item v_carried : Nat → Int32) (v_first v_second : Int32) (p1 : Int32) (u : Int32 × (Nat → Int32) × (Nat → Int32) × Int32 × Int32) (hF : FX7_goes p1 v_one v_other v_thought v_gone = some u) : MCi l D (tyL cI cZ cS) yX7_goes cX7_goes 5 (some .int) 0 0 [.ref (a 0), .int p1] (wX7 cI cZ a v_pins v_bars v_taped v_lined v_at v_fault v_name v_low v_high v_tape v_line v_imagePins v_imageBars v_imageName v_imageLow v_imageHigh v_isKept v_to v_carries v_seen v_rank v_one v_other v_thought v_gone v_tied v_part v_lack v_down v_parts v_lacks v_downs v_sort v_items v_item v_carried v_first v_second) (wX7 cI cZ a v_pins v_bars v_taped v_lined v_at v_fault v_name v_low v_high v_tape v_line v_imagePins v_imageBars v_imageName v_imageLow v_imageHigh v_isKept v_to v_carries v_seen v_rank u.2.1 u.2.2.1 u.2.2.2.1 u.2.2.2.2 v_tied v_part v_lack v_down v_parts v_lacks v_downs v_sort v_items v_item v_carried v_first v_second) u.1 := by
  refine MCi.mk (by decide) (Nat.le_of_ble_eq_true rfl) ?_
  intro p e s m args below meth c A ls Q h0 hP hD hA hS hl hfin0
  have hfin : ∀ (u' : Int32 × (Nat → Int32) × (Nat → Int32) × Int32 × Int32), u' = u → ∀ (H : Heap) (locs : List Loc) (ls : Array Slot) (pc : Nat), va_P D vwCl (wX7 cI cZ a v_pins v_bars v_taped v_lined v_at v_fault v_name v_low v_high v_tape v_line v_imagePins v_imageBars v_imageName v_imageLow v_imageHigh v_isKept v_to v_carries v_seen v_rank u'.2.1 u'.2.2.1 u'.2.2.2.1 u'.2.2.2.2 v_tied v_part v_lack v_down v_parts v_lacks v_downs v_sort v_items v_item v_carried v_first v_second) H → va_D A (wX7 cI cZ a v_pins v_bars v_taped v_lined v_at v_fault v_name v_low v_high v_tape v_line v_imagePins v_imageBars v_imageName v_imageLow v_imageHigh v_isKept v_to v_carries v_seen v_rank u'.2.1 u'.2.2.1 u'.2.2.2.1 u'.2.2.2.2 v_tied v_part v_lack v_down v_parts v_lacks v_downs v_sort v_items v_item v_carried v_first v_second) → va_S A s.heap H locs → decode cX7_goes pc = .ok (.ireturn, 1) → W p l e (uR 0 0) s m args below meth c H locs 0 0 Q (F0 m pc ls [.int u'.1]) := by intro u' hu; subst hu; exact hfin0
  clear hfin0
  obtain ⟨hx, hb, hr, hlk, hml, hown, hts, hK⟩ := id h0
  have hl : lv_has ls 5 [(0, .ref (a 0)), (1, .int p1)] := hl
  have E := hF
  have J7 : ∀ (n7 : Nat) (l2 l3 l4 : Int32) (v_one v_other : Nat → Int32) (v_thought v_gone : Int32) (H : Heap) (locs : List Loc) (ls : Array Slot), FX7_goes_h7 p1  n7 l2 l3 l4 v_one v_other v_thought v_gone = some u → va_P D vwCl (wX7 cI cZ a v_pins v_bars v_taped v_lined v_at v_fault v_name v_low v_high v_tape v_line v_imagePins v_imageBars v_imageName v_imageLow v_imageHigh v_isKept v_to v_carries v_seen v_rank v_one v_other v_thought v_gone v_tied v_part v_lack v_down v_parts v_lacks v_downs v_sort v_items v_item v_carried v_first v_second) H → va_D A (wX7 cI cZ a v_pins v_bars v_taped v_lined v_at v_fault v_name v_low v_high v_tape v_line v_imagePins v_imageBars v_imageName v_imageLow v_imageHigh v_isKept v_to v_carries v_seen v_rank v_one v_other v_thought v_gone v_tied v_part v_lack v_down v_parts v_lacks v_downs v_sort v_items v_item v_carried v_first v_second) → va_S A s.heap H locs → lv_has ls 5 [(0, .ref (a 0)), (1, .int p1), (2, .int l2), (3, .int l3), (4, .int l4)] → W p l e (uR 0 0) s m args below meth c H locs 0 0 Q (F0 m 7 ls []) := by
    intro n7
    induction n7 with
    | zero => intro l2 l3 l4 v_one v_other v_thought v_gone H locs ls E; exact none_e E
    | succ n7 ih7 =>
      intro l2 l3 l4 v_one v_other v_thought v_gone H locs ls E hP hD hS hl
      have E : FX7_goes_b7 p1  (FX7_goes_h7 p1  n7) l2 l3 l4 v_one v_other v_thought v_gone = some u := E
      have J92 : ∀ (l2 l3 l4 : Int32) (v_one v_other : Nat → Int32) (v_thought v_gone : Int32) (H : Heap) (locs : List Loc) (ls : Array Slot), FX7_goes_b92 p1 (FX7_goes_h7 p1  n7) l2 l3 l4 v_one v_other v_thought v_gone = some u → va_P D vwCl (wX7 cI cZ a v_pins v_bars v_taped v_lined v_at v_fault v_name v_low v_high v_tape v_line v_imagePins v_imageBars v_imageName v_imageLow v_imageHigh v_isKept v_to v_carries v_seen v_rank v_one v_other v_thought v_gone v_tied v_part v_lack v_down v_parts v_lacks v_downs v_sort v_items v_item v_carried v_first v_second) H → va_D A (wX7 cI cZ a v_pins v_bars v_taped v_lined v_at v_fault v_name v_low v_high v_tape v_line v_imagePins v_imageBars v_imageName v_imageLow v_imageHigh v_isKept v_to v_carries v_seen v_rank v_one v_other v_thought v_gone v_tied v_part v_lack v_down v_parts v_lacks v_downs v_sort v_items v_item v_carried v_first v_second) → va_S A s.heap H locs → lv_has ls 5 [(0, .ref (a 0)), (1, .int p1), (2, .int l2), (3, .int l3), (4, .int l4)] → W p l e (uR 0 0) s m args below meth c H locs 0 0 Q (F0 m 92 ls []) := by
        intro l2 l3 l4 v_one v_other v_thought v_gone H locs ls E hP hD hS hl
        refine lv_iinc (v := (l4 + 1)) (lv' := [(4, .int (l4 + 1)), (0, .ref (a 0)), (1, .int p1), (2, .int l2), (3, .int l3)]) hx hb dX7_goes_92 hl (k := 4) rfl rfl (by decide) rfl (fun ls hl => ?_)
        refine lv_goto (tgt := 7) hx hb dX7_goes_95 (by decide) ?_
        exact ih7 _ _ _ _ _ _ _ _ _ _ E hP hD hS (lv_sub hl [1, 2, 3, 4, 0] rfl)
      have J38 : ∀ (l2 l3 l4 : Int32) (v_one v_other : Nat → Int32) (v_thought v_gone : Int32) (H : Heap) (locs : List Loc) (ls : Array Slot), FX7_goes_b38 p1 (FX7_goes_h7 p1  n7) l2 l3 l4 v_one v_other v_thought v_gone = some u → va_P D vwCl (wX7 cI cZ a v_pins v_bars v_taped v_lined v_at v_fault v_name v_low v_high v_tape v_line v_imagePins v_imageBars v_imageName v_imageLow v_imageHigh v_isKept v_to v_carries v_seen v_rank v_one v_other v_thought v_gone v_tied v_part v_lack v_down v_parts v_lacks v_downs v_sort v_items v_item v_carried v_first v_second) H → va_D A (wX7 cI cZ a v_pins v_bars v_taped v_lined v_at v_fault v_name v_low v_high v_tape v_line v_imagePins v_imageBars v_imageName v_imageLow v_imageHigh v_isKept v_to v_carries v_seen v_rank v_one v_other v_thought v_gone v_tied v_part v_lack v_down v_parts v_lacks v_downs v_sort v_items v_item v_carried v_first v_second) → va_S A s.heap H locs → lv_has ls 5 [(0, .ref (a 0)), (1, .int p1), (2, .int l2), (3, .int l3), (4, .int l4)] → W p l e (uR 0 0) s m args below meth c H locs 0 0 Q (F0 m 38 ls []) := by
        intro l2 l3 l4 v_one v_other v_thought v_gone H locs ls E hP hD hS hl
        refine lv_iload_n hx hb dX7_goes_38 rfl (lv_at hl 2 rfl) ?_
        refine lv_iconst (v := 1) hx hb dX7_goes_39 (by decide) ?_
        refine lv_aload_n hx hb dX7_goes_40 rfl (lv_at hl 0 rfl) ?_
        refine gf_X7_41 h0 hP 0 rfl rfl dX7_goes_41 ?_
        refine lv_iload hx hb dX7_goes_44 (lv_at hl 4 rfl) ?_
        obtain ⟨g1, E⟩ := gd_e E
        refine aldi hx hb hK hP 11 rfl rfl g1 dX7_goes_46 ?_
        refine lv_aload_n hx hb dX7_goes_47 rfl (lv_at hl 0 rfl) ?_
        refine gf_X7_44 h0 hP 0 rfl rfl dX7_goes_48 ?_
        refine lv_iload hx hb dX7_goes_51 (lv_at hl 4 rfl) ?_
        obtain ⟨g2, E⟩ := gd_e E
        refine aldi hx hb hK hP 12 rfl rfl g2 dX7_goes_53 ?_
        refine lv_iadd hx hb dX7_goes_54 ?_
        refine lv_iload_n hx hb dX7_goes_55 rfl (lv_at hl 1 rfl) ?_
        refine lv_isub hx hb dX7_goes_56 ?_
        refine lv_ishl hx hb dX7_goes_57 ?_
        refine lv_ior hx hb dX7_goes_58 ?_
        refine lv_istore_n (lv' := [(2, .int (l2 ||| ((1 : Int32) <<< ((((v_one l4.toNatClampNeg) + (v_other l4.toNatClampNeg)) - p1) &&& 31)))), (0, .ref (a 0)), (1, .int p1), (3, .int l3), (4, .int l4)]) hx hb dX7_goes_59 rfl hl (by decide) rfl (fun ls hl => ?_)
        refine lv_goto (tgt := 92) hx hb dX7_goes_60 (by decide) ?_
        exact J92 _ _ _ _ _ _ _ _ _ _ E hP hD hS (lv_sub hl [1, 2, 0, 3, 4] rfl)
      refine lv_iload hx hb dX7_goes_7 (lv_at hl 4 rfl) ?_
      refine lv_aload_n hx hb dX7_goes_9 rfl (lv_at hl 0 rfl) ?_
      refine gf_X7_179 h0 hP 0 rfl rfl dX7_goes_10 ?_
      refine lv_icmp_ge (tgt := 98) hx hb dX7_goes_13 (by decide) (fun c3 => ?_) (fun c3 => ?_)
      · have E := br_p E c3
        refine lv_aload_n hx hb dX7_goes_98 rfl (lv_at hl 0 rfl) ?_
        refine lv_iload_n hx hb dX7_goes_99 rfl (lv_at hl 3 rfl) ?_
        refine pf_X7_179 (wo := (wX7 cI cZ a v_pins v_bars v_taped v_lined v_at v_fault v_name v_low v_high v_tape v_line v_imagePins v_imageBars v_imageName v_imageLow v_imageHigh v_isKept v_to v_carries v_seen v_rank v_one v_other l3 v_gone v_tied v_part v_lack v_down v_parts v_lacks v_downs v_sort v_items v_item v_carried v_first v_second)) h0 hP hD hS 0 rfl (Nat.le_of_ble_eq_true rfl) rfl dX7_goes_100 (fun H locs hP hD hS => ?_)
        refine lv_aload_n hx hb dX7_goes_103 rfl (lv_at hl 0 rfl) ?_
        refine lv_dup hx hb dX7_goes_104 rfl ?_
        refine gf_X7_182 h0 hP 0 rfl rfl dX7_goes_105 ?_
        refine lv_iconst (v := 1) hx hb dX7_goes_108 (by decide) ?_
        refine lv_iload_n hx hb dX7_goes_109 rfl (lv_at hl 1 rfl) ?_
        refine lv_ishl hx hb dX7_goes_110 ?_
        refine lv_ior hx hb dX7_goes_111 ?_
        refine pf_X7_182 (wo := (wX7 cI cZ a v_pins v_bars v_taped v_lined v_at v_fault v_name v_low v_high v_tape v_line v_imagePins v_imageBars v_imageName v_imageLow v_imageHigh v_isKept v_to v_carries v_seen v_rank v_one v_other l3 (v_gone ||| ((1 : Int32) <<< (p1 &&& 31))) v_tied v_part v_lack v_down v_parts v_lacks v_downs v_sort v_items v_item v_carried v_first v_second)) h0 hP hD hS 0 rfl (Nat.le_of_ble_eq_true rfl) rfl dX7_goes_112 (fun H locs hP hD hS => ?_)
        refine lv_iload_n hx hb dX7_goes_115 rfl (lv_at hl 2 rfl) ?_
        exact hfin _ (Option.some.inj E) _ _ _ _ hP hD hS dX7_goes_116
      · have E := br_n E c3
        refine lv_aload_n hx hb dX7_goes_16 rfl (lv_at hl 0 rfl) ?_
        refine gf_X7_41 h0 hP 0 rfl rfl dX7_goes_17 ?_
        refine lv_iload hx hb dX7_goes_20 (lv_at hl 4 rfl) ?_
        obtain ⟨g4, E⟩ := gd_e E
        refine aldi hx hb hK hP 11 rfl rfl g4 dX7_goes_22 ?_
        refine lv_iload_n hx hb dX7_goes_23 rfl (lv_at hl 1 rfl) ?_
        refine lv_icmp_eq (tgt := 38) hx hb dX7_goes_24 (by decide) (fun c5 => ?_) (fun c5 => ?_)
        · have E := br_p E c5
          exact J38 _ _ _ _ _ _ _ _ _ _ E hP hD hS (lv_sub hl [0, 1, 2, 3, 4] rfl)
        · have E := br_n E c5
          refine lv_aload_n hx hb dX7_goes_27 rfl (lv_at hl 0 rfl) ?_
          refine gf_X7_44 h0 hP 0 rfl rfl dX7_goes_28 ?_
          refine lv_iload hx hb dX7_goes_31 (lv_at hl 4 rfl) ?_
          obtain ⟨g6, E⟩ := gd_e E
          refine aldi hx hb hK hP 12 rfl rfl g6 dX7_goes_33 ?_
          refine lv_iload_n hx hb dX7_goes_34 rfl (lv_at hl 1 rfl) ?_
          refine lv_icmp_ne (tgt := 63) hx hb dX7_goes_35 (by decide) (fun c7 => ?_) (fun c7 => ?_)
          · have E := br_n E c7
            refine lv_aload_n hx hb dX7_goes_63 rfl (lv_at hl 0 rfl) ?_
            refine gf_X7_41 h0 hP 0 rfl rfl dX7_goes_64 ?_
            refine lv_iload_n hx hb dX7_goes_67 rfl (lv_at hl 3 rfl) ?_
            refine lv_aload_n hx hb dX7_goes_68 rfl (lv_at hl 0 rfl) ?_
            refine gf_X7_41 h0 hP 0 rfl rfl dX7_goes_69 ?_
            refine lv_iload hx hb dX7_goes_72 (lv_at hl 4 rfl) ?_
            obtain ⟨g8, E⟩ := gd_e E
            refine aldi hx hb hK hP 11 rfl rfl g8 dX7_goes_74 ?_
            obtain ⟨g9, E⟩ := gd_e E
            refine asti (wo := (wX7 cI cZ a v_pins v_bars v_taped v_lined v_at v_fault v_name v_low v_high v_tape v_line v_imagePins v_imageBars v_imageName v_imageLow v_imageHigh v_isKept v_to v_carries v_seen v_rank (upd v_one l3.toNatClampNeg (v_one l4.toNatClampNeg)) v_other v_thought v_gone v_tied v_part v_lack v_down v_parts v_lacks v_downs v_sort v_items v_item v_carried v_first v_second)) hx hb hK hP hD hS 11 rfl rfl g9 rfl dX7_goes_75 (fun H locs hP hD hS => ?_)
            refine lv_aload_n hx hb dX7_goes_76 rfl (lv_at hl 0 rfl) ?_
            refine gf_X7_44 h0 hP 0 rfl rfl dX7_goes_77 ?_
            refine lv_iload_n hx hb dX7_goes_80 rfl (lv_at hl 3 rfl) ?_
            refine lv_aload_n hx hb dX7_goes_81 rfl (lv_at hl 0 rfl) ?_
            refine gf_X7_44 h0 hP 0 rfl rfl dX7_goes_82 ?_
            refine lv_iload hx hb dX7_goes_85 (lv_at hl 4 rfl) ?_
            obtain ⟨g10, E⟩ := gd_e E
            refine aldi hx hb hK hP 12 rfl rfl g10 dX7_goes_87 ?_
            obtain ⟨g11, E⟩ := gd_e E
            refine asti (wo := (wX7 cI cZ a v_pins v_bars v_taped v_lined v_at v_fault v_name v_low v_high v_tape v_line v_imagePins v_imageBars v_imageName v_imageLow v_imageHigh v_isKept v_to v_carries v_seen v_rank (upd v_one l3.toNatClampNeg (v_one l4.toNatClampNeg)) (upd v_other l3.toNatClampNeg (v_other l4.toNatClampNeg)) v_thought v_gone v_tied v_part v_lack v_down v_parts v_lacks v_downs v_sort v_items v_item v_carried v_first v_second)) hx hb hK hP hD hS 12 rfl rfl g11 rfl dX7_goes_88 (fun H locs hP hD hS => ?_)
            refine lv_iinc (v := (l3 + 1)) (lv' := [(3, .int (l3 + 1)), (0, .ref (a 0)), (1, .int p1), (2, .int l2), (4, .int l4)]) hx hb dX7_goes_89 hl (k := 3) rfl rfl (by decide) rfl (fun ls hl => ?_)
            exact J92 _ _ _ _ _ _ _ _ _ _ E hP hD hS (lv_sub hl [1, 2, 3, 0, 4] rfl)
          · have E := br_p E c7
            exact J38 _ _ _ _ _ _ _ _ _ _ E hP hD hS (lv_sub hl [0, 1, 2, 3, 4] rfl)
  refine lv_iconst (v := 0) hx hb dX7_goes_0 (by decide) ?_
  refine lv_istore_n (lv' := [(2, .int 0), (0, .ref (a 0)), (1, .int p1)]) hx hb dX7_goes_1 rfl hl (by decide) rfl (fun ls hl => ?_)
  refine lv_iconst (v := 0) hx hb dX7_goes_2 (by decide) ?_
  refine lv_istore_n (lv' := [(3, .int 0), (2, .int 0), (0, .ref (a 0)), (1, .int p1)]) hx hb dX7_goes_3 rfl hl (by decide) rfl (fun ls hl => ?_)
  refine lv_iconst (v := 0) hx hb dX7_goes_4 (by decide) ?_
  refine lv_istore (lv' := [(4, .int 0), (3, .int 0), (2, .int 0), (0, .ref (a 0)), (1, .int p1)]) hx hb dX7_goes_5 hl (by decide) rfl (fun ls hl => ?_)
  exact J7 5000 _ _ _ _ _ _ _ _ _ _ E hP hD hS (lv_sub hl [3, 4, 2, 1, 0] rfl)
theorem hdX7_isThere : yX7_isThere.cls = RX7 ∧ yX7_isThere.cls ≠ "java/lang/invoke/MethodHandle" ∧ yX7_isThere.cls ≠ "java/lang/invoke/VarHandle" ∧ (parseMethodDescriptor yX7_isThere.desc).map (fun d => d.parameters.length) = some 2 := by decide +kernel
noncomputable def FX7_isThere_b52 (p1 p2 : Int32) (v_one v_other : Nat → Int32) (v_thought : Int32) (k2 : Int32 → Option (Int32)) (l3 : Int32) : Option (Int32) := (k2 (l3 + 1))
noncomputable def FX7_isThere_b30 (p1 p2 : Int32) (v_one v_other : Nat → Int32) (v_thought : Int32) (k2 : Int32 → Option (Int32)) (l3 : Int32) : Option (Int32) := (gd (vp_in l3 72) (if (v_one l3.toNatClampNeg) = p2 then (gd (vp_in l3 72) (if (v_other l3.toNatClampNeg) = p1 then (some 1) else (FX7_isThere_b52 p1 p2 v_one v_other v_thought k2 l3))) else (FX7_isThere_b52 p1 p2 v_one v_other v_thought k2 l3)))
noncomputable def FX7_isThere_b2 (p1 p2 : Int32) (v_one v_other : Nat → Int32) (v_thought : Int32)  (k2 : Int32 → Option (Int32)) (l3 : Int32) : Option (Int32) := (if v_thought ≤ l3 then (some 0) else (gd (vp_in l3 72) (if (v_one l3.toNatClampNeg) = p1 then (gd (vp_in l3 72) (if (v_other l3.toNatClampNeg) = p2 then (some 1) else (FX7_isThere_b30 p1 p2 v_one v_other v_thought k2 l3))) else (FX7_isThere_b30 p1 p2 v_one v_other v_thought k2 l3))))
noncomputable def FX7_isThere_h2 (p1 p2 : Int32) (v_one v_other : Nat → Int32) (v_thought : Int32)  : Nat → Int32 → Option (Int32)
  | 0 => fun _ => none
  | n + 1 => fun l3 => FX7_isThere_b2 p1 p2 v_one v_other v_thought  (FX7_isThere_h2 p1 p2 v_one v_other v_thought  n) l3
noncomputable def FX7_isThere (p1 p2 : Int32) (v_one v_other : Nat → Int32) (v_thought : Int32) : Option (Int32) := (FX7_isThere_h2 p1 p2 v_one v_other v_thought  5000 0)
set_option maxHeartbeats 4000000 in
set_option maxRecDepth 100000 in
theorem c_X7_isThere (l : Launch) (D : va_G) (cI cZ cS : ClassId) (a : Nat → Nat) (v_pins v_bars v_taped v_lined v_at v_fault : Int32) (v_name v_low v_high v_tape v_line : Nat → Int32) (v_imagePins v_imageBars : Int32) (v_imageName v_imageLow v_imageHigh : Nat → Int32) (v_isKept : Int32) (v_to v_carries : Nat → Int32) (v_seen v_rank : Int32) (v_one v_other : Nat → Int32) (v_thought v_gone : Int32) (v_tied v_part v_lack v_down : Nat → Int32) (v_parts v_lacks v_downs : Int32) (v_sort v_items v_item v_carried : Nat → Int32) (v_first v_second : Int32) (p1 p2 : Int32) (u : Int32) (hF : FX7_isThere p1 p2 v_one v_other v_thought = some u) : MCi l D (tyL cI cZ cS) yX7_isThere cX7_isThere 4 (some .boolean) 0 0 [.ref (a 0), .int p1, .int p2] (wX7 cI cZ a v_pins v_bars v_taped v_lined v_at v_fault v_name v_low v_high v_tape v_line v_imagePins v_imageBars v_imageName v_imageLow v_imageHigh v_isKept v_to v_carries v_seen v_rank v_one v_other v_thought v_gone v_tied v_part v_lack v_down v_parts v_lacks v_downs v_sort v_items v_item v_carried v_first v_second) (wX7 cI cZ a v_pins v_bars v_taped v_lined v_at v_fault v_name v_low v_high v_tape v_line v_imagePins v_imageBars v_imageName v_imageLow v_imageHigh v_isKept v_to v_carries v_seen v_rank v_one v_other v_thought v_gone v_tied v_part v_lack v_down v_parts v_lacks v_downs v_sort v_items v_item v_carried v_first v_second) u := by
  refine MCz.mk (by decide) (Nat.le_of_ble_eq_true rfl) ?_
  intro p e s m args below meth c A ls Q h0 hP hD hA hS hl hfin0
  have hfin : ∀ (u' : Int32), u' = u → ∀ (H : Heap) (locs : List Loc) (ls : Array Slot) (pc : Nat), (u' = 0 ∨ u' = 1) → va_P D vwCl (wX7 cI cZ a v_pins v_bars v_taped v_lined v_at v_fault v_name v_low v_high v_tape v_line v_imagePins v_imageBars v_imageName v_imageLow v_imageHigh v_isKept v_to v_carries v_seen v_rank v_one v_other v_thought v_gone v_tied v_part v_lack v_down v_parts v_lacks v_downs v_sort v_items v_item v_carried v_first v_second) H → va_D A (wX7 cI cZ a v_pins v_bars v_taped v_lined v_at v_fault v_name v_low v_high v_tape v_line v_imagePins v_imageBars v_imageName v_imageLow v_imageHigh v_isKept v_to v_carries v_seen v_rank v_one v_other v_thought v_gone v_tied v_part v_lack v_down v_parts v_lacks v_downs v_sort v_items v_item v_carried v_first v_second) → va_S A s.heap H locs → decode cX7_isThere pc = .ok (.ireturn, 1) → W p l e (uR 0 0) s m args below meth c H locs 0 0 Q (F0 m pc ls [.int u']) := by intro u' hu; subst hu; exact hfin0
  clear hfin0
  obtain ⟨hx, hb, hr, hlk, hml, hown, hts, hK⟩ := id h0
  have hl : lv_has ls 4 [(0, .ref (a 0)), (1, .int p1), (2, .int p2)] := hl
  have E := hF
  have J2 : ∀ (n2 : Nat) (l3 : Int32) (H : Heap) (locs : List Loc) (ls : Array Slot), FX7_isThere_h2 p1 p2 v_one v_other v_thought  n2 l3 = some u → va_P D vwCl (wX7 cI cZ a v_pins v_bars v_taped v_lined v_at v_fault v_name v_low v_high v_tape v_line v_imagePins v_imageBars v_imageName v_imageLow v_imageHigh v_isKept v_to v_carries v_seen v_rank v_one v_other v_thought v_gone v_tied v_part v_lack v_down v_parts v_lacks v_downs v_sort v_items v_item v_carried v_first v_second) H → va_D A (wX7 cI cZ a v_pins v_bars v_taped v_lined v_at v_fault v_name v_low v_high v_tape v_line v_imagePins v_imageBars v_imageName v_imageLow v_imageHigh v_isKept v_to v_carries v_seen v_rank v_one v_other v_thought v_gone v_tied v_part v_lack v_down v_parts v_lacks v_downs v_sort v_items v_item v_carried v_first v_second) → va_S A s.heap H locs → lv_has ls 4 [(0, .ref (a 0)), (1, .int p1), (2, .int p2), (3, .int l3)] → W p l e (uR 0 0) s m args below meth c H locs 0 0 Q (F0 m 2 ls []) := by
    intro n2
    induction n2 with
    | zero => intro l3 H locs ls E; exact none_e E
    | succ n2 ih2 =>
      intro l3 H locs ls E hP hD hS hl
      have E : FX7_isThere_b2 p1 p2 v_one v_other v_thought  (FX7_isThere_h2 p1 p2 v_one v_other v_thought  n2) l3 = some u := E
      have J52 : ∀ (l3 : Int32) (H : Heap) (locs : List Loc) (ls : Array Slot), FX7_isThere_b52 p1 p2 v_one v_other v_thought (FX7_isThere_h2 p1 p2 v_one v_other v_thought  n2) l3 = some u → va_P D vwCl (wX7 cI cZ a v_pins v_bars v_taped v_lined v_at v_fault v_name v_low v_high v_tape v_line v_imagePins v_imageBars v_imageName v_imageLow v_imageHigh v_isKept v_to v_carries v_seen v_rank v_one v_other v_thought v_gone v_tied v_part v_lack v_down v_parts v_lacks v_downs v_sort v_items v_item v_carried v_first v_second) H → va_D A (wX7 cI cZ a v_pins v_bars v_taped v_lined v_at v_fault v_name v_low v_high v_tape v_line v_imagePins v_imageBars v_imageName v_imageLow v_imageHigh v_isKept v_to v_carries v_seen v_rank v_one v_other v_thought v_gone v_tied v_part v_lack v_down v_parts v_lacks v_downs v_sort v_items v_item v_carried v_first v_second) → va_S A s.heap H locs → lv_has ls 4 [(0, .ref (a 0)), (1, .int p1), (2, .int p2), (3, .int l3)] → W p l e (uR 0 0) s m args below meth c H locs 0 0 Q (F0 m 52 ls []) := by
        intro l3 H locs ls E hP hD hS hl
        refine lv_iinc (v := (l3 + 1)) (lv' := [(3, .int (l3 + 1)), (0, .ref (a 0)), (1, .int p1), (2, .int p2)]) hx hb dX7_isThere_52 hl (k := 3) rfl rfl (by decide) rfl (fun ls hl => ?_)
        refine lv_goto (tgt := 2) hx hb dX7_isThere_55 (by decide) ?_
        exact ih2 _ _ _ _ E hP hD hS (lv_sub hl [1, 2, 3, 0] rfl)
      have J30 : ∀ (l3 : Int32) (H : Heap) (locs : List Loc) (ls : Array Slot), FX7_isThere_b30 p1 p2 v_one v_other v_thought (FX7_isThere_h2 p1 p2 v_one v_other v_thought  n2) l3 = some u → va_P D vwCl (wX7 cI cZ a v_pins v_bars v_taped v_lined v_at v_fault v_name v_low v_high v_tape v_line v_imagePins v_imageBars v_imageName v_imageLow v_imageHigh v_isKept v_to v_carries v_seen v_rank v_one v_other v_thought v_gone v_tied v_part v_lack v_down v_parts v_lacks v_downs v_sort v_items v_item v_carried v_first v_second) H → va_D A (wX7 cI cZ a v_pins v_bars v_taped v_lined v_at v_fault v_name v_low v_high v_tape v_line v_imagePins v_imageBars v_imageName v_imageLow v_imageHigh v_isKept v_to v_carries v_seen v_rank v_one v_other v_thought v_gone v_tied v_part v_lack v_down v_parts v_lacks v_downs v_sort v_items v_item v_carried v_first v_second) → va_S A s.heap H locs → lv_has ls 4 [(0, .ref (a 0)), (1, .int p1), (2, .int p2), (3, .int l3)] → W p l e (uR 0 0) s m args below meth c H locs 0 0 Q (F0 m 30 ls []) := by
        intro l3 H locs ls E hP hD hS hl
        refine lv_aload_n hx hb dX7_isThere_30 rfl (lv_at hl 0 rfl) ?_
        refine gf_X7_41 h0 hP 0 rfl rfl dX7_isThere_31 ?_
        refine lv_iload_n hx hb dX7_isThere_34 rfl (lv_at hl 3 rfl) ?_
        obtain ⟨g1, E⟩ := gd_e E
        refine aldi hx hb hK hP 11 rfl rfl g1 dX7_isThere_35 ?_
        refine lv_iload_n hx hb dX7_isThere_36 rfl (lv_at hl 2 rfl) ?_
        refine lv_icmp_ne (tgt := 52) hx hb dX7_isThere_37 (by decide) (fun c2 => ?_) (fun c2 => ?_)
        · have E := br_n E c2
          exact J52 _ _ _ _ E hP hD hS (lv_sub hl [0, 1, 2, 3] rfl)
        · have E := br_p E c2
          refine lv_aload_n hx hb dX7_isThere_40 rfl (lv_at hl 0 rfl) ?_
          refine gf_X7_44 h0 hP 0 rfl rfl dX7_isThere_41 ?_
          refine lv_iload_n hx hb dX7_isThere_44 rfl (lv_at hl 3 rfl) ?_
          obtain ⟨g3, E⟩ := gd_e E
          refine aldi hx hb hK hP 12 rfl rfl g3 dX7_isThere_45 ?_
          refine lv_iload_n hx hb dX7_isThere_46 rfl (lv_at hl 1 rfl) ?_
          refine lv_icmp_ne (tgt := 52) hx hb dX7_isThere_47 (by decide) (fun c4 => ?_) (fun c4 => ?_)
          · have E := br_n E c4
            exact J52 _ _ _ _ E hP hD hS (lv_sub hl [0, 1, 2, 3] rfl)
          · have E := br_p E c4
            refine lv_iconst (v := 1) hx hb dX7_isThere_50 (by decide) ?_
            exact hfin _ (Option.some.inj E) _ _ _ _ (Or.inr rfl) hP hD hS dX7_isThere_51
      refine lv_iload_n hx hb dX7_isThere_2 rfl (lv_at hl 3 rfl) ?_
      refine lv_aload_n hx hb dX7_isThere_3 rfl (lv_at hl 0 rfl) ?_
      refine gf_X7_179 h0 hP 0 rfl rfl dX7_isThere_4 ?_
      refine lv_icmp_ge (tgt := 58) hx hb dX7_isThere_7 (by decide) (fun c5 => ?_) (fun c5 => ?_)
      · have E := br_p E c5
        refine lv_iconst (v := 0) hx hb dX7_isThere_58 (by decide) ?_
        exact hfin _ (Option.some.inj E) _ _ _ _ (Or.inl rfl) hP hD hS dX7_isThere_59
      · have E := br_n E c5
        refine lv_aload_n hx hb dX7_isThere_10 rfl (lv_at hl 0 rfl) ?_
        refine gf_X7_41 h0 hP 0 rfl rfl dX7_isThere_11 ?_
        refine lv_iload_n hx hb dX7_isThere_14 rfl (lv_at hl 3 rfl) ?_
        obtain ⟨g6, E⟩ := gd_e E
        refine aldi hx hb hK hP 11 rfl rfl g6 dX7_isThere_15 ?_
        refine lv_iload_n hx hb dX7_isThere_16 rfl (lv_at hl 1 rfl) ?_
        refine lv_icmp_ne (tgt := 30) hx hb dX7_isThere_17 (by decide) (fun c7 => ?_) (fun c7 => ?_)
        · have E := br_n E c7
          exact J30 _ _ _ _ E hP hD hS (lv_sub hl [0, 1, 2, 3] rfl)
        · have E := br_p E c7
          refine lv_aload_n hx hb dX7_isThere_20 rfl (lv_at hl 0 rfl) ?_
          refine gf_X7_44 h0 hP 0 rfl rfl dX7_isThere_21 ?_
          refine lv_iload_n hx hb dX7_isThere_24 rfl (lv_at hl 3 rfl) ?_
          obtain ⟨g8, E⟩ := gd_e E
          refine aldi hx hb hK hP 12 rfl rfl g8 dX7_isThere_25 ?_
          refine lv_iload_n hx hb dX7_isThere_26 rfl (lv_at hl 2 rfl) ?_
          refine lv_icmp_eq (tgt := 50) hx hb dX7_isThere_27 (by decide) (fun c9 => ?_) (fun c9 => ?_)
          · have E := br_p E c9
            refine lv_iconst (v := 1) hx hb dX7_isThere_50 (by decide) ?_
            exact hfin _ (Option.some.inj E) _ _ _ _ (Or.inr rfl) hP hD hS dX7_isThere_51
          · have E := br_n E c9
            exact J30 _ _ _ _ E hP hD hS (lv_sub hl [0, 1, 2, 3] rfl)
  refine lv_iconst (v := 0) hx hb dX7_isThere_0 (by decide) ?_
  refine lv_istore_n (lv' := [(3, .int 0), (0, .ref (a 0)), (1, .int p1), (2, .int p2)]) hx hb dX7_isThere_1 rfl hl (by decide) rfl (fun ls hl => ?_)
  exact J2 5000 _ _ _ _ E hP hD hS (lv_sub hl [1, 2, 3, 0] rfl)
theorem hdX7_helps : yX7_helps.cls = RX7 ∧ yX7_helps.cls ≠ "java/lang/invoke/MethodHandle" ∧ yX7_helps.cls ≠ "java/lang/invoke/VarHandle" ∧ (parseMethodDescriptor yX7_helps.desc).map (fun d => d.parameters.length) = some 2 := by decide +kernel
noncomputable def FX7_helps_b6 (p1 p2 : Int32) (v_one v_other : Nat → Int32) (v_thought : Int32)  (k6 : Int32 → (Nat → Int32) → Int32 → Int32 → Option (Int32 × (Nat → Int32) × Int32 × Int32)) (l3 : Int32) (v_to : Nat → Int32) (v_seen v_rank : Int32) : Option (Int32 × (Nat → Int32) × Int32 × Int32) := (if v_thought ≤ l3 then ((FX7_brings p1 p2 v_to v_seen).bind (fun r2 => (gd (r2.1 = 0 ∨ r2.1 = 1) (some (r2.1, r2.2.1, r2.2.2, v_rank))))) else (gd (vp_in l3 72) (gd (vp_in l3 72) ((FX7_comes (v_one l3.toNatClampNeg) (v_other l3.toNatClampNeg) v_to v_seen v_rank).bind (fun r6 => (k6 (l3 + 1) r6.2.1 r6.2.2.1 r6.2.2.2))))))
noncomputable def FX7_helps_h6 (p1 p2 : Int32) (v_one v_other : Nat → Int32) (v_thought : Int32)  : Nat → Int32 → (Nat → Int32) → Int32 → Int32 → Option (Int32 × (Nat → Int32) × Int32 × Int32)
  | 0 => fun _ _ _ _ => none
  | n + 1 => fun l3 v_to v_seen v_rank => FX7_helps_b6 p1 p2 v_one v_other v_thought  (FX7_helps_h6 p1 p2 v_one v_other v_thought  n) l3 v_to v_seen v_rank
noncomputable def FX7_helps (p1 p2 : Int32) (v_to : Nat → Int32) (v_seen v_rank : Int32) (v_one v_other : Nat → Int32) (v_thought : Int32) : Option (Int32 × (Nat → Int32) × Int32 × Int32) := ((FX7_empties v_to v_rank).bind (fun r7 => (FX7_helps_h6 p1 p2 v_one v_other v_thought  5000 0 r7.1 v_seen r7.2)))
set_option maxHeartbeats 4000000 in
set_option maxRecDepth 100000 in
theorem c_X7_helps (l : Launch) (D : va_G) (cI cZ cS : ClassId) (a : Nat → Nat) (v_pins v_bars v_taped v_lined v_at v_fault : Int32) (v_name v_low v_high v_tape v_line : Nat → Int32) (v_imagePins v_imageBars : Int32) (v_imageName v_imageLow v_imageHigh : Nat → Int32) (v_isKept : Int32) (v_to v_carries : Nat → Int32) (v_seen v_rank : Int32) (v_one v_other : Nat → Int32) (v_thought v_gone : Int32) (v_tied v_part v_lack v_down : Nat → Int32) (v_parts v_lacks v_downs : Int32) (v_sort v_items v_item v_carried : Nat → Int32) (v_first v_second : Int32) (p1 p2 : Int32) (u : Int32 × (Nat → Int32) × Int32 × Int32) (hF : FX7_helps p1 p2 v_to v_seen v_rank v_one v_other v_thought = some u) : MCi l D (tyL cI cZ cS) yX7_helps cX7_helps 4 (some .boolean) 17 387 [.ref (a 0), .int p1, .int p2] (wX7 cI cZ a v_pins v_bars v_taped v_lined v_at v_fault v_name v_low v_high v_tape v_line v_imagePins v_imageBars v_imageName v_imageLow v_imageHigh v_isKept v_to v_carries v_seen v_rank v_one v_other v_thought v_gone v_tied v_part v_lack v_down v_parts v_lacks v_downs v_sort v_items v_item v_carried v_first v_second) (wX7 cI cZ a v_pins v_bars v_taped v_lined v_at v_fault v_name v_low v_high v_tape v_line v_imagePins v_imageBars v_imageName v_imageLow v_imageHigh v_isKept u.2.1 v_carries u.2.2.1 u.2.2.2 v_one v_other v_thought v_gone v_tied v_part v_lack v_down v_parts v_lacks v_downs v_sort v_items v_item v_carried v_first v_second) u.1 := by
  refine MCz.mk (by decide) (Nat.le_of_ble_eq_true rfl) ?_
  intro p e s m args below meth c A ls Q h0 hP hD hA hS hl hfin0
  have hfin : ∀ (u' : Int32 × (Nat → Int32) × Int32 × Int32), u' = u → ∀ (H : Heap) (locs : List Loc) (ls : Array Slot) (pc : Nat), (u'.1 = 0 ∨ u'.1 = 1) → va_P D vwCl (wX7 cI cZ a v_pins v_bars v_taped v_lined v_at v_fault v_name v_low v_high v_tape v_line v_imagePins v_imageBars v_imageName v_imageLow v_imageHigh v_isKept u'.2.1 v_carries u'.2.2.1 u'.2.2.2 v_one v_other v_thought v_gone v_tied v_part v_lack v_down v_parts v_lacks v_downs v_sort v_items v_item v_carried v_first v_second) H → va_D A (wX7 cI cZ a v_pins v_bars v_taped v_lined v_at v_fault v_name v_low v_high v_tape v_line v_imagePins v_imageBars v_imageName v_imageLow v_imageHigh v_isKept u'.2.1 v_carries u'.2.2.1 u'.2.2.2 v_one v_other v_thought v_gone v_tied v_part v_lack v_down v_parts v_lacks v_downs v_sort v_items v_item v_carried v_first v_second) → va_S A s.heap H locs → decode cX7_helps pc = .ok (.ireturn, 1) → W p l e (uR 17 387) s m args below meth c H locs 0 0 Q (F0 m pc ls [.int u'.1]) := by intro u' hu; subst hu; exact hfin0
  clear hfin0
  obtain ⟨hx, hb, hr, hlk, hml, hown, hts, hK⟩ := id h0
  have hl : lv_has ls 4 [(0, .ref (a 0)), (1, .int p1), (2, .int p2)] := hl
  have E := hF
  have J6 : ∀ (n6 : Nat) (l3 : Int32) (v_to : Nat → Int32) (v_seen v_rank : Int32) (H : Heap) (locs : List Loc) (ls : Array Slot), FX7_helps_h6 p1 p2 v_one v_other v_thought  n6 l3 v_to v_seen v_rank = some u → va_P D vwCl (wX7 cI cZ a v_pins v_bars v_taped v_lined v_at v_fault v_name v_low v_high v_tape v_line v_imagePins v_imageBars v_imageName v_imageLow v_imageHigh v_isKept v_to v_carries v_seen v_rank v_one v_other v_thought v_gone v_tied v_part v_lack v_down v_parts v_lacks v_downs v_sort v_items v_item v_carried v_first v_second) H → va_D A (wX7 cI cZ a v_pins v_bars v_taped v_lined v_at v_fault v_name v_low v_high v_tape v_line v_imagePins v_imageBars v_imageName v_imageLow v_imageHigh v_isKept v_to v_carries v_seen v_rank v_one v_other v_thought v_gone v_tied v_part v_lack v_down v_parts v_lacks v_downs v_sort v_items v_item v_carried v_first v_second) → va_S A s.heap H locs → lv_has ls 4 [(0, .ref (a 0)), (1, .int p1), (2, .int p2), (3, .int l3)] → W p l e (uR 17 387) s m args below meth c H locs 0 0 Q (F0 m 6 ls []) := by
    intro n6
    induction n6 with
    | zero => intro l3 v_to v_seen v_rank H locs ls E; exact none_e E
    | succ n6 ih6 =>
      intro l3 v_to v_seen v_rank H locs ls E hP hD hS hl
      have E : FX7_helps_b6 p1 p2 v_one v_other v_thought  (FX7_helps_h6 p1 p2 v_one v_other v_thought  n6) l3 v_to v_seen v_rank = some u := E
      refine lv_iload_n hx hb dX7_helps_6 rfl (lv_at hl 3 rfl) ?_
      refine lv_aload_n hx hb dX7_helps_7 rfl (lv_at hl 0 rfl) ?_
      refine gf_X7_179 h0 hP 0 rfl rfl dX7_helps_8 ?_
      refine lv_icmp_ge (tgt := 37) hx hb dX7_helps_11 (by decide) (fun c1 => ?_) (fun c1 => ?_)
      · have E := br_p E c1
        refine lv_aload_n hx hb dX7_helps_37 rfl (lv_at hl 0 rfl) ?_
        refine lv_iload_n hx hb dX7_helps_38 rfl (lv_at hl 1 rfl) ?_
        refine lv_iload_n hx hb dX7_helps_39 rfl (lv_at hl 2 rfl) ?_
        obtain ⟨r2, hF, E⟩ := bn_e E
        refine callVfi (wo := (wX7 cI cZ a v_pins v_bars v_taped v_lined v_at v_fault v_name v_low v_high v_tape v_line v_imagePins v_imageBars v_imageName v_imageLow v_imageHigh v_isKept r2.2.1 v_carries r2.2.2 v_rank v_one v_other v_thought v_gone v_tied v_part v_lack v_down v_parts v_lacks v_downs v_sort v_items v_item v_carried v_first v_second)) h0 (c_X7_brings l D cI cZ cS a v_pins v_bars v_taped v_lined v_at v_fault v_name v_low v_high v_tape v_line v_imagePins v_imageBars v_imageName v_imageLow v_imageHigh v_isKept v_to v_carries v_seen v_rank v_one v_other v_thought v_gone v_tied v_part v_lack v_down v_parts v_lacks v_downs v_sort v_items v_item v_carried v_first v_second p1 p2 r2 hF) (gV wq_771 wq_773 wp_28 wq_8 wq_774) hdX7_brings ⟨Nat.le_of_ble_eq_true rfl, Nat.le_of_ble_eq_true rfl⟩ ⟨Nat.le_refl _, Nat.le_refl _⟩ hP hD hS hA 0 7 rfl rfl rfl hl.1 rfl (Nat.le_of_ble_eq_true rfl) dX7_helps_40 (fun H locs hP hD hS => ?_)
        obtain ⟨z3, E⟩ := gd_e E
        exact hfin _ (Option.some.inj E) _ _ _ _ z3 hP hD hS dX7_helps_43
      · have E := br_n E c1
        refine lv_aload_n hx hb dX7_helps_14 rfl (lv_at hl 0 rfl) ?_
        refine lv_aload_n hx hb dX7_helps_15 rfl (lv_at hl 0 rfl) ?_
        refine gf_X7_41 h0 hP 0 rfl rfl dX7_helps_16 ?_
        refine lv_iload_n hx hb dX7_helps_19 rfl (lv_at hl 3 rfl) ?_
        obtain ⟨g4, E⟩ := gd_e E
        refine aldi hx hb hK hP 11 rfl rfl g4 dX7_helps_20 ?_
        refine lv_aload_n hx hb dX7_helps_21 rfl (lv_at hl 0 rfl) ?_
        refine gf_X7_44 h0 hP 0 rfl rfl dX7_helps_22 ?_
        refine lv_iload_n hx hb dX7_helps_25 rfl (lv_at hl 3 rfl) ?_
        obtain ⟨g5, E⟩ := gd_e E
        refine aldi hx hb hK hP 12 rfl rfl g5 dX7_helps_26 ?_
        obtain ⟨r6, hF, E⟩ := bn_e E
        refine callVfi (wo := (wX7 cI cZ a v_pins v_bars v_taped v_lined v_at v_fault v_name v_low v_high v_tape v_line v_imagePins v_imageBars v_imageName v_imageLow v_imageHigh v_isKept r6.2.1 v_carries r6.2.2.1 r6.2.2.2 v_one v_other v_thought v_gone v_tied v_part v_lack v_down v_parts v_lacks v_downs v_sort v_items v_item v_carried v_first v_second)) h0 (c_X7_comes l D cI cZ cS a v_pins v_bars v_taped v_lined v_at v_fault v_name v_low v_high v_tape v_line v_imagePins v_imageBars v_imageName v_imageLow v_imageHigh v_isKept v_to v_carries v_seen v_rank v_one v_other v_thought v_gone v_tied v_part v_lack v_down v_parts v_lacks v_downs v_sort v_items v_item v_carried v_first v_second (v_one l3.toNatClampNeg) (v_other l3.toNatClampNeg) r6 hF) (gV wq_767 wq_769 wp_27 wq_8 wq_770) hdX7_comes ⟨Nat.le_of_ble_eq_true rfl, Nat.le_of_ble_eq_true rfl⟩ ⟨Nat.le_refl _, Nat.le_refl _⟩ hP hD hS hA 0 7 rfl rfl rfl hl.1 rfl (Nat.le_of_ble_eq_true rfl) dX7_helps_27 (fun H locs hP hD hS => ?_)
        refine lv_pop hx hb dX7_helps_30 rfl ?_
        refine lv_iinc (v := (l3 + 1)) (lv' := [(3, .int (l3 + 1)), (0, .ref (a 0)), (1, .int p1), (2, .int p2)]) hx hb dX7_helps_31 hl (k := 3) rfl rfl (by decide) rfl (fun ls hl => ?_)
        refine lv_goto (tgt := 6) hx hb dX7_helps_34 (by decide) ?_
        exact ih6 _ _ _ _ _ _ _ E hP hD hS (lv_sub hl [1, 2, 3, 0] rfl)
  refine lv_aload_n hx hb dX7_helps_0 rfl (lv_at hl 0 rfl) ?_
  obtain ⟨r7, hF, E⟩ := bn_e E
  refine callVfv (wo := (wX7 cI cZ a v_pins v_bars v_taped v_lined v_at v_fault v_name v_low v_high v_tape v_line v_imagePins v_imageBars v_imageName v_imageLow v_imageHigh v_isKept r7.1 v_carries v_seen r7.2 v_one v_other v_thought v_gone v_tied v_part v_lack v_down v_parts v_lacks v_downs v_sort v_items v_item v_carried v_first v_second)) h0 (c_X7_empties l D cI cZ cS a v_pins v_bars v_taped v_lined v_at v_fault v_name v_low v_high v_tape v_line v_imagePins v_imageBars v_imageName v_imageLow v_imageHigh v_isKept v_to v_carries v_seen v_rank v_one v_other v_thought v_gone v_tied v_part v_lack v_down v_parts v_lacks v_downs v_sort v_items v_item v_carried v_first v_second r7 hF) (gV wq_763 wq_765 wp_26 wq_8 wq_766) hdX7_empties ⟨Nat.le_of_ble_eq_true rfl, Nat.le_of_ble_eq_true rfl⟩ ⟨Nat.le_refl _, Nat.le_refl _⟩ hP hD hS hA 0 7 rfl rfl rfl hl.1 rfl (Nat.le_of_ble_eq_true rfl) dX7_helps_1 (fun H locs hP hD hS => ?_)
  refine lv_iconst (v := 0) hx hb dX7_helps_4 (by decide) ?_
  refine lv_istore_n (lv' := [(3, .int 0), (0, .ref (a 0)), (1, .int p1), (2, .int p2)]) hx hb dX7_helps_5 rfl hl (by decide) rfl (fun ls hl => ?_)
  exact J6 5000 _ _ _ _ _ _ _ E hP hD hS (lv_sub hl [1, 2, 3, 0] rfl)
theorem hdX7_pairIn : yX7_pairIn.cls = RX7 ∧ yX7_pairIn.cls ≠ "java/lang/invoke/MethodHandle" ∧ yX7_pairIn.cls ≠ "java/lang/invoke/VarHandle" ∧ (parseMethodDescriptor yX7_pairIn.desc).map (fun d => d.parameters.length) = some 1 := by decide +kernel
noncomputable def FX7_pairIn_b60 (p1 v_pins : Int32) (v_one v_other : Nat → Int32) (v_thought : Int32) (k2 : Int32 → (Nat → Int32) → Int32 → Int32 → Option (Int32 × (Nat → Int32) × Int32 × Int32)) (k14 : Int32 → Int32 → (Nat → Int32) → Int32 → Int32 → Option (Int32 × (Nat → Int32) × Int32 × Int32)) (l2 l3 : Int32) (v_to : Nat → Int32) (v_seen v_rank : Int32) : Option (Int32 × (Nat → Int32) × Int32 × Int32) := (k14 l2 (l3 + 1) v_to v_seen v_rank)
noncomputable def FX7_pairIn_b14 (p1 v_pins : Int32) (v_one v_other : Nat → Int32) (v_thought : Int32) (k2 : Int32 → (Nat → Int32) → Int32 → Int32 → Option (Int32 × (Nat → Int32) × Int32 × Int32)) (k14 : Int32 → Int32 → (Nat → Int32) → Int32 → Int32 → Option (Int32 × (Nat → Int32) × Int32 × Int32)) (l2 l3 : Int32) (v_to : Nat → Int32) (v_seen v_rank : Int32) : Option (Int32 × (Nat → Int32) × Int32 × Int32) := (if v_pins ≤ l3 then (k2 (l2 + 1) v_to v_seen v_rank) else (if (((p1 >>> (l2 &&& 31)) &&& (p1 >>> (l3 &&& 31))) &&& 1) = 1 then ((FX7_isThere l2 l3 v_one v_other v_thought).bind (fun r3 => (if r3 = 0 then ((FX7_helps l2 l3 v_to v_seen v_rank v_one v_other v_thought).bind (fun r5 => (if r5.1 = 0 then (FX7_pairIn_b60 p1 v_pins v_one v_other v_thought k2 k14 l2 l3 r5.2.1 r5.2.2.1 r5.2.2.2) else (some (((100 * l2) + l3), r5.2.1, r5.2.2.1, r5.2.2.2))))) else (FX7_pairIn_b60 p1 v_pins v_one v_other v_thought k2 k14 l2 l3 v_to v_seen v_rank)))) else (FX7_pairIn_b60 p1 v_pins v_one v_other v_thought k2 k14 l2 l3 v_to v_seen v_rank)))
noncomputable def FX7_pairIn_h14 (p1 v_pins : Int32) (v_one v_other : Nat → Int32) (v_thought : Int32) (k2 : Int32 → (Nat → Int32) → Int32 → Int32 → Option (Int32 × (Nat → Int32) × Int32 × Int32)) : Nat → Int32 → Int32 → (Nat → Int32) → Int32 → Int32 → Option (Int32 × (Nat → Int32) × Int32 × Int32)
  | 0 => fun _ _ _ _ _ => none
  | n + 1 => fun l2 l3 v_to v_seen v_rank => FX7_pairIn_b14 p1 v_pins v_one v_other v_thought k2 (FX7_pairIn_h14 p1 v_pins v_one v_other v_thought k2 n) l2 l3 v_to v_seen v_rank
noncomputable def FX7_pairIn_b2 (p1 v_pins : Int32) (v_one v_other : Nat → Int32) (v_thought : Int32)  (k2 : Int32 → (Nat → Int32) → Int32 → Int32 → Option (Int32 × (Nat → Int32) × Int32 × Int32)) (l2 : Int32) (v_to : Nat → Int32) (v_seen v_rank : Int32) : Option (Int32 × (Nat → Int32) × Int32 × Int32) := (if v_pins ≤ l2 then (some ((-1), v_to, v_seen, v_rank)) else (FX7_pairIn_h14 p1 v_pins v_one v_other v_thought k2 5000 l2 (l2 + 1) v_to v_seen v_rank))
noncomputable def FX7_pairIn_h2 (p1 v_pins : Int32) (v_one v_other : Nat → Int32) (v_thought : Int32)  : Nat → Int32 → (Nat → Int32) → Int32 → Int32 → Option (Int32 × (Nat → Int32) × Int32 × Int32)
  | 0 => fun _ _ _ _ => none
  | n + 1 => fun l2 v_to v_seen v_rank => FX7_pairIn_b2 p1 v_pins v_one v_other v_thought  (FX7_pairIn_h2 p1 v_pins v_one v_other v_thought  n) l2 v_to v_seen v_rank
noncomputable def FX7_pairIn (p1 : Int32) (v_pins : Int32) (v_to : Nat → Int32) (v_seen v_rank : Int32) (v_one v_other : Nat → Int32) (v_thought : Int32) : Option (Int32 × (Nat → Int32) × Int32 × Int32) := (FX7_pairIn_h2 p1 v_pins v_one v_other v_thought  5000 0 v_to v_seen v_rank)
set_option maxHeartbeats 4000000 in
set_option maxRecDepth 100000 in
theorem c_X7_pairIn (l : Launch) (D : va_G) (cI cZ cS : ClassId) (a : Nat → Nat) (v_pins v_bars v_taped v_lined v_at v_fault : Int32) (v_name v_low v_high v_tape v_line : Nat → Int32) (v_imagePins v_imageBars : Int32) (v_imageName v_imageLow v_imageHigh : Nat → Int32) (v_isKept : Int32) (v_to v_carries : Nat → Int32) (v_seen v_rank : Int32) (v_one v_other : Nat → Int32) (v_thought v_gone : Int32) (v_tied v_part v_lack v_down : Nat → Int32) (v_parts v_lacks v_downs : Int32) (v_sort v_items v_item v_carried : Nat → Int32) (v_first v_second : Int32) (p1 : Int32) (u : Int32 × (Nat → Int32) × Int32 × Int32) (hF : FX7_pairIn p1 v_pins v_to v_seen v_rank v_one v_other v_thought = some u) : MCi l D (tyL cI cZ cS) yX7_pairIn cX7_pairIn 4 (some .int) 18 410 [.ref (a 0), .int p1] (wX7 cI cZ a v_pins v_bars v_taped v_lined v_at v_fault v_name v_low v_high v_tape v_line v_imagePins v_imageBars v_imageName v_imageLow v_imageHigh v_isKept v_to v_carries v_seen v_rank v_one v_other v_thought v_gone v_tied v_part v_lack v_down v_parts v_lacks v_downs v_sort v_items v_item v_carried v_first v_second) (wX7 cI cZ a v_pins v_bars v_taped v_lined v_at v_fault v_name v_low v_high v_tape v_line v_imagePins v_imageBars v_imageName v_imageLow v_imageHigh v_isKept u.2.1 v_carries u.2.2.1 u.2.2.2 v_one v_other v_thought v_gone v_tied v_part v_lack v_down v_parts v_lacks v_downs v_sort v_items v_item v_carried v_first v_second) u.1 := by
  refine MCi.mk (by decide) (Nat.le_of_ble_eq_true rfl) ?_
  intro p e s m args below meth c A ls Q h0 hP hD hA hS hl hfin0
  have hfin : ∀ (u' : Int32 × (Nat → Int32) × Int32 × Int32), u' = u → ∀ (H : Heap) (locs : List Loc) (ls : Array Slot) (pc : Nat), va_P D vwCl (wX7 cI cZ a v_pins v_bars v_taped v_lined v_at v_fault v_name v_low v_high v_tape v_line v_imagePins v_imageBars v_imageName v_imageLow v_imageHigh v_isKept u'.2.1 v_carries u'.2.2.1 u'.2.2.2 v_one v_other v_thought v_gone v_tied v_part v_lack v_down v_parts v_lacks v_downs v_sort v_items v_item v_carried v_first v_second) H → va_D A (wX7 cI cZ a v_pins v_bars v_taped v_lined v_at v_fault v_name v_low v_high v_tape v_line v_imagePins v_imageBars v_imageName v_imageLow v_imageHigh v_isKept u'.2.1 v_carries u'.2.2.1 u'.2.2.2 v_one v_other v_thought v_gone v_tied v_part v_lack v_down v_parts v_lacks v_downs v_sort v_items v_item v_carried v_first v_second) → va_S A s.heap H locs → decode cX7_pairIn pc = .ok (.ireturn, 1) → W p l e (uR 18 410) s m args below meth c H locs 0 0 Q (F0 m pc ls [.int u'.1]) := by intro u' hu; subst hu; exact hfin0
  clear hfin0
  obtain ⟨hx, hb, hr, hlk, hml, hown, hts, hK⟩ := id h0
  have hl : lv_has ls 4 [(0, .ref (a 0)), (1, .int p1)] := hl
  have E := hF
  have J2 : ∀ (n2 : Nat) (l2 : Int32) (v_to : Nat → Int32) (v_seen v_rank : Int32) (H : Heap) (locs : List Loc) (ls : Array Slot), FX7_pairIn_h2 p1 v_pins v_one v_other v_thought  n2 l2 v_to v_seen v_rank = some u → va_P D vwCl (wX7 cI cZ a v_pins v_bars v_taped v_lined v_at v_fault v_name v_low v_high v_tape v_line v_imagePins v_imageBars v_imageName v_imageLow v_imageHigh v_isKept v_to v_carries v_seen v_rank v_one v_other v_thought v_gone v_tied v_part v_lack v_down v_parts v_lacks v_downs v_sort v_items v_item v_carried v_first v_second) H → va_D A (wX7 cI cZ a v_pins v_bars v_taped v_lined v_at v_fault v_name v_low v_high v_tape v_line v_imagePins v_imageBars v_imageName v_imageLow v_imageHigh v_isKept v_to v_carries v_seen v_rank v_one v_other v_thought v_gone v_tied v_part v_lack v_down v_parts v_lacks v_downs v_sort v_items v_item v_carried v_first v_second) → va_S A s.heap H locs → lv_has ls 4 [(0, .ref (a 0)), (1, .int p1), (2, .int l2)] → W p l e (uR 18 410) s m args below meth c H locs 0 0 Q (F0 m 2 ls []) := by
    intro n2
    induction n2 with
    | zero => intro l2 v_to v_seen v_rank H locs ls E; exact none_e E
    | succ n2 ih2 =>
      intro l2 v_to v_seen v_rank H locs ls E hP hD hS hl
      have E : FX7_pairIn_b2 p1 v_pins v_one v_other v_thought  (FX7_pairIn_h2 p1 v_pins v_one v_other v_thought  n2) l2 v_to v_seen v_rank = some u := E
      have J14 : ∀ (n14 : Nat) (l2 l3 : Int32) (v_to : Nat → Int32) (v_seen v_rank : Int32) (H : Heap) (locs : List Loc) (ls : Array Slot), FX7_pairIn_h14 p1 v_pins v_one v_other v_thought (FX7_pairIn_h2 p1 v_pins v_one v_other v_thought  n2) n14 l2 l3 v_to v_seen v_rank = some u → va_P D vwCl (wX7 cI cZ a v_pins v_bars v_taped v_lined v_at v_fault v_name v_low v_high v_tape v_line v_imagePins v_imageBars v_imageName v_imageLow v_imageHigh v_isKept v_to v_carries v_seen v_rank v_one v_other v_thought v_gone v_tied v_part v_lack v_down v_parts v_lacks v_downs v_sort v_items v_item v_carried v_first v_second) H → va_D A (wX7 cI cZ a v_pins v_bars v_taped v_lined v_at v_fault v_name v_low v_high v_tape v_line v_imagePins v_imageBars v_imageName v_imageLow v_imageHigh v_isKept v_to v_carries v_seen v_rank v_one v_other v_thought v_gone v_tied v_part v_lack v_down v_parts v_lacks v_downs v_sort v_items v_item v_carried v_first v_second) → va_S A s.heap H locs → lv_has ls 4 [(0, .ref (a 0)), (1, .int p1), (2, .int l2), (3, .int l3)] → W p l e (uR 18 410) s m args below meth c H locs 0 0 Q (F0 m 14 ls []) := by
        intro n14
        induction n14 with
        | zero => intro l2 l3 v_to v_seen v_rank H locs ls E; exact none_e E
        | succ n14 ih14 =>
          intro l2 l3 v_to v_seen v_rank H locs ls E hP hD hS hl
          have E : FX7_pairIn_b14 p1 v_pins v_one v_other v_thought (FX7_pairIn_h2 p1 v_pins v_one v_other v_thought  n2) (FX7_pairIn_h14 p1 v_pins v_one v_other v_thought (FX7_pairIn_h2 p1 v_pins v_one v_other v_thought  n2) n14) l2 l3 v_to v_seen v_rank = some u := E
          have J60 : ∀ (l2 l3 : Int32) (v_to : Nat → Int32) (v_seen v_rank : Int32) (H : Heap) (locs : List Loc) (ls : Array Slot), FX7_pairIn_b60 p1 v_pins v_one v_other v_thought (FX7_pairIn_h2 p1 v_pins v_one v_other v_thought  n2) (FX7_pairIn_h14 p1 v_pins v_one v_other v_thought (FX7_pairIn_h2 p1 v_pins v_one v_other v_thought  n2) n14) l2 l3 v_to v_seen v_rank = some u → va_P D vwCl (wX7 cI cZ a v_pins v_bars v_taped v_lined v_at v_fault v_name v_low v_high v_tape v_line v_imagePins v_imageBars v_imageName v_imageLow v_imageHigh v_isKept v_to v_carries v_seen v_rank v_one v_other v_thought v_gone v_tied v_part v_lack v_down v_parts v_lacks v_downs v_sort v_items v_item v_carried v_first v_second) H → va_D A (wX7 cI cZ a v_pins v_bars v_taped v_lined v_at v_fault v_name v_low v_high v_tape v_line v_imagePins v_imageBars v_imageName v_imageLow v_imageHigh v_isKept v_to v_carries v_seen v_rank v_one v_other v_thought v_gone v_tied v_part v_lack v_down v_parts v_lacks v_downs v_sort v_items v_item v_carried v_first v_second) → va_S A s.heap H locs → lv_has ls 4 [(0, .ref (a 0)), (1, .int p1), (2, .int l2), (3, .int l3)] → W p l e (uR 18 410) s m args below meth c H locs 0 0 Q (F0 m 60 ls []) := by
            intro l2 l3 v_to v_seen v_rank H locs ls E hP hD hS hl
            refine lv_iinc (v := (l3 + 1)) (lv' := [(3, .int (l3 + 1)), (0, .ref (a 0)), (1, .int p1), (2, .int l2)]) hx hb dX7_pairIn_60 hl (k := 3) rfl rfl (by decide) rfl (fun ls hl => ?_)
            refine lv_goto (tgt := 14) hx hb dX7_pairIn_63 (by decide) ?_
            exact ih14 _ _ _ _ _ _ _ _ E hP hD hS (lv_sub hl [1, 2, 3, 0] rfl)
          refine lv_iload_n hx hb dX7_pairIn_14 rfl (lv_at hl 3 rfl) ?_
          refine lv_aload_n hx hb dX7_pairIn_15 rfl (lv_at hl 0 rfl) ?_
          refine gf_X7_71 h0 hP 0 rfl rfl dX7_pairIn_16 ?_
          refine lv_icmp_ge (tgt := 66) hx hb dX7_pairIn_19 (by decide) (fun c1 => ?_) (fun c1 => ?_)
          · have E := br_p E c1
            refine lv_iinc (v := (l2 + 1)) (lv' := [(2, .int (l2 + 1)), (0, .ref (a 0)), (1, .int p1), (3, .int l3)]) hx hb dX7_pairIn_66 hl (k := 2) rfl rfl (by decide) rfl (fun ls hl => ?_)
            refine lv_goto (tgt := 2) hx hb dX7_pairIn_69 (by decide) ?_
            exact ih2 _ _ _ _ _ _ _ E hP hD hS (lv_sub hl [1, 2, 0] rfl)
          · have E := br_n E c1
            refine lv_iload_n hx hb dX7_pairIn_22 rfl (lv_at hl 1 rfl) ?_
            refine lv_iload_n hx hb dX7_pairIn_23 rfl (lv_at hl 2 rfl) ?_
            refine lv_ishr hx hb dX7_pairIn_24 ?_
            refine lv_iload_n hx hb dX7_pairIn_25 rfl (lv_at hl 1 rfl) ?_
            refine lv_iload_n hx hb dX7_pairIn_26 rfl (lv_at hl 3 rfl) ?_
            refine lv_ishr hx hb dX7_pairIn_27 ?_
            refine lv_iand hx hb dX7_pairIn_28 ?_
            refine lv_iconst (v := 1) hx hb dX7_pairIn_29 (by decide) ?_
            refine lv_iand hx hb dX7_pairIn_30 ?_
            refine lv_iconst (v := 1) hx hb dX7_pairIn_31 (by decide) ?_
            refine lv_icmp_ne (tgt := 60) hx hb dX7_pairIn_32 (by decide) (fun c2 => ?_) (fun c2 => ?_)
            · have E := br_n E c2
              exact J60 _ _ _ _ _ _ _ _ E hP hD hS (lv_sub hl [0, 1, 2, 3] rfl)
            · have E := br_p E c2
              refine lv_aload_n hx hb dX7_pairIn_35 rfl (lv_at hl 0 rfl) ?_
              refine lv_iload_n hx hb dX7_pairIn_36 rfl (lv_at hl 2 rfl) ?_
              refine lv_iload_n hx hb dX7_pairIn_37 rfl (lv_at hl 3 rfl) ?_
              obtain ⟨r3, hF, E⟩ := bn_e E
              refine callVfi (wo := (wX7 cI cZ a v_pins v_bars v_taped v_lined v_at v_fault v_name v_low v_high v_tape v_line v_imagePins v_imageBars v_imageName v_imageLow v_imageHigh v_isKept v_to v_carries v_seen v_rank v_one v_other v_thought v_gone v_tied v_part v_lack v_down v_parts v_lacks v_downs v_sort v_items v_item v_carried v_first v_second)) h0 (c_X7_isThere l D cI cZ cS a v_pins v_bars v_taped v_lined v_at v_fault v_name v_low v_high v_tape v_line v_imagePins v_imageBars v_imageName v_imageLow v_imageHigh v_isKept v_to v_carries v_seen v_rank v_one v_other v_thought v_gone v_tied v_part v_lack v_down v_parts v_lacks v_downs v_sort v_items v_item v_carried v_first v_second l2 l3 r3 hF) (gV wq_894 wq_896 wp_48 wq_8 wq_897) hdX7_isThere ⟨Nat.le_of_ble_eq_true rfl, Nat.le_of_ble_eq_true rfl⟩ ⟨Nat.le_refl _, Nat.le_refl _⟩ hP hD hS hA 0 7 rfl rfl rfl hl.1 rfl (Nat.le_of_ble_eq_true rfl) dX7_pairIn_38 (fun H locs hP hD hS => ?_)
              refine lv_if_ne (tgt := 60) hx hb dX7_pairIn_41 (by decide) (fun c4 => ?_) (fun c4 => ?_)
              · have E := br_n E c4
                exact J60 _ _ _ _ _ _ _ _ E hP hD hS (lv_sub hl [0, 1, 2, 3] rfl)
              · have E := br_p E c4
                refine lv_aload_n hx hb dX7_pairIn_44 rfl (lv_at hl 0 rfl) ?_
                refine lv_iload_n hx hb dX7_pairIn_45 rfl (lv_at hl 2 rfl) ?_
                refine lv_iload_n hx hb dX7_pairIn_46 rfl (lv_at hl 3 rfl) ?_
                obtain ⟨r5, hF, E⟩ := bn_e E
                refine callVfi (wo := (wX7 cI cZ a v_pins v_bars v_taped v_lined v_at v_fault v_name v_low v_high v_tape v_line v_imagePins v_imageBars v_imageName v_imageLow v_imageHigh v_isKept r5.2.1 v_carries r5.2.2.1 r5.2.2.2 v_one v_other v_thought v_gone v_tied v_part v_lack v_down v_parts v_lacks v_downs v_sort v_items v_item v_carried v_first v_second)) h0 (c_X7_helps l D cI cZ cS a v_pins v_bars v_taped v_lined v_at v_fault v_name v_low v_high v_tape v_line v_imagePins v_imageBars v_imageName v_imageLow v_imageHigh v_isKept v_to v_carries v_seen v_rank v_one v_other v_thought v_gone v_tied v_part v_lack v_down v_parts v_lacks v_downs v_sort v_items v_item v_carried v_first v_second l2 l3 r5 hF) (gV wq_898 wq_900 wp_49 wq_8 wq_901) hdX7_helps ⟨Nat.le_of_ble_eq_true rfl, Nat.le_of_ble_eq_true rfl⟩ ⟨Nat.le_refl _, Nat.le_refl _⟩ hP hD hS hA 0 7 rfl rfl rfl hl.1 rfl (Nat.le_of_ble_eq_true rfl) dX7_pairIn_47 (fun H locs hP hD hS => ?_)
                refine lv_if_eq (tgt := 60) hx hb dX7_pairIn_50 (by decide) (fun c6 => ?_) (fun c6 => ?_)
                · have E := br_p E c6
                  exact J60 _ _ _ _ _ _ _ _ E hP hD hS (lv_sub hl [0, 1, 2, 3] rfl)
                · have E := br_n E c6
                  refine lv_bipush (v := 100) hx hb dX7_pairIn_53 (by decide) ?_
                  refine lv_iload_n hx hb dX7_pairIn_55 rfl (lv_at hl 2 rfl) ?_
                  refine lv_imul hx hb dX7_pairIn_56 ?_
                  refine lv_iload_n hx hb dX7_pairIn_57 rfl (lv_at hl 3 rfl) ?_
                  refine lv_iadd hx hb dX7_pairIn_58 ?_
                  exact hfin _ (Option.some.inj E) _ _ _ _ hP hD hS dX7_pairIn_59
      refine lv_iload_n hx hb dX7_pairIn_2 rfl (lv_at hl 2 rfl) ?_
      refine lv_aload_n hx hb dX7_pairIn_3 rfl (lv_at hl 0 rfl) ?_
      refine gf_X7_71 h0 hP 0 rfl rfl dX7_pairIn_4 ?_
      refine lv_icmp_ge (tgt := 72) hx hb dX7_pairIn_7 (by decide) (fun c7 => ?_) (fun c7 => ?_)
      · have E := br_p E c7
        refine lv_iconst (v := (-1)) hx hb dX7_pairIn_72 (by decide) ?_
        exact hfin _ (Option.some.inj E) _ _ _ _ hP hD hS dX7_pairIn_73
      · have E := br_n E c7
        refine lv_iload_n hx hb dX7_pairIn_10 rfl (lv_at hl 2 rfl) ?_
        refine lv_iconst (v := 1) hx hb dX7_pairIn_11 (by decide) ?_
        refine lv_iadd hx hb dX7_pairIn_12 ?_
        refine lv_istore_n (lv' := [(3, .int (l2 + 1)), (0, .ref (a 0)), (1, .int p1), (2, .int l2)]) hx hb dX7_pairIn_13 rfl hl (by decide) rfl (fun ls hl => ?_)
        exact J14 5000 _ _ _ _ _ _ _ _ E hP hD hS (lv_sub hl [1, 2, 3, 0] rfl)
  refine lv_iconst (v := 0) hx hb dX7_pairIn_0 (by decide) ?_
  refine lv_istore_n (lv' := [(2, .int 0), (0, .ref (a 0)), (1, .int p1)]) hx hb dX7_pairIn_1 rfl hl (by decide) rfl (fun ls hl => ?_)
  exact J2 5000 _ _ _ _ _ _ _ E hP hD hS (lv_sub hl [1, 2, 0] rfl)
theorem hdX7_takesDown : yX7_takesDown.cls = RX7 ∧ yX7_takesDown.cls ≠ "java/lang/invoke/MethodHandle" ∧ yX7_takesDown.cls ≠ "java/lang/invoke/VarHandle" ∧ (parseMethodDescriptor yX7_takesDown.desc).map (fun d => d.parameters.length) = some 0 := by decide +kernel
noncomputable def FX7_takesDown_b156 (v_pins v_bars : Int32) (v_low v_high : Nat → Int32) (k58 : (Nat → Int32) → Int32 → Int32 → (Nat → Int32) → (Nat → Int32) → Int32 → Int32 → (Nat → Int32) → Int32 → Option ((Nat → Int32) × Int32 × Int32 × (Nat → Int32) × (Nat → Int32) × Int32 × Int32 × (Nat → Int32) × Int32)) (l1 l2 l4 : Int32) (v_to : Nat → Int32) (v_seen v_rank : Int32) (v_one v_other : Nat → Int32) (v_thought v_gone : Int32) (v_down : Nat → Int32) (v_downs : Int32) : Option ((Nat → Int32) × Int32 × Int32 × (Nat → Int32) × (Nat → Int32) × Int32 × Int32 × (Nat → Int32) × Int32) := (gd (vp_in (3 * v_downs) 36) (gd (vp_in ((3 * v_downs) + 1) 36) (gd (vp_in ((3 * v_downs) + 2) 36) (k58 v_to v_seen v_rank v_one v_other v_thought v_gone (upd (upd (upd v_down (3 * v_downs).toNatClampNeg l2) ((3 * v_downs) + 1).toNatClampNeg l1) ((3 * v_downs) + 2).toNatClampNeg l4) (v_downs + 1)))))
noncomputable def FX7_takesDown_b111 (v_pins v_bars : Int32) (v_low v_high : Nat → Int32) (k58 : (Nat → Int32) → Int32 → Int32 → (Nat → Int32) → (Nat → Int32) → Int32 → Int32 → (Nat → Int32) → Int32 → Option ((Nat → Int32) × Int32 × Int32 × (Nat → Int32) × (Nat → Int32) × Int32 × Int32 × (Nat → Int32) × Int32)) (l1 l2 t0 : Int32) (v_to : Nat → Int32) (v_seen v_rank : Int32) (v_one v_other : Nat → Int32) (v_thought v_gone : Int32) (v_down : Nat → Int32) (v_downs : Int32) : Option ((Nat → Int32) × Int32 × Int32 × (Nat → Int32) × (Nat → Int32) × Int32 × Int32 × (Nat → Int32) × Int32) := (if t0 < 0 then (FX7_takesDown_b156 v_pins v_bars v_low v_high k58 l1 l2 t0 v_to v_seen v_rank v_one v_other v_thought v_gone v_down v_downs) else (gd (vp_in v_thought 72) (gd (vp_in v_thought 72) (FX7_takesDown_b156 v_pins v_bars v_low v_high k58 l1 l2 t0 v_to v_seen v_rank (upd v_one v_thought.toNatClampNeg (t0 / 100)) (upd v_other v_thought.toNatClampNeg (t0 - t0 / 100 * 100)) (v_thought + 1) v_gone v_down v_downs))))
noncomputable def FX7_takesDown_b84 (v_pins v_bars : Int32) (v_low v_high : Nat → Int32) (k58 : (Nat → Int32) → Int32 → Int32 → (Nat → Int32) → (Nat → Int32) → Int32 → Int32 → (Nat → Int32) → Int32 → Option ((Nat → Int32) × Int32 × Int32 × (Nat → Int32) × (Nat → Int32) × Int32 × Int32 × (Nat → Int32) × Int32)) (t0 : Int32) (v_to : Nat → Int32) (v_seen v_rank : Int32) (v_one v_other : Nat → Int32) (v_thought v_gone : Int32) (v_down : Nat → Int32) (v_downs : Int32) : Option ((Nat → Int32) × Int32 × Int32 × (Nat → Int32) × (Nat → Int32) × Int32 × Int32 × (Nat → Int32) × Int32) := ((FX7_firstOf t0 v_pins v_one v_other v_thought v_gone).bind (fun r7 => ((FX7_goes r7 v_one v_other v_thought v_gone).bind (fun r8 => (if t0 = 3 then ((FX7_pairIn r8.1 v_pins v_to v_seen v_rank r8.2.1 r8.2.2.1 r8.2.2.2.1).bind (fun r10 => (FX7_takesDown_b111 v_pins v_bars v_low v_high k58 t0 r7 r10.1 r10.2.1 r10.2.2.1 r10.2.2.2 r8.2.1 r8.2.2.1 r8.2.2.2.1 r8.2.2.2.2 v_down v_downs))) else (FX7_takesDown_b111 v_pins v_bars v_low v_high k58 t0 r7 (-1) v_to v_seen v_rank r8.2.1 r8.2.2.1 r8.2.2.2.1 r8.2.2.2.2 v_down v_downs))))))
noncomputable def FX7_takesDown_b58 (v_pins v_bars : Int32) (v_low v_high : Nat → Int32)  (k58 : (Nat → Int32) → Int32 → Int32 → (Nat → Int32) → (Nat → Int32) → Int32 → Int32 → (Nat → Int32) → Int32 → Option ((Nat → Int32) × Int32 × Int32 × (Nat → Int32) × (Nat → Int32) × Int32 × Int32 × (Nat → Int32) × Int32)) (v_to : Nat → Int32) (v_seen v_rank : Int32) (v_one v_other : Nat → Int32) (v_thought v_gone : Int32) (v_down : Nat → Int32) (v_downs : Int32) : Option ((Nat → Int32) × Int32 × Int32 × (Nat → Int32) × (Nat → Int32) × Int32 × Int32 × (Nat → Int32) × Int32) := (if (v_pins - v_downs) ≤ 2 then (some (v_to, v_seen, v_rank, v_one, v_other, v_thought, v_gone, v_down, v_downs)) else ((FX7_firstOf 2 v_pins v_one v_other v_thought v_gone).bind (fun r12 => (if r12 < 0 then (FX7_takesDown_b84 v_pins v_bars v_low v_high k58 3 v_to v_seen v_rank v_one v_other v_thought v_gone v_down v_downs) else (FX7_takesDown_b84 v_pins v_bars v_low v_high k58 2 v_to v_seen v_rank v_one v_other v_thought v_gone v_down v_downs)))))
noncomputable def FX7_takesDown_h58 (v_pins v_bars : Int32) (v_low v_high : Nat → Int32)  : Nat → (Nat → Int32) → Int32 → Int32 → (Nat → Int32) → (Nat → Int32) → Int32 → Int32 → (Nat → Int32) → Int32 → Option ((Nat → Int32) × Int32 × Int32 × (Nat → Int32) × (Nat → Int32) × Int32 × Int32 × (Nat → Int32) × Int32)
  | 0 => fun _ _ _ _ _ _ _ _ _ => none
  | n + 1 => fun v_to v_seen v_rank v_one v_other v_thought v_gone v_down v_downs => FX7_takesDown_b58 v_pins v_bars v_low v_high  (FX7_takesDown_h58 v_pins v_bars v_low v_high  n) v_to v_seen v_rank v_one v_other v_thought v_gone v_down v_downs
noncomputable def FX7_takesDown_b20 (v_pins v_bars : Int32) (v_low v_high : Nat → Int32)  (k20 : Int32 → (Nat → Int32) → Int32 → Int32 → (Nat → Int32) → (Nat → Int32) → Int32 → Int32 → (Nat → Int32) → Int32 → Option ((Nat → Int32) × Int32 × Int32 × (Nat → Int32) × (Nat → Int32) × Int32 × Int32 × (Nat → Int32) × Int32)) (l1 : Int32) (v_to : Nat → Int32) (v_seen v_rank : Int32) (v_one v_other : Nat → Int32) (v_thought v_gone : Int32) (v_down : Nat → Int32) (v_downs : Int32) : Option ((Nat → Int32) × Int32 × Int32 × (Nat → Int32) × (Nat → Int32) × Int32 × Int32 × (Nat → Int32) × Int32) := (if v_bars ≤ l1 then (FX7_takesDown_h58 v_pins v_bars v_low v_high  5000 v_to v_seen v_rank v_one v_other v_thought v_gone v_down v_downs) else (gd (vp_in l1 24) (gd (vp_in l1 72) (gd (vp_in l1 24) (gd (vp_in l1 72) (k20 (l1 + 1) v_to v_seen v_rank (upd v_one l1.toNatClampNeg (v_low l1.toNatClampNeg)) (upd v_other l1.toNatClampNeg (v_high l1.toNatClampNeg)) v_thought v_gone v_down v_downs))))))
noncomputable def FX7_takesDown_h20 (v_pins v_bars : Int32) (v_low v_high : Nat → Int32)  : Nat → Int32 → (Nat → Int32) → Int32 → Int32 → (Nat → Int32) → (Nat → Int32) → Int32 → Int32 → (Nat → Int32) → Int32 → Option ((Nat → Int32) × Int32 × Int32 × (Nat → Int32) × (Nat → Int32) × Int32 × Int32 × (Nat → Int32) × Int32)
  | 0 => fun _ _ _ _ _ _ _ _ _ _ => none
  | n + 1 => fun l1 v_to v_seen v_rank v_one v_other v_thought v_gone v_down v_downs => FX7_takesDown_b20 v_pins v_bars v_low v_high  (FX7_takesDown_h20 v_pins v_bars v_low v_high  n) l1 v_to v_seen v_rank v_one v_other v_thought v_gone v_down v_downs
noncomputable def FX7_takesDown (v_pins v_bars : Int32) (v_low v_high v_to : Nat → Int32) (v_seen v_rank : Int32) (v_one v_other : Nat → Int32) (v_thought v_gone : Int32) (v_down : Nat → Int32) (v_downs : Int32) : Option ((Nat → Int32) × Int32 × Int32 × (Nat → Int32) × (Nat → Int32) × Int32 × Int32 × (Nat → Int32) × Int32) := (FX7_takesDown_h20 v_pins v_bars v_low v_high  5000 0 v_to v_seen v_rank v_one v_other v_bars 0 v_down 0)
set_option maxHeartbeats 4000000 in
set_option maxRecDepth 100000 in
theorem c_X7_takesDown (l : Launch) (D : va_G) (cI cZ cS : ClassId) (a : Nat → Nat) (v_pins v_bars v_taped v_lined v_at v_fault : Int32) (v_name v_low v_high v_tape v_line : Nat → Int32) (v_imagePins v_imageBars : Int32) (v_imageName v_imageLow v_imageHigh : Nat → Int32) (v_isKept : Int32) (v_to v_carries : Nat → Int32) (v_seen v_rank : Int32) (v_one v_other : Nat → Int32) (v_thought v_gone : Int32) (v_tied v_part v_lack v_down : Nat → Int32) (v_parts v_lacks v_downs : Int32) (v_sort v_items v_item v_carried : Nat → Int32) (v_first v_second : Int32)  (u : (Nat → Int32) × Int32 × Int32 × (Nat → Int32) × (Nat → Int32) × Int32 × Int32 × (Nat → Int32) × Int32) (hF : FX7_takesDown v_pins v_bars v_low v_high v_to v_seen v_rank v_one v_other v_thought v_gone v_down v_downs = some u) : MCv l D (tyL cI cZ cS) yX7_takesDown cX7_takesDown 5 none 19 433 [.ref (a 0)] (wX7 cI cZ a v_pins v_bars v_taped v_lined v_at v_fault v_name v_low v_high v_tape v_line v_imagePins v_imageBars v_imageName v_imageLow v_imageHigh v_isKept v_to v_carries v_seen v_rank v_one v_other v_thought v_gone v_tied v_part v_lack v_down v_parts v_lacks v_downs v_sort v_items v_item v_carried v_first v_second) (wX7 cI cZ a v_pins v_bars v_taped v_lined v_at v_fault v_name v_low v_high v_tape v_line v_imagePins v_imageBars v_imageName v_imageLow v_imageHigh v_isKept u.1 v_carries u.2.1 u.2.2.1 u.2.2.2.1 u.2.2.2.2.1 u.2.2.2.2.2.1 u.2.2.2.2.2.2.1 v_tied v_part v_lack u.2.2.2.2.2.2.2.1 v_parts v_lacks u.2.2.2.2.2.2.2.2 v_sort v_items v_item v_carried v_first v_second) := by
  refine MCv.mk (by decide) (Nat.le_of_ble_eq_true rfl) ?_
  intro p e s m args below meth c A ls Q h0 hP hD hA hS hl hfin0
  have hfin : ∀ (u' : (Nat → Int32) × Int32 × Int32 × (Nat → Int32) × (Nat → Int32) × Int32 × Int32 × (Nat → Int32) × Int32), u' = u → ∀ (H : Heap) (locs : List Loc) (ls : Array Slot) (pc : Nat), va_P D vwCl (wX7 cI cZ a v_pins v_bars v_taped v_lined v_at v_fault v_name v_low v_high v_tape v_line v_imagePins v_imageBars v_imageName v_imageLow v_imageHigh v_isKept u'.1 v_carries u'.2.1 u'.2.2.1 u'.2.2.2.1 u'.2.2.2.2.1 u'.2.2.2.2.2.1 u'.2.2.2.2.2.2.1 v_tied v_part v_lack u'.2.2.2.2.2.2.2.1 v_parts v_lacks u'.2.2.2.2.2.2.2.2 v_sort v_items v_item v_carried v_first v_second) H → va_D A (wX7 cI cZ a v_pins v_bars v_taped v_lined v_at v_fault v_name v_low v_high v_tape v_line v_imagePins v_imageBars v_imageName v_imageLow v_imageHigh v_isKept u'.1 v_carries u'.2.1 u'.2.2.1 u'.2.2.2.1 u'.2.2.2.2.1 u'.2.2.2.2.2.1 u'.2.2.2.2.2.2.1 v_tied v_part v_lack u'.2.2.2.2.2.2.2.1 v_parts v_lacks u'.2.2.2.2.2.2.2.2 v_sort v_items v_item v_carried v_first v_second) → va_S A s.heap H locs → decode cX7_takesDown pc = .ok (.return_, 1) → W p l e (uR 19 433) s m args below meth c H locs 0 0 Q (F0 m pc ls []) := by intro u' hu; subst hu; exact hfin0
  clear hfin0
  obtain ⟨hx, hb, hr, hlk, hml, hown, hts, hK⟩ := id h0
  have hl : lv_has ls 5 [(0, .ref (a 0))] := hl
  have E := hF
  have J58 : ∀ (n58 : Nat) (v_to : Nat → Int32) (v_seen v_rank : Int32) (v_one v_other : Nat → Int32) (v_thought v_gone : Int32) (v_down : Nat → Int32) (v_downs : Int32) (H : Heap) (locs : List Loc) (ls : Array Slot), FX7_takesDown_h58 v_pins v_bars v_low v_high  n58 v_to v_seen v_rank v_one v_other v_thought v_gone v_down v_downs = some u → va_P D vwCl (wX7 cI cZ a v_pins v_bars v_taped v_lined v_at v_fault v_name v_low v_high v_tape v_line v_imagePins v_imageBars v_imageName v_imageLow v_imageHigh v_isKept v_to v_carries v_seen v_rank v_one v_other v_thought v_gone v_tied v_part v_lack v_down v_parts v_lacks v_downs v_sort v_items v_item v_carried v_first v_second) H → va_D A (wX7 cI cZ a v_pins v_bars v_taped v_lined v_at v_fault v_name v_low v_high v_tape v_line v_imagePins v_imageBars v_imageName v_imageLow v_imageHigh v_isKept v_to v_carries v_seen v_rank v_one v_other v_thought v_gone v_tied v_part v_lack v_down v_parts v_lacks v_downs v_sort v_items v_item v_carried v_first v_second) → va_S A s.heap H locs → lv_has ls 5 [(0, .ref (a 0))] → W p l e (uR 19 433) s m args below meth c H locs 0 0 Q (F0 m 58 ls []) := by
    intro n58
    induction n58 with
    | zero => intro v_to v_seen v_rank v_one v_other v_thought v_gone v_down v_downs H locs ls E; exact none_e E
    | succ n58 ih58 =>
      intro v_to v_seen v_rank v_one v_other v_thought v_gone v_down v_downs H locs ls E hP hD hS hl
      have E : FX7_takesDown_b58 v_pins v_bars v_low v_high  (FX7_takesDown_h58 v_pins v_bars v_low v_high  n58) v_to v_seen v_rank v_one v_other v_thought v_gone v_down v_downs = some u := E
      have J156 : ∀ (l1 l2 l4 : Int32) (v_to : Nat → Int32) (v_seen v_rank : Int32) (v_one v_other : Nat → Int32) (v_thought v_gone : Int32) (v_down : Nat → Int32) (v_downs : Int32) (H : Heap) (locs : List Loc) (ls : Array Slot), FX7_takesDown_b156 v_pins v_bars v_low v_high (FX7_takesDown_h58 v_pins v_bars v_low v_high  n58) l1 l2 l4 v_to v_seen v_rank v_one v_other v_thought v_gone v_down v_downs = some u → va_P D vwCl (wX7 cI cZ a v_pins v_bars v_taped v_lined v_at v_fault v_name v_low v_high v_tape v_line v_imagePins v_imageBars v_imageName v_imageLow v_imageHigh v_isKept v_to v_carries v_seen v_rank v_one v_other v_thought v_gone v_tied v_part v_lack v_down v_parts v_lacks v_downs v_sort v_items v_item v_carried v_first v_second) H → va_D A (wX7 cI cZ a v_pins v_bars v_taped v_lined v_at v_fault v_name v_low v_high v_tape v_line v_imagePins v_imageBars v_imageName v_imageLow v_imageHigh v_isKept v_to v_carries v_seen v_rank v_one v_other v_thought v_gone v_tied v_part v_lack v_down v_parts v_lacks v_downs v_sort v_items v_item v_carried v_first v_second) → va_S A s.heap H locs → lv_has ls 5 [(0, .ref (a 0)), (1, .int l1), (2, .int l2), (4, .int l4)] → W p l e (uR 19 433) s m args below meth c H locs 0 0 Q (F0 m 156 ls []) := by
        intro l1 l2 l4 v_to v_seen v_rank v_one v_other v_thought v_gone v_down v_downs H locs ls E hP hD hS hl
        refine lv_aload_n hx hb dX7_takesDown_156 rfl (lv_at hl 0 rfl) ?_
        refine gf_X7_56 h0 hP 0 rfl rfl dX7_takesDown_157 ?_
        refine lv_iconst (v := 3) hx hb dX7_takesDown_160 (by decide) ?_
        refine lv_aload_n hx hb dX7_takesDown_161 rfl (lv_at hl 0 rfl) ?_
        refine gf_X7_194 h0 hP 0 rfl rfl dX7_takesDown_162 ?_
        refine lv_imul hx hb dX7_takesDown_165 ?_
        refine lv_iload_n hx hb dX7_takesDown_166 rfl (lv_at hl 2 rfl) ?_
        obtain ⟨g1, E⟩ := gd_e E
        refine asti (wo := (wX7 cI cZ a v_pins v_bars v_taped v_lined v_at v_fault v_name v_low v_high v_tape v_line v_imagePins v_imageBars v_imageName v_imageLow v_imageHigh v_isKept v_to v_carries v_seen v_rank v_one v_other v_thought v_gone v_tied v_part v_lack (upd v_down (3 * v_downs).toNatClampNeg l2) v_parts v_lacks v_downs v_sort v_items v_item v_carried v_first v_second)) hx hb hK hP hD hS 16 rfl rfl g1 rfl dX7_takesDown_167 (fun H locs hP hD hS => ?_)
        refine lv_aload_n hx hb dX7_takesDown_168 rfl (lv_at hl 0 rfl) ?_
        refine gf_X7_56 h0 hP 0 rfl rfl dX7_takesDown_169 ?_
        refine lv_iconst (v := 3) hx hb dX7_takesDown_172 (by decide) ?_
        refine lv_aload_n hx hb dX7_takesDown_173 rfl (lv_at hl 0 rfl) ?_
        refine gf_X7_194 h0 hP 0 rfl rfl dX7_takesDown_174 ?_
        refine lv_imul hx hb dX7_takesDown_177 ?_
        refine lv_iconst (v := 1) hx hb dX7_takesDown_178 (by decide) ?_
        refine lv_iadd hx hb dX7_takesDown_179 ?_
        refine lv_iload_n hx hb dX7_takesDown_180 rfl (lv_at hl 1 rfl) ?_
        obtain ⟨g2, E⟩ := gd_e E
        refine asti (wo := (wX7 cI cZ a v_pins v_bars v_taped v_lined v_at v_fault v_name v_low v_high v_tape v_line v_imagePins v_imageBars v_imageName v_imageLow v_imageHigh v_isKept v_to v_carries v_seen v_rank v_one v_other v_thought v_gone v_tied v_part v_lack (upd (upd v_down (3 * v_downs).toNatClampNeg l2) ((3 * v_downs) + 1).toNatClampNeg l1) v_parts v_lacks v_downs v_sort v_items v_item v_carried v_first v_second)) hx hb hK hP hD hS 16 rfl rfl g2 rfl dX7_takesDown_181 (fun H locs hP hD hS => ?_)
        refine lv_aload_n hx hb dX7_takesDown_182 rfl (lv_at hl 0 rfl) ?_
        refine gf_X7_56 h0 hP 0 rfl rfl dX7_takesDown_183 ?_
        refine lv_iconst (v := 3) hx hb dX7_takesDown_186 (by decide) ?_
        refine lv_aload_n hx hb dX7_takesDown_187 rfl (lv_at hl 0 rfl) ?_
        refine gf_X7_194 h0 hP 0 rfl rfl dX7_takesDown_188 ?_
        refine lv_imul hx hb dX7_takesDown_191 ?_
        refine lv_iconst (v := 2) hx hb dX7_takesDown_192 (by decide) ?_
        refine lv_iadd hx hb dX7_takesDown_193 ?_
        refine lv_iload hx hb dX7_takesDown_194 (lv_at hl 3 rfl) ?_
        obtain ⟨g3, E⟩ := gd_e E
        refine asti (wo := (wX7 cI cZ a v_pins v_bars v_taped v_lined v_at v_fault v_name v_low v_high v_tape v_line v_imagePins v_imageBars v_imageName v_imageLow v_imageHigh v_isKept v_to v_carries v_seen v_rank v_one v_other v_thought v_gone v_tied v_part v_lack (upd (upd (upd v_down (3 * v_downs).toNatClampNeg l2) ((3 * v_downs) + 1).toNatClampNeg l1) ((3 * v_downs) + 2).toNatClampNeg l4) v_parts v_lacks v_downs v_sort v_items v_item v_carried v_first v_second)) hx hb hK hP hD hS 16 rfl rfl g3 rfl dX7_takesDown_196 (fun H locs hP hD hS => ?_)
        refine lv_aload_n hx hb dX7_takesDown_197 rfl (lv_at hl 0 rfl) ?_
        refine lv_dup hx hb dX7_takesDown_198 rfl ?_
        refine gf_X7_194 h0 hP 0 rfl rfl dX7_takesDown_199 ?_
        refine lv_iconst (v := 1) hx hb dX7_takesDown_202 (by decide) ?_
        refine lv_iadd hx hb dX7_takesDown_203 ?_
        refine pf_X7_194 (wo := (wX7 cI cZ a v_pins v_bars v_taped v_lined v_at v_fault v_name v_low v_high v_tape v_line v_imagePins v_imageBars v_imageName v_imageLow v_imageHigh v_isKept v_to v_carries v_seen v_rank v_one v_other v_thought v_gone v_tied v_part v_lack (upd (upd (upd v_down (3 * v_downs).toNatClampNeg l2) ((3 * v_downs) + 1).toNatClampNeg l1) ((3 * v_downs) + 2).toNatClampNeg l4) v_parts v_lacks (v_downs + 1) v_sort v_items v_item v_carried v_first v_second)) h0 hP hD hS 0 rfl (Nat.le_of_ble_eq_true rfl) rfl dX7_takesDown_204 (fun H locs hP hD hS => ?_)
        refine lv_goto (tgt := 58) hx hb dX7_takesDown_207 (by decide) ?_
        exact ih58 _ _ _ _ _ _ _ _ _ _ _ _ E hP hD hS (lv_sub hl [0] rfl)
      have J111 : ∀ (l1 l2 t0 : Int32) (v_to : Nat → Int32) (v_seen v_rank : Int32) (v_one v_other : Nat → Int32) (v_thought v_gone : Int32) (v_down : Nat → Int32) (v_downs : Int32) (H : Heap) (locs : List Loc) (ls : Array Slot), FX7_takesDown_b111 v_pins v_bars v_low v_high (FX7_takesDown_h58 v_pins v_bars v_low v_high  n58) l1 l2 t0 v_to v_seen v_rank v_one v_other v_thought v_gone v_down v_downs = some u → va_P D vwCl (wX7 cI cZ a v_pins v_bars v_taped v_lined v_at v_fault v_name v_low v_high v_tape v_line v_imagePins v_imageBars v_imageName v_imageLow v_imageHigh v_isKept v_to v_carries v_seen v_rank v_one v_other v_thought v_gone v_tied v_part v_lack v_down v_parts v_lacks v_downs v_sort v_items v_item v_carried v_first v_second) H → va_D A (wX7 cI cZ a v_pins v_bars v_taped v_lined v_at v_fault v_name v_low v_high v_tape v_line v_imagePins v_imageBars v_imageName v_imageLow v_imageHigh v_isKept v_to v_carries v_seen v_rank v_one v_other v_thought v_gone v_tied v_part v_lack v_down v_parts v_lacks v_downs v_sort v_items v_item v_carried v_first v_second) → va_S A s.heap H locs → lv_has ls 5 [(0, .ref (a 0)), (1, .int l1), (2, .int l2)] → W p l e (uR 19 433) s m args below meth c H locs 0 0 Q (F0 m 111 ls [.int t0]) := by
        intro l1 l2 t0 v_to v_seen v_rank v_one v_other v_thought v_gone v_down v_downs H locs ls E hP hD hS hl
        refine lv_istore (lv' := [(4, .int t0), (0, .ref (a 0)), (1, .int l1), (2, .int l2)]) hx hb dX7_takesDown_111 hl (by decide) rfl (fun ls hl => ?_)
        refine lv_iload hx hb dX7_takesDown_113 (lv_at hl 0 rfl) ?_
        refine lv_if_lt (tgt := 156) hx hb dX7_takesDown_115 (by decide) (fun c4 => ?_) (fun c4 => ?_)
        · have E := br_p E c4
          exact J156 _ _ _ _ _ _ _ _ _ _ _ _ _ _ _ E hP hD hS (lv_sub hl [1, 2, 3, 0] rfl)
        · have E := br_n E c4
          refine lv_aload_n hx hb dX7_takesDown_118 rfl (lv_at hl 1 rfl) ?_
          refine gf_X7_41 h0 hP 0 rfl rfl dX7_takesDown_119 ?_
          refine lv_aload_n hx hb dX7_takesDown_122 rfl (lv_at hl 1 rfl) ?_
          refine gf_X7_179 h0 hP 0 rfl rfl dX7_takesDown_123 ?_
          refine lv_iload hx hb dX7_takesDown_126 (lv_at hl 0 rfl) ?_
          refine lv_bipush (v := 100) hx hb dX7_takesDown_128 (by decide) ?_
          refine lv_idiv hx hb dX7_takesDown_130 (by decide) ?_
          obtain ⟨g5, E⟩ := gd_e E
          refine asti (wo := (wX7 cI cZ a v_pins v_bars v_taped v_lined v_at v_fault v_name v_low v_high v_tape v_line v_imagePins v_imageBars v_imageName v_imageLow v_imageHigh v_isKept v_to v_carries v_seen v_rank (upd v_one v_thought.toNatClampNeg (t0 / 100)) v_other v_thought v_gone v_tied v_part v_lack v_down v_parts v_lacks v_downs v_sort v_items v_item v_carried v_first v_second)) hx hb hK hP hD hS 11 rfl rfl g5 rfl dX7_takesDown_131 (fun H locs hP hD hS => ?_)
          refine lv_aload_n hx hb dX7_takesDown_132 rfl (lv_at hl 1 rfl) ?_
          refine gf_X7_44 h0 hP 0 rfl rfl dX7_takesDown_133 ?_
          refine lv_aload_n hx hb dX7_takesDown_136 rfl (lv_at hl 1 rfl) ?_
          refine gf_X7_179 h0 hP 0 rfl rfl dX7_takesDown_137 ?_
          refine lv_iload hx hb dX7_takesDown_140 (lv_at hl 0 rfl) ?_
          refine lv_bipush (v := 100) hx hb dX7_takesDown_142 (by decide) ?_
          refine lv_irem hx hb dX7_takesDown_144 (by decide) ?_
          obtain ⟨g6, E⟩ := gd_e E
          refine asti (wo := (wX7 cI cZ a v_pins v_bars v_taped v_lined v_at v_fault v_name v_low v_high v_tape v_line v_imagePins v_imageBars v_imageName v_imageLow v_imageHigh v_isKept v_to v_carries v_seen v_rank (upd v_one v_thought.toNatClampNeg (t0 / 100)) (upd v_other v_thought.toNatClampNeg (t0 - t0 / 100 * 100)) v_thought v_gone v_tied v_part v_lack v_down v_parts v_lacks v_downs v_sort v_items v_item v_carried v_first v_second)) hx hb hK hP hD hS 12 rfl rfl g6 rfl dX7_takesDown_145 (fun H locs hP hD hS => ?_)
          refine lv_aload_n hx hb dX7_takesDown_146 rfl (lv_at hl 1 rfl) ?_
          refine lv_dup hx hb dX7_takesDown_147 rfl ?_
          refine gf_X7_179 h0 hP 0 rfl rfl dX7_takesDown_148 ?_
          refine lv_iconst (v := 1) hx hb dX7_takesDown_151 (by decide) ?_
          refine lv_iadd hx hb dX7_takesDown_152 ?_
          refine pf_X7_179 (wo := (wX7 cI cZ a v_pins v_bars v_taped v_lined v_at v_fault v_name v_low v_high v_tape v_line v_imagePins v_imageBars v_imageName v_imageLow v_imageHigh v_isKept v_to v_carries v_seen v_rank (upd v_one v_thought.toNatClampNeg (t0 / 100)) (upd v_other v_thought.toNatClampNeg (t0 - t0 / 100 * 100)) (v_thought + 1) v_gone v_tied v_part v_lack v_down v_parts v_lacks v_downs v_sort v_items v_item v_carried v_first v_second)) h0 hP hD hS 0 rfl (Nat.le_of_ble_eq_true rfl) rfl dX7_takesDown_153 (fun H locs hP hD hS => ?_)
          exact J156 _ _ _ _ _ _ _ _ _ _ _ _ _ _ _ E hP hD hS (lv_sub hl [1, 2, 3, 0] rfl)
      have J84 : ∀ (t0 : Int32) (v_to : Nat → Int32) (v_seen v_rank : Int32) (v_one v_other : Nat → Int32) (v_thought v_gone : Int32) (v_down : Nat → Int32) (v_downs : Int32) (H : Heap) (locs : List Loc) (ls : Array Slot), FX7_takesDown_b84 v_pins v_bars v_low v_high (FX7_takesDown_h58 v_pins v_bars v_low v_high  n58) t0 v_to v_seen v_rank v_one v_other v_thought v_gone v_down v_downs = some u → va_P D vwCl (wX7 cI cZ a v_pins v_bars v_taped v_lined v_at v_fault v_name v_low v_high v_tape v_line v_imagePins v_imageBars v_imageName v_imageLow v_imageHigh v_isKept v_to v_carries v_seen v_rank v_one v_other v_thought v_gone v_tied v_part v_lack v_down v_parts v_lacks v_downs v_sort v_items v_item v_carried v_first v_second) H → va_D A (wX7 cI cZ a v_pins v_bars v_taped v_lined v_at v_fault v_name v_low v_high v_tape v_line v_imagePins v_imageBars v_imageName v_imageLow v_imageHigh v_isKept v_to v_carries v_seen v_rank v_one v_other v_thought v_gone v_tied v_part v_lack v_down v_parts v_lacks v_downs v_sort v_items v_item v_carried v_first v_second) → va_S A s.heap H locs → lv_has ls 5 [(0, .ref (a 0))] → W p l e (uR 19 433) s m args below meth c H locs 0 0 Q (F0 m 84 ls [.int t0]) := by
        intro t0 v_to v_seen v_rank v_one v_other v_thought v_gone v_down v_downs H locs ls E hP hD hS hl
        refine lv_istore_n (lv' := [(1, .int t0), (0, .ref (a 0))]) hx hb dX7_takesDown_84 rfl hl (by decide) rfl (fun ls hl => ?_)
        refine lv_aload_n hx hb dX7_takesDown_85 rfl (lv_at hl 1 rfl) ?_
        refine lv_iload_n hx hb dX7_takesDown_86 rfl (lv_at hl 0 rfl) ?_
        obtain ⟨r7, hF, E⟩ := bn_e E
        refine callVfi (wo := (wX7 cI cZ a v_pins v_bars v_taped v_lined v_at v_fault v_name v_low v_high v_tape v_line v_imagePins v_imageBars v_imageName v_imageLow v_imageHigh v_isKept v_to v_carries v_seen v_rank v_one v_other v_thought v_gone v_tied v_part v_lack v_down v_parts v_lacks v_downs v_sort v_items v_item v_carried v_first v_second)) h0 (c_X7_firstOf l D cI cZ cS a v_pins v_bars v_taped v_lined v_at v_fault v_name v_low v_high v_tape v_line v_imagePins v_imageBars v_imageName v_imageLow v_imageHigh v_isKept v_to v_carries v_seen v_rank v_one v_other v_thought v_gone v_tied v_part v_lack v_down v_parts v_lacks v_downs v_sort v_items v_item v_carried v_first v_second t0 r7 hF) (gV wq_878 wq_880 wp_44 wq_8 wq_881) hdX7_firstOf ⟨Nat.le_of_ble_eq_true rfl, Nat.le_of_ble_eq_true rfl⟩ ⟨Nat.le_refl _, Nat.le_refl _⟩ hP hD hS hA 0 7 rfl rfl rfl hl.1 rfl (Nat.le_of_ble_eq_true rfl) dX7_takesDown_87 (fun H locs hP hD hS => ?_)
        refine lv_istore_n (lv' := [(2, .int r7), (1, .int t0), (0, .ref (a 0))]) hx hb dX7_takesDown_90 rfl hl (by decide) rfl (fun ls hl => ?_)
        refine lv_aload_n hx hb dX7_takesDown_91 rfl (lv_at hl 2 rfl) ?_
        refine lv_iload_n hx hb dX7_takesDown_92 rfl (lv_at hl 0 rfl) ?_
        obtain ⟨r8, hF, E⟩ := bn_e E
        refine callVfi (wo := (wX7 cI cZ a v_pins v_bars v_taped v_lined v_at v_fault v_name v_low v_high v_tape v_line v_imagePins v_imageBars v_imageName v_imageLow v_imageHigh v_isKept v_to v_carries v_seen v_rank r8.2.1 r8.2.2.1 r8.2.2.2.1 r8.2.2.2.2 v_tied v_part v_lack v_down v_parts v_lacks v_downs v_sort v_items v_item v_carried v_first v_second)) h0 (c_X7_goes l D cI cZ cS a v_pins v_bars v_taped v_lined v_at v_fault v_name v_low v_high v_tape v_line v_imagePins v_imageBars v_imageName v_imageLow v_imageHigh v_isKept v_to v_carries v_seen v_rank v_one v_other v_thought v_gone v_tied v_part v_lack v_down v_parts v_lacks v_downs v_sort v_items v_item v_carried v_first v_second r7 r8 hF) (gV wq_886 wq_888 wp_46 wq_8 wq_889) hdX7_goes ⟨Nat.le_of_ble_eq_true rfl, Nat.le_of_ble_eq_true rfl⟩ ⟨Nat.le_refl _, Nat.le_refl _⟩ hP hD hS hA 0 7 rfl rfl rfl hl.1 rfl (Nat.le_of_ble_eq_true rfl) dX7_takesDown_93 (fun H locs hP hD hS => ?_)
        refine lv_istore_n (lv' := [(3, .int r8.1), (2, .int r7), (1, .int t0), (0, .ref (a 0))]) hx hb dX7_takesDown_96 rfl hl (by decide) rfl (fun ls hl => ?_)
        refine lv_iload_n hx hb dX7_takesDown_97 rfl (lv_at hl 2 rfl) ?_
        refine lv_iconst (v := 3) hx hb dX7_takesDown_98 (by decide) ?_
        refine lv_icmp_ne (tgt := 110) hx hb dX7_takesDown_99 (by decide) (fun c9 => ?_) (fun c9 => ?_)
        · have E := br_n E c9
          refine lv_iconst (v := (-1)) hx hb dX7_takesDown_110 (by decide) ?_
          exact J111 _ _ _ _ _ _ _ _ _ _ _ _ _ _ _ E hP hD hS (lv_sub hl [3, 2, 1] rfl)
        · have E := br_p E c9
          refine lv_aload_n hx hb dX7_takesDown_102 rfl (lv_at hl 3 rfl) ?_
          refine lv_iload_n hx hb dX7_takesDown_103 rfl (lv_at hl 0 rfl) ?_
          obtain ⟨r10, hF, E⟩ := bn_e E
          refine callVfi (wo := (wX7 cI cZ a v_pins v_bars v_taped v_lined v_at v_fault v_name v_low v_high v_tape v_line v_imagePins v_imageBars v_imageName v_imageLow v_imageHigh v_isKept r10.2.1 v_carries r10.2.2.1 r10.2.2.2 r8.2.1 r8.2.2.1 r8.2.2.2.1 r8.2.2.2.2 v_tied v_part v_lack v_down v_parts v_lacks v_downs v_sort v_items v_item v_carried v_first v_second)) h0 (c_X7_pairIn l D cI cZ cS a v_pins v_bars v_taped v_lined v_at v_fault v_name v_low v_high v_tape v_line v_imagePins v_imageBars v_imageName v_imageLow v_imageHigh v_isKept v_to v_carries v_seen v_rank r8.2.1 r8.2.2.1 r8.2.2.2.1 r8.2.2.2.2 v_tied v_part v_lack v_down v_parts v_lacks v_downs v_sort v_items v_item v_carried v_first v_second r8.1 r10 hF) (gV wq_890 wq_892 wp_47 wq_8 wq_893) hdX7_pairIn ⟨Nat.le_of_ble_eq_true rfl, Nat.le_of_ble_eq_true rfl⟩ ⟨Nat.le_refl _, Nat.le_refl _⟩ hP hD hS hA 0 7 rfl rfl rfl hl.1 rfl (Nat.le_of_ble_eq_true rfl) dX7_takesDown_104 (fun H locs hP hD hS => ?_)
          refine lv_goto (tgt := 111) hx hb dX7_takesDown_107 (by decide) ?_
          exact J111 _ _ _ _ _ _ _ _ _ _ _ _ _ _ _ E hP hD hS (lv_sub hl [3, 2, 1] rfl)
      refine lv_aload_n hx hb dX7_takesDown_58 rfl (lv_at hl 0 rfl) ?_
      refine gf_X7_71 h0 hP 0 rfl rfl dX7_takesDown_59 ?_
      refine lv_aload_n hx hb dX7_takesDown_62 rfl (lv_at hl 0 rfl) ?_
      refine gf_X7_194 h0 hP 0 rfl rfl dX7_takesDown_63 ?_
      refine lv_isub hx hb dX7_takesDown_66 ?_
      refine lv_iconst (v := 2) hx hb dX7_takesDown_67 (by decide) ?_
      refine lv_icmp_le (tgt := 210) hx hb dX7_takesDown_68 (by decide) (fun c11 => ?_) (fun c11 => ?_)
      · have E := br_p E c11
        exact hfin _ (Option.some.inj E) _ _ _ _ hP hD hS dX7_takesDown_210
      · have E := br_n E c11
        refine lv_aload_n hx hb dX7_takesDown_71 rfl (lv_at hl 0 rfl) ?_
        refine lv_iconst (v := 2) hx hb dX7_takesDown_72 (by decide) ?_
        obtain ⟨r12, hF, E⟩ := bn_e E
        refine callVfi (wo := (wX7 cI cZ a v_pins v_bars v_taped v_lined v_at v_fault v_name v_low v_high v_tape v_line v_imagePins v_imageBars v_imageName v_imageLow v_imageHigh v_isKept v_to v_carries v_seen v_rank v_one v_other v_thought v_gone v_tied v_part v_lack v_down v_parts v_lacks v_downs v_sort v_items v_item v_carried v_first v_second)) h0 (c_X7_firstOf l D cI cZ cS a v_pins v_bars v_taped v_lined v_at v_fault v_name v_low v_high v_tape v_line v_imagePins v_imageBars v_imageName v_imageLow v_imageHigh v_isKept v_to v_carries v_seen v_rank v_one v_other v_thought v_gone v_tied v_part v_lack v_down v_parts v_lacks v_downs v_sort v_items v_item v_carried v_first v_second 2 r12 hF) (gV wq_878 wq_880 wp_44 wq_8 wq_881) hdX7_firstOf ⟨Nat.le_of_ble_eq_true rfl, Nat.le_of_ble_eq_true rfl⟩ ⟨Nat.le_refl _, Nat.le_refl _⟩ hP hD hS hA 0 7 rfl rfl rfl hl.1 rfl (Nat.le_of_ble_eq_true rfl) dX7_takesDown_73 (fun H locs hP hD hS => ?_)
        refine lv_if_lt (tgt := 83) hx hb dX7_takesDown_76 (by decide) (fun c13 => ?_) (fun c13 => ?_)
        · have E := br_p E c13
          refine lv_iconst (v := 3) hx hb dX7_takesDown_83 (by decide) ?_
          exact J84 _ _ _ _ _ _ _ _ _ _ _ _ _ E hP hD hS (lv_sub hl [0] rfl)
        · have E := br_n E c13
          refine lv_iconst (v := 2) hx hb dX7_takesDown_79 (by decide) ?_
          refine lv_goto (tgt := 84) hx hb dX7_takesDown_80 (by decide) ?_
          exact J84 _ _ _ _ _ _ _ _ _ _ _ _ _ E hP hD hS (lv_sub hl [0] rfl)
  have J20 : ∀ (n20 : Nat) (l1 : Int32) (v_to : Nat → Int32) (v_seen v_rank : Int32) (v_one v_other : Nat → Int32) (v_thought v_gone : Int32) (v_down : Nat → Int32) (v_downs : Int32) (H : Heap) (locs : List Loc) (ls : Array Slot), FX7_takesDown_h20 v_pins v_bars v_low v_high  n20 l1 v_to v_seen v_rank v_one v_other v_thought v_gone v_down v_downs = some u → va_P D vwCl (wX7 cI cZ a v_pins v_bars v_taped v_lined v_at v_fault v_name v_low v_high v_tape v_line v_imagePins v_imageBars v_imageName v_imageLow v_imageHigh v_isKept v_to v_carries v_seen v_rank v_one v_other v_thought v_gone v_tied v_part v_lack v_down v_parts v_lacks v_downs v_sort v_items v_item v_carried v_first v_second) H → va_D A (wX7 cI cZ a v_pins v_bars v_taped v_lined v_at v_fault v_name v_low v_high v_tape v_line v_imagePins v_imageBars v_imageName v_imageLow v_imageHigh v_isKept v_to v_carries v_seen v_rank v_one v_other v_thought v_gone v_tied v_part v_lack v_down v_parts v_lacks v_downs v_sort v_items v_item v_carried v_first v_second) → va_S A s.heap H locs → lv_has ls 5 [(0, .ref (a 0)), (1, .int l1)] → W p l e (uR 19 433) s m args below meth c H locs 0 0 Q (F0 m 20 ls []) := by
    intro n20
    induction n20 with
    | zero => intro l1 v_to v_seen v_rank v_one v_other v_thought v_gone v_down v_downs H locs ls E; exact none_e E
    | succ n20 ih20 =>
      intro l1 v_to v_seen v_rank v_one v_other v_thought v_gone v_down v_downs H locs ls E hP hD hS hl
      have E : FX7_takesDown_b20 v_pins v_bars v_low v_high  (FX7_takesDown_h20 v_pins v_bars v_low v_high  n20) l1 v_to v_seen v_rank v_one v_other v_thought v_gone v_down v_downs = some u := E
      refine lv_iload_n hx hb dX7_takesDown_20 rfl (lv_at hl 1 rfl) ?_
      refine lv_aload_n hx hb dX7_takesDown_21 rfl (lv_at hl 0 rfl) ?_
      refine gf_X7_106 h0 hP 0 rfl rfl dX7_takesDown_22 ?_
      refine lv_icmp_ge (tgt := 58) hx hb dX7_takesDown_25 (by decide) (fun c14 => ?_) (fun c14 => ?_)
      · have E := br_p E c14
        exact J58 5000 _ _ _ _ _ _ _ _ _ _ _ _ E hP hD hS (lv_sub hl [0] rfl)
      · have E := br_n E c14
        refine lv_aload_n hx hb dX7_takesDown_28 rfl (lv_at hl 0 rfl) ?_
        refine gf_X7_41 h0 hP 0 rfl rfl dX7_takesDown_29 ?_
        refine lv_iload_n hx hb dX7_takesDown_32 rfl (lv_at hl 1 rfl) ?_
        refine lv_aload_n hx hb dX7_takesDown_33 rfl (lv_at hl 0 rfl) ?_
        refine gf_X7_13 h0 hP 0 rfl rfl dX7_takesDown_34 ?_
        refine lv_iload_n hx hb dX7_takesDown_37 rfl (lv_at hl 1 rfl) ?_
        obtain ⟨g15, E⟩ := gd_e E
        refine aldi hx hb hK hP 2 rfl rfl g15 dX7_takesDown_38 ?_
        obtain ⟨g16, E⟩ := gd_e E
        refine asti (wo := (wX7 cI cZ a v_pins v_bars v_taped v_lined v_at v_fault v_name v_low v_high v_tape v_line v_imagePins v_imageBars v_imageName v_imageLow v_imageHigh v_isKept v_to v_carries v_seen v_rank (upd v_one l1.toNatClampNeg (v_low l1.toNatClampNeg)) v_other v_thought v_gone v_tied v_part v_lack v_down v_parts v_lacks v_downs v_sort v_items v_item v_carried v_first v_second)) hx hb hK hP hD hS 11 rfl rfl g16 rfl dX7_takesDown_39 (fun H locs hP hD hS => ?_)
        refine lv_aload_n hx hb dX7_takesDown_40 rfl (lv_at hl 0 rfl) ?_
        refine gf_X7_44 h0 hP 0 rfl rfl dX7_takesDown_41 ?_
        refine lv_iload_n hx hb dX7_takesDown_44 rfl (lv_at hl 1 rfl) ?_
        refine lv_aload_n hx hb dX7_takesDown_45 rfl (lv_at hl 0 rfl) ?_
        refine gf_X7_16 h0 hP 0 rfl rfl dX7_takesDown_46 ?_
        refine lv_iload_n hx hb dX7_takesDown_49 rfl (lv_at hl 1 rfl) ?_
        obtain ⟨g17, E⟩ := gd_e E
        refine aldi hx hb hK hP 3 rfl rfl g17 dX7_takesDown_50 ?_
        obtain ⟨g18, E⟩ := gd_e E
        refine asti (wo := (wX7 cI cZ a v_pins v_bars v_taped v_lined v_at v_fault v_name v_low v_high v_tape v_line v_imagePins v_imageBars v_imageName v_imageLow v_imageHigh v_isKept v_to v_carries v_seen v_rank (upd v_one l1.toNatClampNeg (v_low l1.toNatClampNeg)) (upd v_other l1.toNatClampNeg (v_high l1.toNatClampNeg)) v_thought v_gone v_tied v_part v_lack v_down v_parts v_lacks v_downs v_sort v_items v_item v_carried v_first v_second)) hx hb hK hP hD hS 12 rfl rfl g18 rfl dX7_takesDown_51 (fun H locs hP hD hS => ?_)
        refine lv_iinc (v := (l1 + 1)) (lv' := [(1, .int (l1 + 1)), (0, .ref (a 0))]) hx hb dX7_takesDown_52 hl (k := 1) rfl rfl (by decide) rfl (fun ls hl => ?_)
        refine lv_goto (tgt := 20) hx hb dX7_takesDown_55 (by decide) ?_
        exact ih20 _ _ _ _ _ _ _ _ _ _ _ _ _ E hP hD hS (lv_sub hl [1, 0] rfl)
  refine lv_aload_n hx hb dX7_takesDown_0 rfl (lv_at hl 0 rfl) ?_
  refine lv_aload_n hx hb dX7_takesDown_1 rfl (lv_at hl 0 rfl) ?_
  refine gf_X7_106 h0 hP 0 rfl rfl dX7_takesDown_2 ?_
  refine pf_X7_179 (wo := (wX7 cI cZ a v_pins v_bars v_taped v_lined v_at v_fault v_name v_low v_high v_tape v_line v_imagePins v_imageBars v_imageName v_imageLow v_imageHigh v_isKept v_to v_carries v_seen v_rank v_one v_other v_bars v_gone v_tied v_part v_lack v_down v_parts v_lacks v_downs v_sort v_items v_item v_carried v_first v_second)) h0 hP hD hS 0 rfl (Nat.le_of_ble_eq_true rfl) rfl dX7_takesDown_5 (fun H locs hP hD hS => ?_)
  refine lv_aload_n hx hb dX7_takesDown_8 rfl (lv_at hl 0 rfl) ?_
  refine lv_iconst (v := 0) hx hb dX7_takesDown_9 (by decide) ?_
  refine pf_X7_182 (wo := (wX7 cI cZ a v_pins v_bars v_taped v_lined v_at v_fault v_name v_low v_high v_tape v_line v_imagePins v_imageBars v_imageName v_imageLow v_imageHigh v_isKept v_to v_carries v_seen v_rank v_one v_other v_bars 0 v_tied v_part v_lack v_down v_parts v_lacks v_downs v_sort v_items v_item v_carried v_first v_second)) h0 hP hD hS 0 rfl (Nat.le_of_ble_eq_true rfl) rfl dX7_takesDown_10 (fun H locs hP hD hS => ?_)
  refine lv_aload_n hx hb dX7_takesDown_13 rfl (lv_at hl 0 rfl) ?_
  refine lv_iconst (v := 0) hx hb dX7_takesDown_14 (by decide) ?_
  refine pf_X7_194 (wo := (wX7 cI cZ a v_pins v_bars v_taped v_lined v_at v_fault v_name v_low v_high v_tape v_line v_imagePins v_imageBars v_imageName v_imageLow v_imageHigh v_isKept v_to v_carries v_seen v_rank v_one v_other v_bars 0 v_tied v_part v_lack v_down v_parts v_lacks 0 v_sort v_items v_item v_carried v_first v_second)) h0 hP hD hS 0 rfl (Nat.le_of_ble_eq_true rfl) rfl dX7_takesDown_15 (fun H locs hP hD hS => ?_)
  refine lv_iconst (v := 0) hx hb dX7_takesDown_18 (by decide) ?_
  refine lv_istore_n (lv' := [(1, .int 0), (0, .ref (a 0))]) hx hb dX7_takesDown_19 rfl hl (by decide) rfl (fun ls hl => ?_)
  exact J20 5000 _ _ _ _ _ _ _ _ _ _ _ _ _ E hP hD hS (lv_sub hl [1, 0] rfl)
theorem hdX7_down : yX7_down.cls = RX7 ∧ yX7_down.cls ≠ "java/lang/invoke/MethodHandle" ∧ yX7_down.cls ≠ "java/lang/invoke/VarHandle" ∧ (parseMethodDescriptor yX7_down.desc).map (fun d => d.parameters.length) = some 2 := by decide +kernel
noncomputable def FX7_down (p1 p2 : Int32) (v_pins v_bars : Int32) (v_low v_high v_to : Nat → Int32) (v_seen v_rank : Int32) (v_one v_other : Nat → Int32) (v_thought v_gone : Int32) (v_down : Nat → Int32) (v_downs : Int32) : Option (Int32 × (Nat → Int32) × Int32 × Int32 × (Nat → Int32) × (Nat → Int32) × Int32 × Int32 × (Nat → Int32) × Int32) := ((FX7_isIn p2 0 2).bind (fun r1 => (if r1 = 0 then (some ((-2), v_to, v_seen, v_rank, v_one, v_other, v_thought, v_gone, v_down, v_downs)) else ((FX7_isStiff v_pins v_bars v_low v_high v_to v_seen v_rank).bind (fun r3 => (if r3.1 = 0 then (some ((-3), r3.2.1, r3.2.2.1, r3.2.2.2, v_one, v_other, v_thought, v_gone, v_down, v_downs)) else ((FX7_extras v_bars v_low v_high r3.2.1 r3.2.2.1 r3.2.2.2).bind (fun r5 => (if r5.1 ≤ 0 then ((FX7_takesDown v_pins v_bars v_low v_high r5.2.1 r5.2.2.1 r5.2.2.2 v_one v_other v_thought v_gone v_down v_downs).bind (fun r7 => ((FX7_isIn p1 0 (r7.2.2.2.2.2.2.2.2 - 1)).bind (fun r8 => (if r8 = 0 then (some ((-12), r7.1, r7.2.1, r7.2.2.1, r7.2.2.2.1, r7.2.2.2.2.1, r7.2.2.2.2.2.1, r7.2.2.2.2.2.2.1, r7.2.2.2.2.2.2.2.1, r7.2.2.2.2.2.2.2.2)) else (gd (vp_in ((3 * p1) + p2) 36) (some ((r7.2.2.2.2.2.2.2.1 ((3 * p1) + p2).toNatClampNeg), r7.1, r7.2.1, r7.2.2.1, r7.2.2.2.1, r7.2.2.2.2.1, r7.2.2.2.2.2.1, r7.2.2.2.2.2.2.1, r7.2.2.2.2.2.2.2.1, r7.2.2.2.2.2.2.2.2)))))))) else (some ((-3), r5.2.1, r5.2.2.1, r5.2.2.2, v_one, v_other, v_thought, v_gone, v_down, v_downs)))))))))))
set_option maxHeartbeats 4000000 in
set_option maxRecDepth 100000 in
theorem c_X7_down (l : Launch) (D : va_G) (cI cZ cS : ClassId) (a : Nat → Nat) (v_pins v_bars v_taped v_lined v_at v_fault : Int32) (v_name v_low v_high v_tape v_line : Nat → Int32) (v_imagePins v_imageBars : Int32) (v_imageName v_imageLow v_imageHigh : Nat → Int32) (v_isKept : Int32) (v_to v_carries : Nat → Int32) (v_seen v_rank : Int32) (v_one v_other : Nat → Int32) (v_thought v_gone : Int32) (v_tied v_part v_lack v_down : Nat → Int32) (v_parts v_lacks v_downs : Int32) (v_sort v_items v_item v_carried : Nat → Int32) (v_first v_second : Int32) (p1 p2 : Int32) (u : Int32 × (Nat → Int32) × Int32 × Int32 × (Nat → Int32) × (Nat → Int32) × Int32 × Int32 × (Nat → Int32) × Int32) (hF : FX7_down p1 p2 v_pins v_bars v_low v_high v_to v_seen v_rank v_one v_other v_thought v_gone v_down v_downs = some u) : MCi l D (tyL cI cZ cS) yX7_down cX7_down 3 (some .int) 20 457 [.ref (a 0), .int p1, .int p2] (wX7 cI cZ a v_pins v_bars v_taped v_lined v_at v_fault v_name v_low v_high v_tape v_line v_imagePins v_imageBars v_imageName v_imageLow v_imageHigh v_isKept v_to v_carries v_seen v_rank v_one v_other v_thought v_gone v_tied v_part v_lack v_down v_parts v_lacks v_downs v_sort v_items v_item v_carried v_first v_second) (wX7 cI cZ a v_pins v_bars v_taped v_lined v_at v_fault v_name v_low v_high v_tape v_line v_imagePins v_imageBars v_imageName v_imageLow v_imageHigh v_isKept u.2.1 v_carries u.2.2.1 u.2.2.2.1 u.2.2.2.2.1 u.2.2.2.2.2.1 u.2.2.2.2.2.2.1 u.2.2.2.2.2.2.2.1 v_tied v_part v_lack u.2.2.2.2.2.2.2.2.1 v_parts v_lacks u.2.2.2.2.2.2.2.2.2 v_sort v_items v_item v_carried v_first v_second) u.1 := by
  refine MCi.mk (by decide) (Nat.le_of_ble_eq_true rfl) ?_
  intro p e s m args below meth c A ls Q h0 hP hD hA hS hl hfin0
  have hfin : ∀ (u' : Int32 × (Nat → Int32) × Int32 × Int32 × (Nat → Int32) × (Nat → Int32) × Int32 × Int32 × (Nat → Int32) × Int32), u' = u → ∀ (H : Heap) (locs : List Loc) (ls : Array Slot) (pc : Nat), va_P D vwCl (wX7 cI cZ a v_pins v_bars v_taped v_lined v_at v_fault v_name v_low v_high v_tape v_line v_imagePins v_imageBars v_imageName v_imageLow v_imageHigh v_isKept u'.2.1 v_carries u'.2.2.1 u'.2.2.2.1 u'.2.2.2.2.1 u'.2.2.2.2.2.1 u'.2.2.2.2.2.2.1 u'.2.2.2.2.2.2.2.1 v_tied v_part v_lack u'.2.2.2.2.2.2.2.2.1 v_parts v_lacks u'.2.2.2.2.2.2.2.2.2 v_sort v_items v_item v_carried v_first v_second) H → va_D A (wX7 cI cZ a v_pins v_bars v_taped v_lined v_at v_fault v_name v_low v_high v_tape v_line v_imagePins v_imageBars v_imageName v_imageLow v_imageHigh v_isKept u'.2.1 v_carries u'.2.2.1 u'.2.2.2.1 u'.2.2.2.2.1 u'.2.2.2.2.2.1 u'.2.2.2.2.2.2.1 u'.2.2.2.2.2.2.2.1 v_tied v_part v_lack u'.2.2.2.2.2.2.2.2.1 v_parts v_lacks u'.2.2.2.2.2.2.2.2.2 v_sort v_items v_item v_carried v_first v_second) → va_S A s.heap H locs → decode cX7_down pc = .ok (.ireturn, 1) → W p l e (uR 20 457) s m args below meth c H locs 0 0 Q (F0 m pc ls [.int u'.1]) := by intro u' hu; subst hu; exact hfin0
  clear hfin0
  obtain ⟨hx, hb, hr, hlk, hml, hown, hts, hK⟩ := id h0
  have hl : lv_has ls 3 [(0, .ref (a 0)), (1, .int p1), (2, .int p2)] := hl
  have E := hF
  refine lv_iload_n hx hb dX7_down_0 rfl (lv_at hl 2 rfl) ?_
  refine lv_iconst (v := 0) hx hb dX7_down_1 (by decide) ?_
  refine lv_iconst (v := 2) hx hb dX7_down_2 (by decide) ?_
  obtain ⟨r1, hF, E⟩ := bn_e E
  refine callSi (wo := (wX7 cI cZ a v_pins v_bars v_taped v_lined v_at v_fault v_name v_low v_high v_tape v_line v_imagePins v_imageBars v_imageName v_imageLow v_imageHigh v_isKept v_to v_carries v_seen v_rank v_one v_other v_thought v_gone v_tied v_part v_lack v_down v_parts v_lacks v_downs v_sort v_items v_item v_carried v_first v_second)) h0 (c_X7_isIn l D cI cZ cS p2 0 2 r1 hF) (gS wq_734 wq_735 wq_8 wq_736) hdX7_isIn ⟨Nat.le_of_ble_eq_true rfl, Nat.le_of_ble_eq_true rfl⟩ ⟨Nat.le_refl _, Nat.le_refl _⟩ hP hD hS hA [] rfl rfl rfl rfl hl.1 rfl (Nat.le_of_ble_eq_true rfl) dX7_down_3 (fun H locs hP hD hS => ?_)
  refine lv_if_ne (tgt := 12) hx hb dX7_down_6 (by decide) (fun c2 => ?_) (fun c2 => ?_)
  · have E := br_n E c2
    refine lv_aload_n hx hb dX7_down_12 rfl (lv_at hl 0 rfl) ?_
    obtain ⟨r3, hF, E⟩ := bn_e E
    refine callVfi (wo := (wX7 cI cZ a v_pins v_bars v_taped v_lined v_at v_fault v_name v_low v_high v_tape v_line v_imagePins v_imageBars v_imageName v_imageLow v_imageHigh v_isKept r3.2.1 v_carries r3.2.2.1 r3.2.2.2 v_one v_other v_thought v_gone v_tied v_part v_lack v_down v_parts v_lacks v_downs v_sort v_items v_item v_carried v_first v_second)) h0 (c_X7_isStiff l D cI cZ cS a v_pins v_bars v_taped v_lined v_at v_fault v_name v_low v_high v_tape v_line v_imagePins v_imageBars v_imageName v_imageLow v_imageHigh v_isKept v_to v_carries v_seen v_rank v_one v_other v_thought v_gone v_tied v_part v_lack v_down v_parts v_lacks v_downs v_sort v_items v_item v_carried v_first v_second r3 hF) (gV wq_807 wq_809 wp_35 wq_8 wq_810) hdX7_isStiff ⟨Nat.le_of_ble_eq_true rfl, Nat.le_of_ble_eq_true rfl⟩ ⟨Nat.le_refl _, Nat.le_refl _⟩ hP hD hS hA 0 7 rfl rfl rfl hl.1 rfl (Nat.le_of_ble_eq_true rfl) dX7_down_13 (fun H locs hP hD hS => ?_)
    refine lv_if_eq (tgt := 26) hx hb dX7_down_16 (by decide) (fun c4 => ?_) (fun c4 => ?_)
    · have E := br_p E c4
      refine lv_bipush (v := (-3)) hx hb dX7_down_26 (by decide) ?_
      exact hfin _ (Option.some.inj E) _ _ _ _ hP hD hS dX7_down_28
    · have E := br_n E c4
      refine lv_aload_n hx hb dX7_down_19 rfl (lv_at hl 0 rfl) ?_
      obtain ⟨r5, hF, E⟩ := bn_e E
      refine callVfi (wo := (wX7 cI cZ a v_pins v_bars v_taped v_lined v_at v_fault v_name v_low v_high v_tape v_line v_imagePins v_imageBars v_imageName v_imageLow v_imageHigh v_isKept r5.2.1 v_carries r5.2.2.1 r5.2.2.2 v_one v_other v_thought v_gone v_tied v_part v_lack v_down v_parts v_lacks v_downs v_sort v_items v_item v_carried v_first v_second)) h0 (c_X7_extras l D cI cZ cS a v_pins v_bars v_taped v_lined v_at v_fault v_name v_low v_high v_tape v_line v_imagePins v_imageBars v_imageName v_imageLow v_imageHigh v_isKept r3.2.1 v_carries r3.2.2.1 r3.2.2.2 v_one v_other v_thought v_gone v_tied v_part v_lack v_down v_parts v_lacks v_downs v_sort v_items v_item v_carried v_first v_second r5 hF) (gV wq_811 wq_813 wp_36 wq_8 wq_814) hdX7_extras ⟨Nat.le_of_ble_eq_true rfl, Nat.le_of_ble_eq_true rfl⟩ ⟨Nat.le_refl _, Nat.le_refl _⟩ hP hD hS hA 0 7 rfl rfl rfl hl.1 rfl (Nat.le_of_ble_eq_true rfl) dX7_down_20 (fun H locs hP hD hS => ?_)
      refine lv_if_le (tgt := 29) hx hb dX7_down_23 (by decide) (fun c6 => ?_) (fun c6 => ?_)
      · have E := br_p E c6
        refine lv_aload_n hx hb dX7_down_29 rfl (lv_at hl 0 rfl) ?_
        obtain ⟨r7, hF, E⟩ := bn_e E
        refine callVfv (wo := (wX7 cI cZ a v_pins v_bars v_taped v_lined v_at v_fault v_name v_low v_high v_tape v_line v_imagePins v_imageBars v_imageName v_imageLow v_imageHigh v_isKept r7.1 v_carries r7.2.1 r7.2.2.1 r7.2.2.2.1 r7.2.2.2.2.1 r7.2.2.2.2.2.1 r7.2.2.2.2.2.2.1 v_tied v_part v_lack r7.2.2.2.2.2.2.2.1 v_parts v_lacks r7.2.2.2.2.2.2.2.2 v_sort v_items v_item v_carried v_first v_second)) h0 (c_X7_takesDown l D cI cZ cS a v_pins v_bars v_taped v_lined v_at v_fault v_name v_low v_high v_tape v_line v_imagePins v_imageBars v_imageName v_imageLow v_imageHigh v_isKept r5.2.1 v_carries r5.2.2.1 r5.2.2.2 v_one v_other v_thought v_gone v_tied v_part v_lack v_down v_parts v_lacks v_downs v_sort v_items v_item v_carried v_first v_second r7 hF) (gV wq_874 wq_876 wp_43 wq_8 wq_877) hdX7_takesDown ⟨Nat.le_of_ble_eq_true rfl, Nat.le_of_ble_eq_true rfl⟩ ⟨Nat.le_refl _, Nat.le_refl _⟩ hP hD hS hA 0 7 rfl rfl rfl hl.1 rfl (Nat.le_of_ble_eq_true rfl) dX7_down_30 (fun H locs hP hD hS => ?_)
        refine lv_iload_n hx hb dX7_down_33 rfl (lv_at hl 1 rfl) ?_
        refine lv_iconst (v := 0) hx hb dX7_down_34 (by decide) ?_
        refine lv_aload_n hx hb dX7_down_35 rfl (lv_at hl 0 rfl) ?_
        refine gf_X7_194 h0 hP 0 rfl rfl dX7_down_36 ?_
        refine lv_iconst (v := 1) hx hb dX7_down_39 (by decide) ?_
        refine lv_isub hx hb dX7_down_40 ?_
        obtain ⟨r8, hF, E⟩ := bn_e E
        refine callSi (wo := (wX7 cI cZ a v_pins v_bars v_taped v_lined v_at v_fault v_name v_low v_high v_tape v_line v_imagePins v_imageBars v_imageName v_imageLow v_imageHigh v_isKept r7.1 v_carries r7.2.1 r7.2.2.1 r7.2.2.2.1 r7.2.2.2.2.1 r7.2.2.2.2.2.1 r7.2.2.2.2.2.2.1 v_tied v_part v_lack r7.2.2.2.2.2.2.2.1 v_parts v_lacks r7.2.2.2.2.2.2.2.2 v_sort v_items v_item v_carried v_first v_second)) h0 (c_X7_isIn l D cI cZ cS p1 0 (r7.2.2.2.2.2.2.2.2 - 1) r8 hF) (gS wq_734 wq_735 wq_8 wq_736) hdX7_isIn ⟨Nat.le_of_ble_eq_true rfl, Nat.le_of_ble_eq_true rfl⟩ ⟨Nat.le_refl _, Nat.le_refl _⟩ hP hD hS hA [] rfl rfl rfl rfl hl.1 rfl (Nat.le_of_ble_eq_true rfl) dX7_down_41 (fun H locs hP hD hS => ?_)
        refine lv_if_eq (tgt := 60) hx hb dX7_down_44 (by decide) (fun c9 => ?_) (fun c9 => ?_)
        · have E := br_p E c9
          refine lv_bipush (v := (-12)) hx hb dX7_down_60 (by decide) ?_
          exact hfin _ (Option.some.inj E) _ _ _ _ hP hD hS dX7_down_62
        · have E := br_n E c9
          refine lv_aload_n hx hb dX7_down_47 rfl (lv_at hl 0 rfl) ?_
          refine gf_X7_56 h0 hP 0 rfl rfl dX7_down_48 ?_
          refine lv_iconst (v := 3) hx hb dX7_down_51 (by decide) ?_
          refine lv_iload_n hx hb dX7_down_52 rfl (lv_at hl 1 rfl) ?_
          refine lv_imul hx hb dX7_down_53 ?_
          refine lv_iload_n hx hb dX7_down_54 rfl (lv_at hl 2 rfl) ?_
          refine lv_iadd hx hb dX7_down_55 ?_
          obtain ⟨g10, E⟩ := gd_e E
          refine aldi hx hb hK hP 16 rfl rfl g10 dX7_down_56 ?_
          refine lv_goto (tgt := 62) hx hb dX7_down_57 (by decide) ?_
          exact hfin _ (Option.some.inj E) _ _ _ _ hP hD hS dX7_down_62
      · have E := br_n E c6
        refine lv_bipush (v := (-3)) hx hb dX7_down_26 (by decide) ?_
        exact hfin _ (Option.some.inj E) _ _ _ _ hP hD hS dX7_down_28
  · have E := br_p E c2
    refine lv_bipush (v := (-2)) hx hb dX7_down_9 (by decide) ?_
    exact hfin _ (Option.some.inj E) _ _ _ _ hP hD hS dX7_down_11
theorem hdX7_puts : yX7_puts.cls = RX7 ∧ yX7_puts.cls ≠ "java/lang/invoke/MethodHandle" ∧ yX7_puts.cls ≠ "java/lang/invoke/VarHandle" ∧ (parseMethodDescriptor yX7_puts.desc).map (fun d => d.parameters.length) = some 1 := by decide +kernel
noncomputable def FX7_puts (p1 : Int32) (v_lined : Int32) (v_line : Nat → Int32) : Option (Int32 × (Nat → Int32)) := (gd (vp_in v_lined 240) (some ((v_lined + 1), (upd v_line v_lined.toNatClampNeg p1))))
set_option maxHeartbeats 4000000 in
set_option maxRecDepth 100000 in
theorem c_X7_puts (l : Launch) (D : va_G) (cI cZ cS : ClassId) (a : Nat → Nat) (v_pins v_bars v_taped v_lined v_at v_fault : Int32) (v_name v_low v_high v_tape v_line : Nat → Int32) (v_imagePins v_imageBars : Int32) (v_imageName v_imageLow v_imageHigh : Nat → Int32) (v_isKept : Int32) (v_to v_carries : Nat → Int32) (v_seen v_rank : Int32) (v_one v_other : Nat → Int32) (v_thought v_gone : Int32) (v_tied v_part v_lack v_down : Nat → Int32) (v_parts v_lacks v_downs : Int32) (v_sort v_items v_item v_carried : Nat → Int32) (v_first v_second : Int32) (p1 : Int32) (u : Int32 × (Nat → Int32)) (hF : FX7_puts p1 v_lined v_line = some u) : MCv l D (tyL cI cZ cS) yX7_puts cX7_puts 2 none 0 0 [.ref (a 0), .int p1] (wX7 cI cZ a v_pins v_bars v_taped v_lined v_at v_fault v_name v_low v_high v_tape v_line v_imagePins v_imageBars v_imageName v_imageLow v_imageHigh v_isKept v_to v_carries v_seen v_rank v_one v_other v_thought v_gone v_tied v_part v_lack v_down v_parts v_lacks v_downs v_sort v_items v_item v_carried v_first v_second) (wX7 cI cZ a v_pins v_bars v_taped u.1 v_at v_fault v_name v_low v_high v_tape u.2 v_imagePins v_imageBars v_imageName v_imageLow v_imageHigh v_isKept v_to v_carries v_seen v_rank v_one v_other v_thought v_gone v_tied v_part v_lack v_down v_parts v_lacks v_downs v_sort v_items v_item v_carried v_first v_second) := by
  refine MCv.mk (by decide) (Nat.le_of_ble_eq_true rfl) ?_
  intro p e s m args below meth c A ls Q h0 hP hD hA hS hl hfin0
  have hfin : ∀ (u' : Int32 × (Nat → Int32)), u' = u → ∀ (H : Heap) (locs : List Loc) (ls : Array Slot) (pc : Nat), va_P D vwCl (wX7 cI cZ a v_pins v_bars v_taped u'.1 v_at v_fault v_name v_low v_high v_tape u'.2 v_imagePins v_imageBars v_imageName v_imageLow v_imageHigh v_isKept v_to v_carries v_seen v_rank v_one v_other v_thought v_gone v_tied v_part v_lack v_down v_parts v_lacks v_downs v_sort v_items v_item v_carried v_first v_second) H → va_D A (wX7 cI cZ a v_pins v_bars v_taped u'.1 v_at v_fault v_name v_low v_high v_tape u'.2 v_imagePins v_imageBars v_imageName v_imageLow v_imageHigh v_isKept v_to v_carries v_seen v_rank v_one v_other v_thought v_gone v_tied v_part v_lack v_down v_parts v_lacks v_downs v_sort v_items v_item v_carried v_first v_second) → va_S A s.heap H locs → decode cX7_puts pc = .ok (.return_, 1) → W p l e (uR 0 0) s m args below meth c H locs 0 0 Q (F0 m pc ls []) := by intro u' hu; subst hu; exact hfin0
  clear hfin0
  obtain ⟨hx, hb, hr, hlk, hml, hown, hts, hK⟩ := id h0
  have hl : lv_has ls 2 [(0, .ref (a 0)), (1, .int p1)] := hl
  have E := hF
  refine lv_aload_n hx hb dX7_puts_0 rfl (lv_at hl 0 rfl) ?_
  refine gf_X7_22 h0 hP 0 rfl rfl dX7_puts_1 ?_
  refine lv_aload_n hx hb dX7_puts_4 rfl (lv_at hl 0 rfl) ?_
  refine gf_X7_209 h0 hP 0 rfl rfl dX7_puts_5 ?_
  refine lv_iload_n hx hb dX7_puts_8 rfl (lv_at hl 1 rfl) ?_
  obtain ⟨g1, E⟩ := gd_e E
  refine asti (wo := (wX7 cI cZ a v_pins v_bars v_taped v_lined v_at v_fault v_name v_low v_high v_tape (upd v_line v_lined.toNatClampNeg p1) v_imagePins v_imageBars v_imageName v_imageLow v_imageHigh v_isKept v_to v_carries v_seen v_rank v_one v_other v_thought v_gone v_tied v_part v_lack v_down v_parts v_lacks v_downs v_sort v_items v_item v_carried v_first v_second)) hx hb hK hP hD hS 5 rfl rfl g1 rfl dX7_puts_9 (fun H locs hP hD hS => ?_)
  refine lv_aload_n hx hb dX7_puts_10 rfl (lv_at hl 0 rfl) ?_
  refine lv_dup hx hb dX7_puts_11 rfl ?_
  refine gf_X7_209 h0 hP 0 rfl rfl dX7_puts_12 ?_
  refine lv_iconst (v := 1) hx hb dX7_puts_15 (by decide) ?_
  refine lv_iadd hx hb dX7_puts_16 ?_
  refine pf_X7_209 (wo := (wX7 cI cZ a v_pins v_bars v_taped (v_lined + 1) v_at v_fault v_name v_low v_high v_tape (upd v_line v_lined.toNatClampNeg p1) v_imagePins v_imageBars v_imageName v_imageLow v_imageHigh v_isKept v_to v_carries v_seen v_rank v_one v_other v_thought v_gone v_tied v_part v_lack v_down v_parts v_lacks v_downs v_sort v_items v_item v_carried v_first v_second)) h0 hP hD hS 0 rfl (Nat.le_of_ble_eq_true rfl) rfl dX7_puts_17 (fun H locs hP hD hS => ?_)
  exact hfin _ (Option.some.inj E) _ _ _ _ hP hD hS dX7_puts_20
theorem hdX7_putsName : yX7_putsName.cls = RX7 ∧ yX7_putsName.cls ≠ "java/lang/invoke/MethodHandle" ∧ yX7_putsName.cls ≠ "java/lang/invoke/VarHandle" ∧ (parseMethodDescriptor yX7_putsName.desc).map (fun d => d.parameters.length) = some 1 := by decide +kernel
noncomputable def FX7_putsName_b2 (p1 : Int32) (v_name : Nat → Int32)  (k2 : Int32 → Int32 → (Nat → Int32) → Option (Int32 × (Nat → Int32))) (l2 v_lined : Int32) (v_line : Nat → Int32) : Option (Int32 × (Nat → Int32)) := ((FX7_lettersOf p1 v_name).bind (fun r1 => (if r1 ≤ l2 then (some (v_lined, v_line)) else (gd (vp_in ((4 * p1) + l2) 48) ((FX7_puts (v_name ((4 * p1) + l2).toNatClampNeg) v_lined v_line).bind (fun r4 => (k2 (l2 + 1) r4.1 r4.2)))))))
noncomputable def FX7_putsName_h2 (p1 : Int32) (v_name : Nat → Int32)  : Nat → Int32 → Int32 → (Nat → Int32) → Option (Int32 × (Nat → Int32))
  | 0 => fun _ _ _ => none
  | n + 1 => fun l2 v_lined v_line => FX7_putsName_b2 p1 v_name  (FX7_putsName_h2 p1 v_name  n) l2 v_lined v_line
noncomputable def FX7_putsName (p1 : Int32) (v_lined : Int32) (v_name v_line : Nat → Int32) : Option (Int32 × (Nat → Int32)) := (FX7_putsName_h2 p1 v_name  5000 0 v_lined v_line)
set_option maxHeartbeats 4000000 in
set_option maxRecDepth 100000 in
theorem c_X7_putsName (l : Launch) (D : va_G) (cI cZ cS : ClassId) (a : Nat → Nat) (v_pins v_bars v_taped v_lined v_at v_fault : Int32) (v_name v_low v_high v_tape v_line : Nat → Int32) (v_imagePins v_imageBars : Int32) (v_imageName v_imageLow v_imageHigh : Nat → Int32) (v_isKept : Int32) (v_to v_carries : Nat → Int32) (v_seen v_rank : Int32) (v_one v_other : Nat → Int32) (v_thought v_gone : Int32) (v_tied v_part v_lack v_down : Nat → Int32) (v_parts v_lacks v_downs : Int32) (v_sort v_items v_item v_carried : Nat → Int32) (v_first v_second : Int32) (p1 : Int32) (u : Int32 × (Nat → Int32)) (hF : FX7_putsName p1 v_lined v_name v_line = some u) : MCv l D (tyL cI cZ cS) yX7_putsName cX7_putsName 3 none 1 22 [.ref (a 0), .int p1] (wX7 cI cZ a v_pins v_bars v_taped v_lined v_at v_fault v_name v_low v_high v_tape v_line v_imagePins v_imageBars v_imageName v_imageLow v_imageHigh v_isKept v_to v_carries v_seen v_rank v_one v_other v_thought v_gone v_tied v_part v_lack v_down v_parts v_lacks v_downs v_sort v_items v_item v_carried v_first v_second) (wX7 cI cZ a v_pins v_bars v_taped u.1 v_at v_fault v_name v_low v_high v_tape u.2 v_imagePins v_imageBars v_imageName v_imageLow v_imageHigh v_isKept v_to v_carries v_seen v_rank v_one v_other v_thought v_gone v_tied v_part v_lack v_down v_parts v_lacks v_downs v_sort v_items v_item v_carried v_first v_second) := by
  refine MCv.mk (by decide) (Nat.le_of_ble_eq_true rfl) ?_
  intro p e s m args below meth c A ls Q h0 hP hD hA hS hl hfin0
  have hfin : ∀ (u' : Int32 × (Nat → Int32)), u' = u → ∀ (H : Heap) (locs : List Loc) (ls : Array Slot) (pc : Nat), va_P D vwCl (wX7 cI cZ a v_pins v_bars v_taped u'.1 v_at v_fault v_name v_low v_high v_tape u'.2 v_imagePins v_imageBars v_imageName v_imageLow v_imageHigh v_isKept v_to v_carries v_seen v_rank v_one v_other v_thought v_gone v_tied v_part v_lack v_down v_parts v_lacks v_downs v_sort v_items v_item v_carried v_first v_second) H → va_D A (wX7 cI cZ a v_pins v_bars v_taped u'.1 v_at v_fault v_name v_low v_high v_tape u'.2 v_imagePins v_imageBars v_imageName v_imageLow v_imageHigh v_isKept v_to v_carries v_seen v_rank v_one v_other v_thought v_gone v_tied v_part v_lack v_down v_parts v_lacks v_downs v_sort v_items v_item v_carried v_first v_second) → va_S A s.heap H locs → decode cX7_putsName pc = .ok (.return_, 1) → W p l e (uR 1 22) s m args below meth c H locs 0 0 Q (F0 m pc ls []) := by intro u' hu; subst hu; exact hfin0
  clear hfin0
  obtain ⟨hx, hb, hr, hlk, hml, hown, hts, hK⟩ := id h0
  have hl : lv_has ls 3 [(0, .ref (a 0)), (1, .int p1)] := hl
  have E := hF
  have J2 : ∀ (n2 : Nat) (l2 v_lined : Int32) (v_line : Nat → Int32) (H : Heap) (locs : List Loc) (ls : Array Slot), FX7_putsName_h2 p1 v_name  n2 l2 v_lined v_line = some u → va_P D vwCl (wX7 cI cZ a v_pins v_bars v_taped v_lined v_at v_fault v_name v_low v_high v_tape v_line v_imagePins v_imageBars v_imageName v_imageLow v_imageHigh v_isKept v_to v_carries v_seen v_rank v_one v_other v_thought v_gone v_tied v_part v_lack v_down v_parts v_lacks v_downs v_sort v_items v_item v_carried v_first v_second) H → va_D A (wX7 cI cZ a v_pins v_bars v_taped v_lined v_at v_fault v_name v_low v_high v_tape v_line v_imagePins v_imageBars v_imageName v_imageLow v_imageHigh v_isKept v_to v_carries v_seen v_rank v_one v_other v_thought v_gone v_tied v_part v_lack v_down v_parts v_lacks v_downs v_sort v_items v_item v_carried v_first v_second) → va_S A s.heap H locs → lv_has ls 3 [(0, .ref (a 0)), (1, .int p1), (2, .int l2)] → W p l e (uR 1 22) s m args below meth c H locs 0 0 Q (F0 m 2 ls []) := by
    intro n2
    induction n2 with
    | zero => intro l2 v_lined v_line H locs ls E; exact none_e E
    | succ n2 ih2 =>
      intro l2 v_lined v_line H locs ls E hP hD hS hl
      have E : FX7_putsName_b2 p1 v_name  (FX7_putsName_h2 p1 v_name  n2) l2 v_lined v_line = some u := E
      refine lv_iload_n hx hb dX7_putsName_2 rfl (lv_at hl 2 rfl) ?_
      refine lv_aload_n hx hb dX7_putsName_3 rfl (lv_at hl 0 rfl) ?_
      refine lv_iload_n hx hb dX7_putsName_4 rfl (lv_at hl 1 rfl) ?_
      obtain ⟨r1, hF, E⟩ := bn_e E
      refine callVfi (wo := (wX7 cI cZ a v_pins v_bars v_taped v_lined v_at v_fault v_name v_low v_high v_tape v_line v_imagePins v_imageBars v_imageName v_imageLow v_imageHigh v_isKept v_to v_carries v_seen v_rank v_one v_other v_thought v_gone v_tied v_part v_lack v_down v_parts v_lacks v_downs v_sort v_items v_item v_carried v_first v_second)) h0 (c_X7_lettersOf l D cI cZ cS a v_pins v_bars v_taped v_lined v_at v_fault v_name v_low v_high v_tape v_line v_imagePins v_imageBars v_imageName v_imageLow v_imageHigh v_isKept v_to v_carries v_seen v_rank v_one v_other v_thought v_gone v_tied v_part v_lack v_down v_parts v_lacks v_downs v_sort v_items v_item v_carried v_first v_second p1 r1 hF) (gV wq_827 wq_829 wp_38 wq_8 wq_830) hdX7_lettersOf ⟨Nat.le_of_ble_eq_true rfl, Nat.le_of_ble_eq_true rfl⟩ ⟨Nat.le_refl _, Nat.le_refl _⟩ hP hD hS hA 0 7 rfl rfl rfl hl.1 rfl (Nat.le_of_ble_eq_true rfl) dX7_putsName_5 (fun H locs hP hD hS => ?_)
      refine lv_icmp_ge (tgt := 31) hx hb dX7_putsName_8 (by decide) (fun c2 => ?_) (fun c2 => ?_)
      · have E := br_p E c2
        exact hfin _ (Option.some.inj E) _ _ _ _ hP hD hS dX7_putsName_31
      · have E := br_n E c2
        refine lv_aload_n hx hb dX7_putsName_11 rfl (lv_at hl 0 rfl) ?_
        refine lv_aload_n hx hb dX7_putsName_12 rfl (lv_at hl 0 rfl) ?_
        refine gf_X7_9 h0 hP 0 rfl rfl dX7_putsName_13 ?_
        refine lv_iconst (v := 4) hx hb dX7_putsName_16 (by decide) ?_
        refine lv_iload_n hx hb dX7_putsName_17 rfl (lv_at hl 1 rfl) ?_
        refine lv_imul hx hb dX7_putsName_18 ?_
        refine lv_iload_n hx hb dX7_putsName_19 rfl (lv_at hl 2 rfl) ?_
        refine lv_iadd hx hb dX7_putsName_20 ?_
        obtain ⟨g3, E⟩ := gd_e E
        refine aldi hx hb hK hP 1 rfl rfl g3 dX7_putsName_21 ?_
        obtain ⟨r4, hF, E⟩ := bn_e E
        refine callVfv (wo := (wX7 cI cZ a v_pins v_bars v_taped r4.1 v_at v_fault v_name v_low v_high v_tape r4.2 v_imagePins v_imageBars v_imageName v_imageLow v_imageHigh v_isKept v_to v_carries v_seen v_rank v_one v_other v_thought v_gone v_tied v_part v_lack v_down v_parts v_lacks v_downs v_sort v_items v_item v_carried v_first v_second)) h0 (c_X7_puts l D cI cZ cS a v_pins v_bars v_taped v_lined v_at v_fault v_name v_low v_high v_tape v_line v_imagePins v_imageBars v_imageName v_imageLow v_imageHigh v_isKept v_to v_carries v_seen v_rank v_one v_other v_thought v_gone v_tied v_part v_lack v_down v_parts v_lacks v_downs v_sort v_items v_item v_carried v_first v_second (v_name ((4 * p1) + l2).toNatClampNeg) r4 hF) (gV wq_906 wq_908 wp_50 wq_8 wq_909) hdX7_puts ⟨Nat.le_of_ble_eq_true rfl, Nat.le_of_ble_eq_true rfl⟩ ⟨Nat.le_refl _, Nat.le_refl _⟩ hP hD hS hA 0 7 rfl rfl rfl hl.1 rfl (Nat.le_of_ble_eq_true rfl) dX7_putsName_22 (fun H locs hP hD hS => ?_)
        refine lv_iinc (v := (l2 + 1)) (lv' := [(2, .int (l2 + 1)), (0, .ref (a 0)), (1, .int p1)]) hx hb dX7_putsName_25 hl (k := 2) rfl rfl (by decide) rfl (fun ls hl => ?_)
        refine lv_goto (tgt := 2) hx hb dX7_putsName_28 (by decide) ?_
        exact ih2 _ _ _ _ _ _ E hP hD hS (lv_sub hl [1, 2, 0] rfl)
  refine lv_iconst (v := 0) hx hb dX7_putsName_0 (by decide) ?_
  refine lv_istore_n (lv' := [(2, .int 0), (0, .ref (a 0)), (1, .int p1)]) hx hb dX7_putsName_1 rfl hl (by decide) rfl (fun ls hl => ?_)
  exact J2 5000 _ _ _ _ _ _ E hP hD hS (lv_sub hl [1, 2, 0] rfl)
theorem hdX7_line : yX7_line.cls = RX7 ∧ yX7_line.cls ≠ "java/lang/invoke/MethodHandle" ∧ yX7_line.cls ≠ "java/lang/invoke/VarHandle" ∧ (parseMethodDescriptor yX7_line.desc).map (fun d => d.parameters.length) = some 1 := by decide +kernel
noncomputable def FX7_line_b25 (p1 v_bars : Int32) (v_name v_low v_high : Nat → Int32) (k7 : Int32 → Int32 → (Nat → Int32) → Option (Int32 × Int32 × (Nat → Int32))) (l2 v_lined : Int32) (v_line : Nat → Int32) : Option (Int32 × Int32 × (Nat → Int32)) := (gd (vp_in l2 24) ((FX7_putsName (v_low l2.toNatClampNeg) v_lined v_name v_line).bind (fun r2 => ((FX7_puts 45 r2.1 r2.2).bind (fun r3 => (gd (vp_in l2 24) ((FX7_putsName (v_high l2.toNatClampNeg) r3.1 v_name r3.2).bind (fun r5 => (k7 (l2 + 1) r5.1 r5.2)))))))))
noncomputable def FX7_line_b7 (p1 v_bars : Int32) (v_name v_low v_high : Nat → Int32)  (k7 : Int32 → Int32 → (Nat → Int32) → Option (Int32 × Int32 × (Nat → Int32))) (l2 v_lined : Int32) (v_line : Nat → Int32) : Option (Int32 × Int32 × (Nat → Int32)) := (if v_bars ≤ l2 then (if p1 = (-1) then (some (v_lined, v_lined, v_line)) else ((FX7_isIn p1 0 (v_lined - 1)).bind (fun r8 => (if r8 = 0 then (some ((-1), v_lined, v_line)) else (gd (vp_in p1 240) (some ((v_line p1.toNatClampNeg), v_lined, v_line))))))) else (if l2 ≤ 0 then (FX7_line_b25 p1 v_bars v_name v_low v_high k7 l2 v_lined v_line) else ((FX7_puts 32 v_lined v_line).bind (fun r12 => (FX7_line_b25 p1 v_bars v_name v_low v_high k7 l2 r12.1 r12.2)))))
noncomputable def FX7_line_h7 (p1 v_bars : Int32) (v_name v_low v_high : Nat → Int32)  : Nat → Int32 → Int32 → (Nat → Int32) → Option (Int32 × Int32 × (Nat → Int32))
  | 0 => fun _ _ _ => none
  | n + 1 => fun l2 v_lined v_line => FX7_line_b7 p1 v_bars v_name v_low v_high  (FX7_line_h7 p1 v_bars v_name v_low v_high  n) l2 v_lined v_line
noncomputable def FX7_line (p1 : Int32) (v_bars v_lined : Int32) (v_name v_low v_high v_line : Nat → Int32) : Option (Int32 × Int32 × (Nat → Int32)) := (FX7_line_h7 p1 v_bars v_name v_low v_high  5000 0 0 v_line)
set_option maxHeartbeats 4000000 in
set_option maxRecDepth 100000 in
theorem c_X7_line (l : Launch) (D : va_G) (cI cZ cS : ClassId) (a : Nat → Nat) (v_pins v_bars v_taped v_lined v_at v_fault : Int32) (v_name v_low v_high v_tape v_line : Nat → Int32) (v_imagePins v_imageBars : Int32) (v_imageName v_imageLow v_imageHigh : Nat → Int32) (v_isKept : Int32) (v_to v_carries : Nat → Int32) (v_seen v_rank : Int32) (v_one v_other : Nat → Int32) (v_thought v_gone : Int32) (v_tied v_part v_lack v_down : Nat → Int32) (v_parts v_lacks v_downs : Int32) (v_sort v_items v_item v_carried : Nat → Int32) (v_first v_second : Int32) (p1 : Int32) (u : Int32 × Int32 × (Nat → Int32)) (hF : FX7_line p1 v_bars v_lined v_name v_low v_high v_line = some u) : MCi l D (tyL cI cZ cS) yX7_line cX7_line 3 (some .int) 2 44 [.ref (a 0), .int p1] (wX7 cI cZ a v_pins v_bars v_taped v_lined v_at v_fault v_name v_low v_high v_tape v_line v_imagePins v_imageBars v_imageName v_imageLow v_imageHigh v_isKept v_to v_carries v_seen v_rank v_one v_other v_thought v_gone v_tied v_part v_lack v_down v_parts v_lacks v_downs v_sort v_items v_item v_carried v_first v_second) (wX7 cI cZ a v_pins v_bars v_taped u.2.1 v_at v_fault v_name v_low v_high v_tape u.2.2 v_imagePins v_imageBars v_imageName v_imageLow v_imageHigh v_isKept v_to v_carries v_seen v_rank v_one v_other v_thought v_gone v_tied v_part v_lack v_down v_parts v_lacks v_downs v_sort v_items v_item v_carried v_first v_second) u.1 := by
  refine MCi.mk (by decide) (Nat.le_of_ble_eq_true rfl) ?_
  intro p e s m args below meth c A ls Q h0 hP hD hA hS hl hfin0
  have hfin : ∀ (u' : Int32 × Int32 × (Nat → Int32)), u' = u → ∀ (H : Heap) (locs : List Loc) (ls : Array Slot) (pc : Nat), va_P D vwCl (wX7 cI cZ a v_pins v_bars v_taped u'.2.1 v_at v_fault v_name v_low v_high v_tape u'.2.2 v_imagePins v_imageBars v_imageName v_imageLow v_imageHigh v_isKept v_to v_carries v_seen v_rank v_one v_other v_thought v_gone v_tied v_part v_lack v_down v_parts v_lacks v_downs v_sort v_items v_item v_carried v_first v_second) H → va_D A (wX7 cI cZ a v_pins v_bars v_taped u'.2.1 v_at v_fault v_name v_low v_high v_tape u'.2.2 v_imagePins v_imageBars v_imageName v_imageLow v_imageHigh v_isKept v_to v_carries v_seen v_rank v_one v_other v_thought v_gone v_tied v_part v_lack v_down v_parts v_lacks v_downs v_sort v_items v_item v_carried v_first v_second) → va_S A s.heap H locs → decode cX7_line pc = .ok (.ireturn, 1) → W p l e (uR 2 44) s m args below meth c H locs 0 0 Q (F0 m pc ls [.int u'.1]) := by intro u' hu; subst hu; exact hfin0
  clear hfin0
  obtain ⟨hx, hb, hr, hlk, hml, hown, hts, hK⟩ := id h0
  have hl : lv_has ls 3 [(0, .ref (a 0)), (1, .int p1)] := hl
  have E := hF
  have J7 : ∀ (n7 : Nat) (l2 v_lined : Int32) (v_line : Nat → Int32) (H : Heap) (locs : List Loc) (ls : Array Slot), FX7_line_h7 p1 v_bars v_name v_low v_high  n7 l2 v_lined v_line = some u → va_P D vwCl (wX7 cI cZ a v_pins v_bars v_taped v_lined v_at v_fault v_name v_low v_high v_tape v_line v_imagePins v_imageBars v_imageName v_imageLow v_imageHigh v_isKept v_to v_carries v_seen v_rank v_one v_other v_thought v_gone v_tied v_part v_lack v_down v_parts v_lacks v_downs v_sort v_items v_item v_carried v_first v_second) H → va_D A (wX7 cI cZ a v_pins v_bars v_taped v_lined v_at v_fault v_name v_low v_high v_tape v_line v_imagePins v_imageBars v_imageName v_imageLow v_imageHigh v_isKept v_to v_carries v_seen v_rank v_one v_other v_thought v_gone v_tied v_part v_lack v_down v_parts v_lacks v_downs v_sort v_items v_item v_carried v_first v_second) → va_S A s.heap H locs → lv_has ls 3 [(0, .ref (a 0)), (1, .int p1), (2, .int l2)] → W p l e (uR 2 44) s m args below meth c H locs 0 0 Q (F0 m 7 ls []) := by
    intro n7
    induction n7 with
    | zero => intro l2 v_lined v_line H locs ls E; exact none_e E
    | succ n7 ih7 =>
      intro l2 v_lined v_line H locs ls E hP hD hS hl
      have E : FX7_line_b7 p1 v_bars v_name v_low v_high  (FX7_line_h7 p1 v_bars v_name v_low v_high  n7) l2 v_lined v_line = some u := E
      have J25 : ∀ (l2 v_lined : Int32) (v_line : Nat → Int32) (H : Heap) (locs : List Loc) (ls : Array Slot), FX7_line_b25 p1 v_bars v_name v_low v_high (FX7_line_h7 p1 v_bars v_name v_low v_high  n7) l2 v_lined v_line = some u → va_P D vwCl (wX7 cI cZ a v_pins v_bars v_taped v_lined v_at v_fault v_name v_low v_high v_tape v_line v_imagePins v_imageBars v_imageName v_imageLow v_imageHigh v_isKept v_to v_carries v_seen v_rank v_one v_other v_thought v_gone v_tied v_part v_lack v_down v_parts v_lacks v_downs v_sort v_items v_item v_carried v_first v_second) H → va_D A (wX7 cI cZ a v_pins v_bars v_taped v_lined v_at v_fault v_name v_low v_high v_tape v_line v_imagePins v_imageBars v_imageName v_imageLow v_imageHigh v_isKept v_to v_carries v_seen v_rank v_one v_other v_thought v_gone v_tied v_part v_lack v_down v_parts v_lacks v_downs v_sort v_items v_item v_carried v_first v_second) → va_S A s.heap H locs → lv_has ls 3 [(0, .ref (a 0)), (1, .int p1), (2, .int l2)] → W p l e (uR 2 44) s m args below meth c H locs 0 0 Q (F0 m 25 ls []) := by
        intro l2 v_lined v_line H locs ls E hP hD hS hl
        refine lv_aload_n hx hb dX7_line_25 rfl (lv_at hl 0 rfl) ?_
        refine lv_aload_n hx hb dX7_line_26 rfl (lv_at hl 0 rfl) ?_
        refine gf_X7_13 h0 hP 0 rfl rfl dX7_line_27 ?_
        refine lv_iload_n hx hb dX7_line_30 rfl (lv_at hl 2 rfl) ?_
        obtain ⟨g1, E⟩ := gd_e E
        refine aldi hx hb hK hP 2 rfl rfl g1 dX7_line_31 ?_
        obtain ⟨r2, hF, E⟩ := bn_e E
        refine callVfv (wo := (wX7 cI cZ a v_pins v_bars v_taped r2.1 v_at v_fault v_name v_low v_high v_tape r2.2 v_imagePins v_imageBars v_imageName v_imageLow v_imageHigh v_isKept v_to v_carries v_seen v_rank v_one v_other v_thought v_gone v_tied v_part v_lack v_down v_parts v_lacks v_downs v_sort v_items v_item v_carried v_first v_second)) h0 (c_X7_putsName l D cI cZ cS a v_pins v_bars v_taped v_lined v_at v_fault v_name v_low v_high v_tape v_line v_imagePins v_imageBars v_imageName v_imageLow v_imageHigh v_isKept v_to v_carries v_seen v_rank v_one v_other v_thought v_gone v_tied v_part v_lack v_down v_parts v_lacks v_downs v_sort v_items v_item v_carried v_first v_second (v_low l2.toNatClampNeg) r2 hF) (gV wq_910 wq_912 wp_51 wq_8 wq_913) hdX7_putsName ⟨Nat.le_of_ble_eq_true rfl, Nat.le_of_ble_eq_true rfl⟩ ⟨Nat.le_refl _, Nat.le_refl _⟩ hP hD hS hA 0 7 rfl rfl rfl hl.1 rfl (Nat.le_of_ble_eq_true rfl) dX7_line_32 (fun H locs hP hD hS => ?_)
        refine lv_aload_n hx hb dX7_line_35 rfl (lv_at hl 0 rfl) ?_
        refine lv_bipush (v := 45) hx hb dX7_line_36 (by decide) ?_
        obtain ⟨r3, hF, E⟩ := bn_e E
        refine callVfv (wo := (wX7 cI cZ a v_pins v_bars v_taped r3.1 v_at v_fault v_name v_low v_high v_tape r3.2 v_imagePins v_imageBars v_imageName v_imageLow v_imageHigh v_isKept v_to v_carries v_seen v_rank v_one v_other v_thought v_gone v_tied v_part v_lack v_down v_parts v_lacks v_downs v_sort v_items v_item v_carried v_first v_second)) h0 (c_X7_puts l D cI cZ cS a v_pins v_bars v_taped r2.1 v_at v_fault v_name v_low v_high v_tape r2.2 v_imagePins v_imageBars v_imageName v_imageLow v_imageHigh v_isKept v_to v_carries v_seen v_rank v_one v_other v_thought v_gone v_tied v_part v_lack v_down v_parts v_lacks v_downs v_sort v_items v_item v_carried v_first v_second 45 r3 hF) (gV wq_906 wq_908 wp_50 wq_8 wq_909) hdX7_puts ⟨Nat.le_of_ble_eq_true rfl, Nat.le_of_ble_eq_true rfl⟩ ⟨Nat.le_refl _, Nat.le_refl _⟩ hP hD hS hA 0 7 rfl rfl rfl hl.1 rfl (Nat.le_of_ble_eq_true rfl) dX7_line_38 (fun H locs hP hD hS => ?_)
        refine lv_aload_n hx hb dX7_line_41 rfl (lv_at hl 0 rfl) ?_
        refine lv_aload_n hx hb dX7_line_42 rfl (lv_at hl 0 rfl) ?_
        refine gf_X7_16 h0 hP 0 rfl rfl dX7_line_43 ?_
        refine lv_iload_n hx hb dX7_line_46 rfl (lv_at hl 2 rfl) ?_
        obtain ⟨g4, E⟩ := gd_e E
        refine aldi hx hb hK hP 3 rfl rfl g4 dX7_line_47 ?_
        obtain ⟨r5, hF, E⟩ := bn_e E
        refine callVfv (wo := (wX7 cI cZ a v_pins v_bars v_taped r5.1 v_at v_fault v_name v_low v_high v_tape r5.2 v_imagePins v_imageBars v_imageName v_imageLow v_imageHigh v_isKept v_to v_carries v_seen v_rank v_one v_other v_thought v_gone v_tied v_part v_lack v_down v_parts v_lacks v_downs v_sort v_items v_item v_carried v_first v_second)) h0 (c_X7_putsName l D cI cZ cS a v_pins v_bars v_taped r3.1 v_at v_fault v_name v_low v_high v_tape r3.2 v_imagePins v_imageBars v_imageName v_imageLow v_imageHigh v_isKept v_to v_carries v_seen v_rank v_one v_other v_thought v_gone v_tied v_part v_lack v_down v_parts v_lacks v_downs v_sort v_items v_item v_carried v_first v_second (v_high l2.toNatClampNeg) r5 hF) (gV wq_910 wq_912 wp_51 wq_8 wq_913) hdX7_putsName ⟨Nat.le_of_ble_eq_true rfl, Nat.le_of_ble_eq_true rfl⟩ ⟨Nat.le_refl _, Nat.le_refl _⟩ hP hD hS hA 0 7 rfl rfl rfl hl.1 rfl (Nat.le_of_ble_eq_true rfl) dX7_line_48 (fun H locs hP hD hS => ?_)
        refine lv_iinc (v := (l2 + 1)) (lv' := [(2, .int (l2 + 1)), (0, .ref (a 0)), (1, .int p1)]) hx hb dX7_line_51 hl (k := 2) rfl rfl (by decide) rfl (fun ls hl => ?_)
        refine lv_goto (tgt := 7) hx hb dX7_line_54 (by decide) ?_
        exact ih7 _ _ _ _ _ _ E hP hD hS (lv_sub hl [1, 2, 0] rfl)
      refine lv_iload_n hx hb dX7_line_7 rfl (lv_at hl 2 rfl) ?_
      refine lv_aload_n hx hb dX7_line_8 rfl (lv_at hl 0 rfl) ?_
      refine gf_X7_106 h0 hP 0 rfl rfl dX7_line_9 ?_
      refine lv_icmp_ge (tgt := 57) hx hb dX7_line_12 (by decide) (fun c6 => ?_) (fun c6 => ?_)
      · have E := br_p E c6
        refine lv_iload_n hx hb dX7_line_57 rfl (lv_at hl 1 rfl) ?_
        refine lv_iconst (v := (-1)) hx hb dX7_line_58 (by decide) ?_
        refine lv_icmp_ne (tgt := 69) hx hb dX7_line_59 (by decide) (fun c7 => ?_) (fun c7 => ?_)
        · have E := br_n E c7
          refine lv_iload_n hx hb dX7_line_69 rfl (lv_at hl 1 rfl) ?_
          refine lv_iconst (v := 0) hx hb dX7_line_70 (by decide) ?_
          refine lv_aload_n hx hb dX7_line_71 rfl (lv_at hl 0 rfl) ?_
          refine gf_X7_209 h0 hP 0 rfl rfl dX7_line_72 ?_
          refine lv_iconst (v := 1) hx hb dX7_line_75 (by decide) ?_
          refine lv_isub hx hb dX7_line_76 ?_
          obtain ⟨r8, hF, E⟩ := bn_e E
          refine callSi (wo := (wX7 cI cZ a v_pins v_bars v_taped v_lined v_at v_fault v_name v_low v_high v_tape v_line v_imagePins v_imageBars v_imageName v_imageLow v_imageHigh v_isKept v_to v_carries v_seen v_rank v_one v_other v_thought v_gone v_tied v_part v_lack v_down v_parts v_lacks v_downs v_sort v_items v_item v_carried v_first v_second)) h0 (c_X7_isIn l D cI cZ cS p1 0 (v_lined - 1) r8 hF) (gS wq_734 wq_735 wq_8 wq_736) hdX7_isIn ⟨Nat.le_of_ble_eq_true rfl, Nat.le_of_ble_eq_true rfl⟩ ⟨Nat.le_refl _, Nat.le_refl _⟩ hP hD hS hA [] rfl rfl rfl rfl hl.1 rfl (Nat.le_of_ble_eq_true rfl) dX7_line_77 (fun H locs hP hD hS => ?_)
          refine lv_if_eq (tgt := 92) hx hb dX7_line_80 (by decide) (fun c9 => ?_) (fun c9 => ?_)
          · have E := br_p E c9
            refine lv_iconst (v := (-1)) hx hb dX7_line_92 (by decide) ?_
            exact hfin _ (Option.some.inj E) _ _ _ _ hP hD hS dX7_line_93
          · have E := br_n E c9
            refine lv_aload_n hx hb dX7_line_83 rfl (lv_at hl 0 rfl) ?_
            refine gf_X7_22 h0 hP 0 rfl rfl dX7_line_84 ?_
            refine lv_iload_n hx hb dX7_line_87 rfl (lv_at hl 1 rfl) ?_
            obtain ⟨g10, E⟩ := gd_e E
            refine aldi hx hb hK hP 5 rfl rfl g10 dX7_line_88 ?_
            refine lv_goto (tgt := 93) hx hb dX7_line_89 (by decide) ?_
            exact hfin _ (Option.some.inj E) _ _ _ _ hP hD hS dX7_line_93
        · have E := br_p E c7
          refine lv_aload_n hx hb dX7_line_62 rfl (lv_at hl 0 rfl) ?_
          refine gf_X7_209 h0 hP 0 rfl rfl dX7_line_63 ?_
          refine lv_goto (tgt := 93) hx hb dX7_line_66 (by decide) ?_
          exact hfin _ (Option.some.inj E) _ _ _ _ hP hD hS dX7_line_93
      · have E := br_n E c6
        refine lv_iload_n hx hb dX7_line_15 rfl (lv_at hl 2 rfl) ?_
        refine lv_if_le (tgt := 25) hx hb dX7_line_16 (by decide) (fun c11 => ?_) (fun c11 => ?_)
        · have E := br_p E c11
          exact J25 _ _ _ _ _ _ E hP hD hS (lv_sub hl [0, 1, 2] rfl)
        · have E := br_n E c11
          refine lv_aload_n hx hb dX7_line_19 rfl (lv_at hl 0 rfl) ?_
          refine lv_bipush (v := 32) hx hb dX7_line_20 (by decide) ?_
          obtain ⟨r12, hF, E⟩ := bn_e E
          refine callVfv (wo := (wX7 cI cZ a v_pins v_bars v_taped r12.1 v_at v_fault v_name v_low v_high v_tape r12.2 v_imagePins v_imageBars v_imageName v_imageLow v_imageHigh v_isKept v_to v_carries v_seen v_rank v_one v_other v_thought v_gone v_tied v_part v_lack v_down v_parts v_lacks v_downs v_sort v_items v_item v_carried v_first v_second)) h0 (c_X7_puts l D cI cZ cS a v_pins v_bars v_taped v_lined v_at v_fault v_name v_low v_high v_tape v_line v_imagePins v_imageBars v_imageName v_imageLow v_imageHigh v_isKept v_to v_carries v_seen v_rank v_one v_other v_thought v_gone v_tied v_part v_lack v_down v_parts v_lacks v_downs v_sort v_items v_item v_carried v_first v_second 32 r12 hF) (gV wq_906 wq_908 wp_50 wq_8 wq_909) hdX7_puts ⟨Nat.le_of_ble_eq_true rfl, Nat.le_of_ble_eq_true rfl⟩ ⟨Nat.le_refl _, Nat.le_refl _⟩ hP hD hS hA 0 7 rfl rfl rfl hl.1 rfl (Nat.le_of_ble_eq_true rfl) dX7_line_22 (fun H locs hP hD hS => ?_)
          exact J25 _ _ _ _ _ _ E hP hD hS (lv_sub hl [0, 1, 2] rfl)
  refine lv_aload_n hx hb dX7_line_0 rfl (lv_at hl 0 rfl) ?_
  refine lv_iconst (v := 0) hx hb dX7_line_1 (by decide) ?_
  refine pf_X7_209 (wo := (wX7 cI cZ a v_pins v_bars v_taped 0 v_at v_fault v_name v_low v_high v_tape v_line v_imagePins v_imageBars v_imageName v_imageLow v_imageHigh v_isKept v_to v_carries v_seen v_rank v_one v_other v_thought v_gone v_tied v_part v_lack v_down v_parts v_lacks v_downs v_sort v_items v_item v_carried v_first v_second)) h0 hP hD hS 0 rfl (Nat.le_of_ble_eq_true rfl) rfl dX7_line_2 (fun H locs hP hD hS => ?_)
  refine lv_iconst (v := 0) hx hb dX7_line_5 (by decide) ?_
  refine lv_istore_n (lv' := [(2, .int 0), (0, .ref (a 0)), (1, .int p1)]) hx hb dX7_line_6 rfl hl (by decide) rfl (fun ls hl => ?_)
  exact J7 5000 _ _ _ _ _ _ E hP hD hS (lv_sub hl [1, 2, 0] rfl)
theorem hdX7_feed : yX7_feed.cls = RX7 ∧ yX7_feed.cls ≠ "java/lang/invoke/MethodHandle" ∧ yX7_feed.cls ≠ "java/lang/invoke/VarHandle" ∧ (parseMethodDescriptor yX7_feed.desc).map (fun d => d.parameters.length) = some 6 := by decide +kernel
noncomputable def FX7_feed_b147 (p1 p2 p3 p4 p5 p6 : Int32) (k87 : Int32 → Int32 → (Nat → Int32) → Option (Int32 × Int32 × (Nat → Int32))) (l7 t1 t2 v_taped : Int32) (v_tape : Nat → Int32) : Option (Int32 × Int32 × (Nat → Int32)) := (gd (vp_in t1 30) (k87 (l7 + 1) v_taped (upd v_tape t1.toNatClampNeg t2)))
noncomputable def FX7_feed_b87 (p1 p2 p3 p4 p5 p6 : Int32)  (k87 : Int32 → Int32 → (Nat → Int32) → Option (Int32 × Int32 × (Nat → Int32))) (l7 v_taped : Int32) (v_tape : Nat → Int32) : Option (Int32 × Int32 × (Nat → Int32)) := (if p1 ≤ l7 then (some ((v_taped + p1), (v_taped + p1), v_tape)) else (if l7 = 0 then (FX7_feed_b147 p1 p2 p3 p4 p5 p6 k87 l7 (v_taped + l7) p2 v_taped v_tape) else (if l7 = 1 then (FX7_feed_b147 p1 p2 p3 p4 p5 p6 k87 l7 (v_taped + l7) p3 v_taped v_tape) else (if l7 = 2 then (FX7_feed_b147 p1 p2 p3 p4 p5 p6 k87 l7 (v_taped + l7) p4 v_taped v_tape) else (if l7 = 3 then (FX7_feed_b147 p1 p2 p3 p4 p5 p6 k87 l7 (v_taped + l7) p5 v_taped v_tape) else (FX7_feed_b147 p1 p2 p3 p4 p5 p6 k87 l7 (v_taped + l7) p6 v_taped v_tape))))))
noncomputable def FX7_feed_h87 (p1 p2 p3 p4 p5 p6 : Int32)  : Nat → Int32 → Int32 → (Nat → Int32) → Option (Int32 × Int32 × (Nat → Int32))
  | 0 => fun _ _ _ => none
  | n + 1 => fun l7 v_taped v_tape => FX7_feed_b87 p1 p2 p3 p4 p5 p6  (FX7_feed_h87 p1 p2 p3 p4 p5 p6  n) l7 v_taped v_tape
noncomputable def FX7_feed (p1 p2 p3 p4 p5 p6 : Int32) (v_taped : Int32) (v_tape : Nat → Int32) : Option (Int32 × Int32 × (Nat → Int32)) := ((FX7_isIn p1 1 5).bind (fun r7 => (if r7 = 0 then (some ((-2), v_taped, v_tape)) else ((FX7_isIn p2 0 255).bind (fun r9 => (if r9 = 0 then (some ((-2), v_taped, v_tape)) else ((FX7_isIn p3 0 255).bind (fun r11 => (if r11 = 0 then (some ((-2), v_taped, v_tape)) else ((FX7_isIn p4 0 255).bind (fun r13 => (if r13 = 0 then (some ((-2), v_taped, v_tape)) else ((FX7_isIn p5 0 255).bind (fun r15 => (if r15 = 0 then (some ((-2), v_taped, v_tape)) else ((FX7_isIn p6 0 255).bind (fun r17 => (if r17 = 0 then (some ((-2), v_taped, v_tape)) else (if (v_taped + p1) ≤ 30 then (FX7_feed_h87 p1 p2 p3 p4 p5 p6  5000 0 v_taped v_tape) else (some ((-4), v_taped, v_tape)))))))))))))))))))))
set_option maxHeartbeats 4000000 in
set_option maxRecDepth 100000 in
theorem c_X7_feed (l : Launch) (D : va_G) (cI cZ cS : ClassId) (a : Nat → Nat) (v_pins v_bars v_taped v_lined v_at v_fault : Int32) (v_name v_low v_high v_tape v_line : Nat → Int32) (v_imagePins v_imageBars : Int32) (v_imageName v_imageLow v_imageHigh : Nat → Int32) (v_isKept : Int32) (v_to v_carries : Nat → Int32) (v_seen v_rank : Int32) (v_one v_other : Nat → Int32) (v_thought v_gone : Int32) (v_tied v_part v_lack v_down : Nat → Int32) (v_parts v_lacks v_downs : Int32) (v_sort v_items v_item v_carried : Nat → Int32) (v_first v_second : Int32) (p1 p2 p3 p4 p5 p6 : Int32) (u : Int32 × Int32 × (Nat → Int32)) (hF : FX7_feed p1 p2 p3 p4 p5 p6 v_taped v_tape = some u) : MCi l D (tyL cI cZ cS) yX7_feed cX7_feed 8 (some .int) 1 22 [.ref (a 0), .int p1, .int p2, .int p3, .int p4, .int p5, .int p6] (wX7 cI cZ a v_pins v_bars v_taped v_lined v_at v_fault v_name v_low v_high v_tape v_line v_imagePins v_imageBars v_imageName v_imageLow v_imageHigh v_isKept v_to v_carries v_seen v_rank v_one v_other v_thought v_gone v_tied v_part v_lack v_down v_parts v_lacks v_downs v_sort v_items v_item v_carried v_first v_second) (wX7 cI cZ a v_pins v_bars u.2.1 v_lined v_at v_fault v_name v_low v_high u.2.2 v_line v_imagePins v_imageBars v_imageName v_imageLow v_imageHigh v_isKept v_to v_carries v_seen v_rank v_one v_other v_thought v_gone v_tied v_part v_lack v_down v_parts v_lacks v_downs v_sort v_items v_item v_carried v_first v_second) u.1 := by
  refine MCi.mk (by decide) (Nat.le_of_ble_eq_true rfl) ?_
  intro p e s m args below meth c A ls Q h0 hP hD hA hS hl hfin0
  have hfin : ∀ (u' : Int32 × Int32 × (Nat → Int32)), u' = u → ∀ (H : Heap) (locs : List Loc) (ls : Array Slot) (pc : Nat), va_P D vwCl (wX7 cI cZ a v_pins v_bars u'.2.1 v_lined v_at v_fault v_name v_low v_high u'.2.2 v_line v_imagePins v_imageBars v_imageName v_imageLow v_imageHigh v_isKept v_to v_carries v_seen v_rank v_one v_other v_thought v_gone v_tied v_part v_lack v_down v_parts v_lacks v_downs v_sort v_items v_item v_carried v_first v_second) H → va_D A (wX7 cI cZ a v_pins v_bars u'.2.1 v_lined v_at v_fault v_name v_low v_high u'.2.2 v_line v_imagePins v_imageBars v_imageName v_imageLow v_imageHigh v_isKept v_to v_carries v_seen v_rank v_one v_other v_thought v_gone v_tied v_part v_lack v_down v_parts v_lacks v_downs v_sort v_items v_item v_carried v_first v_second) → va_S A s.heap H locs → decode cX7_feed pc = .ok (.ireturn, 1) → W p l e (uR 1 22) s m args below meth c H locs 0 0 Q (F0 m pc ls [.int u'.1]) := by intro u' hu; subst hu; exact hfin0
  clear hfin0
  obtain ⟨hx, hb, hr, hlk, hml, hown, hts, hK⟩ := id h0
  have hl : lv_has ls 8 [(0, .ref (a 0)), (1, .int p1), (2, .int p2), (3, .int p3), (4, .int p4), (5, .int p5), (6, .int p6)] := hl
  have E := hF
  have J87 : ∀ (n87 : Nat) (l7 v_taped : Int32) (v_tape : Nat → Int32) (H : Heap) (locs : List Loc) (ls : Array Slot), FX7_feed_h87 p1 p2 p3 p4 p5 p6  n87 l7 v_taped v_tape = some u → va_P D vwCl (wX7 cI cZ a v_pins v_bars v_taped v_lined v_at v_fault v_name v_low v_high v_tape v_line v_imagePins v_imageBars v_imageName v_imageLow v_imageHigh v_isKept v_to v_carries v_seen v_rank v_one v_other v_thought v_gone v_tied v_part v_lack v_down v_parts v_lacks v_downs v_sort v_items v_item v_carried v_first v_second) H → va_D A (wX7 cI cZ a v_pins v_bars v_taped v_lined v_at v_fault v_name v_low v_high v_tape v_line v_imagePins v_imageBars v_imageName v_imageLow v_imageHigh v_isKept v_to v_carries v_seen v_rank v_one v_other v_thought v_gone v_tied v_part v_lack v_down v_parts v_lacks v_downs v_sort v_items v_item v_carried v_first v_second) → va_S A s.heap H locs → lv_has ls 8 [(0, .ref (a 0)), (1, .int p1), (2, .int p2), (3, .int p3), (4, .int p4), (5, .int p5), (6, .int p6), (7, .int l7)] → W p l e (uR 1 22) s m args below meth c H locs 0 0 Q (F0 m 87 ls []) := by
    intro n87
    induction n87 with
    | zero => intro l7 v_taped v_tape H locs ls E; exact none_e E
    | succ n87 ih87 =>
      intro l7 v_taped v_tape H locs ls E hP hD hS hl
      have E : FX7_feed_b87 p1 p2 p3 p4 p5 p6  (FX7_feed_h87 p1 p2 p3 p4 p5 p6  n87) l7 v_taped v_tape = some u := E
      have J147 : ∀ (l7 t1 t2 v_taped : Int32) (v_tape : Nat → Int32) (H : Heap) (locs : List Loc) (ls : Array Slot), FX7_feed_b147 p1 p2 p3 p4 p5 p6 (FX7_feed_h87 p1 p2 p3 p4 p5 p6  n87) l7 t1 t2 v_taped v_tape = some u → va_P D vwCl (wX7 cI cZ a v_pins v_bars v_taped v_lined v_at v_fault v_name v_low v_high v_tape v_line v_imagePins v_imageBars v_imageName v_imageLow v_imageHigh v_isKept v_to v_carries v_seen v_rank v_one v_other v_thought v_gone v_tied v_part v_lack v_down v_parts v_lacks v_downs v_sort v_items v_item v_carried v_first v_second) H → va_D A (wX7 cI cZ a v_pins v_bars v_taped v_lined v_at v_fault v_name v_low v_high v_tape v_line v_imagePins v_imageBars v_imageName v_imageLow v_imageHigh v_isKept v_to v_carries v_seen v_rank v_one v_other v_thought v_gone v_tied v_part v_lack v_down v_parts v_lacks v_downs v_sort v_items v_item v_carried v_first v_second) → va_S A s.heap H locs → lv_has ls 8 [(0, .ref (a 0)), (1, .int p1), (2, .int p2), (3, .int p3), (4, .int p4), (5, .int p5), (6, .int p6), (7, .int l7)] → W p l e (uR 1 22) s m args below meth c H locs 0 0 Q (F0 m 147 ls [.int t2, .int t1, .ref (a 4)]) := by
        intro l7 t1 t2 v_taped v_tape H locs ls E hP hD hS hl
        obtain ⟨g1, E⟩ := gd_e E
        refine asti (wo := (wX7 cI cZ a v_pins v_bars v_taped v_lined v_at v_fault v_name v_low v_high (upd v_tape t1.toNatClampNeg t2) v_line v_imagePins v_imageBars v_imageName v_imageLow v_imageHigh v_isKept v_to v_carries v_seen v_rank v_one v_other v_thought v_gone v_tied v_part v_lack v_down v_parts v_lacks v_downs v_sort v_items v_item v_carried v_first v_second)) hx hb hK hP hD hS 4 rfl rfl g1 rfl dX7_feed_147 (fun H locs hP hD hS => ?_)
        refine lv_iinc (v := (l7 + 1)) (lv' := [(7, .int (l7 + 1)), (0, .ref (a 0)), (1, .int p1), (2, .int p2), (3, .int p3), (4, .int p4), (5, .int p5), (6, .int p6)]) hx hb dX7_feed_148 hl (k := 7) rfl rfl (by decide) rfl (fun ls hl => ?_)
        refine lv_goto (tgt := 87) hx hb dX7_feed_151 (by decide) ?_
        exact ih87 _ _ _ _ _ _ E hP hD hS (lv_sub hl [1, 2, 3, 4, 5, 6, 7, 0] rfl)
      refine lv_iload hx hb dX7_feed_87 (lv_at hl 7 rfl) ?_
      refine lv_iload_n hx hb dX7_feed_89 rfl (lv_at hl 1 rfl) ?_
      refine lv_icmp_ge (tgt := 154) hx hb dX7_feed_90 (by decide) (fun c2 => ?_) (fun c2 => ?_)
      · have E := br_p E c2
        refine lv_aload_n hx hb dX7_feed_154 rfl (lv_at hl 0 rfl) ?_
        refine lv_dup hx hb dX7_feed_155 rfl ?_
        refine gf_X7_155 h0 hP 0 rfl rfl dX7_feed_156 ?_
        refine lv_iload_n hx hb dX7_feed_159 rfl (lv_at hl 1 rfl) ?_
        refine lv_iadd hx hb dX7_feed_160 ?_
        refine pf_X7_155 (wo := (wX7 cI cZ a v_pins v_bars (v_taped + p1) v_lined v_at v_fault v_name v_low v_high v_tape v_line v_imagePins v_imageBars v_imageName v_imageLow v_imageHigh v_isKept v_to v_carries v_seen v_rank v_one v_other v_thought v_gone v_tied v_part v_lack v_down v_parts v_lacks v_downs v_sort v_items v_item v_carried v_first v_second)) h0 hP hD hS 0 rfl (Nat.le_of_ble_eq_true rfl) rfl dX7_feed_161 (fun H locs hP hD hS => ?_)
        refine lv_aload_n hx hb dX7_feed_164 rfl (lv_at hl 0 rfl) ?_
        refine gf_X7_155 h0 hP 0 rfl rfl dX7_feed_165 ?_
        exact hfin _ (Option.some.inj E) _ _ _ _ hP hD hS dX7_feed_168
      · have E := br_n E c2
        refine lv_aload_n hx hb dX7_feed_93 rfl (lv_at hl 0 rfl) ?_
        refine gf_X7_19 h0 hP 0 rfl rfl dX7_feed_94 ?_
        refine lv_aload_n hx hb dX7_feed_97 rfl (lv_at hl 0 rfl) ?_
        refine gf_X7_155 h0 hP 0 rfl rfl dX7_feed_98 ?_
        refine lv_iload hx hb dX7_feed_101 (lv_at hl 7 rfl) ?_
        refine lv_iadd hx hb dX7_feed_103 ?_
        refine lv_iload hx hb dX7_feed_104 (lv_at hl 7 rfl) ?_
        refine lv_if_ne (tgt := 113) hx hb dX7_feed_106 (by decide) (fun c3 => ?_) (fun c3 => ?_)
        · have E := br_n E c3
          refine lv_iload hx hb dX7_feed_113 (lv_at hl 7 rfl) ?_
          refine lv_iconst (v := 1) hx hb dX7_feed_115 (by decide) ?_
          refine lv_icmp_ne (tgt := 123) hx hb dX7_feed_116 (by decide) (fun c4 => ?_) (fun c4 => ?_)
          · have E := br_n E c4
            refine lv_iload hx hb dX7_feed_123 (lv_at hl 7 rfl) ?_
            refine lv_iconst (v := 2) hx hb dX7_feed_125 (by decide) ?_
            refine lv_icmp_ne (tgt := 134) hx hb dX7_feed_126 (by decide) (fun c5 => ?_) (fun c5 => ?_)
            · have E := br_n E c5
              refine lv_iload hx hb dX7_feed_134 (lv_at hl 7 rfl) ?_
              refine lv_iconst (v := 3) hx hb dX7_feed_136 (by decide) ?_
              refine lv_icmp_ne (tgt := 145) hx hb dX7_feed_137 (by decide) (fun c6 => ?_) (fun c6 => ?_)
              · have E := br_n E c6
                refine lv_iload hx hb dX7_feed_145 (lv_at hl 6 rfl) ?_
                exact J147 _ _ _ _ _ _ _ _ E hP hD hS (lv_sub hl [0, 1, 2, 3, 4, 5, 6, 7] rfl)
              · have E := br_p E c6
                refine lv_iload hx hb dX7_feed_140 (lv_at hl 5 rfl) ?_
                refine lv_goto (tgt := 147) hx hb dX7_feed_142 (by decide) ?_
                exact J147 _ _ _ _ _ _ _ _ E hP hD hS (lv_sub hl [0, 1, 2, 3, 4, 5, 6, 7] rfl)
            · have E := br_p E c5
              refine lv_iload hx hb dX7_feed_129 (lv_at hl 4 rfl) ?_
              refine lv_goto (tgt := 147) hx hb dX7_feed_131 (by decide) ?_
              exact J147 _ _ _ _ _ _ _ _ E hP hD hS (lv_sub hl [0, 1, 2, 3, 4, 5, 6, 7] rfl)
          · have E := br_p E c4
            refine lv_iload_n hx hb dX7_feed_119 rfl (lv_at hl 3 rfl) ?_
            refine lv_goto (tgt := 147) hx hb dX7_feed_120 (by decide) ?_
            exact J147 _ _ _ _ _ _ _ _ E hP hD hS (lv_sub hl [0, 1, 2, 3, 4, 5, 6, 7] rfl)
        · have E := br_p E c3
          refine lv_iload_n hx hb dX7_feed_109 rfl (lv_at hl 2 rfl) ?_
          refine lv_goto (tgt := 147) hx hb dX7_feed_110 (by decide) ?_
          exact J147 _ _ _ _ _ _ _ _ E hP hD hS (lv_sub hl [0, 1, 2, 3, 4, 5, 6, 7] rfl)
  refine lv_iload_n hx hb dX7_feed_0 rfl (lv_at hl 1 rfl) ?_
  refine lv_iconst (v := 1) hx hb dX7_feed_1 (by decide) ?_
  refine lv_iconst (v := 5) hx hb dX7_feed_2 (by decide) ?_
  obtain ⟨r7, hF, E⟩ := bn_e E
  refine callSi (wo := (wX7 cI cZ a v_pins v_bars v_taped v_lined v_at v_fault v_name v_low v_high v_tape v_line v_imagePins v_imageBars v_imageName v_imageLow v_imageHigh v_isKept v_to v_carries v_seen v_rank v_one v_other v_thought v_gone v_tied v_part v_lack v_down v_parts v_lacks v_downs v_sort v_items v_item v_carried v_first v_second)) h0 (c_X7_isIn l D cI cZ cS p1 1 5 r7 hF) (gS wq_734 wq_735 wq_8 wq_736) hdX7_isIn ⟨Nat.le_of_ble_eq_true rfl, Nat.le_of_ble_eq_true rfl⟩ ⟨Nat.le_refl _, Nat.le_refl _⟩ hP hD hS hA [] rfl rfl rfl rfl hl.1 rfl (Nat.le_of_ble_eq_true rfl) dX7_feed_3 (fun H locs hP hD hS => ?_)
  refine lv_if_eq (tgt := 67) hx hb dX7_feed_6 (by decide) (fun c8 => ?_) (fun c8 => ?_)
  · have E := br_p E c8
    refine lv_bipush (v := (-2)) hx hb dX7_feed_67 (by decide) ?_
    exact hfin _ (Option.some.inj E) _ _ _ _ hP hD hS dX7_feed_69
  · have E := br_n E c8
    refine lv_iload_n hx hb dX7_feed_9 rfl (lv_at hl 2 rfl) ?_
    refine lv_iconst (v := 0) hx hb dX7_feed_10 (by decide) ?_
    refine lv_sipush (v := 255) hx hb dX7_feed_11 (by decide) ?_
    obtain ⟨r9, hF, E⟩ := bn_e E
    refine callSi (wo := (wX7 cI cZ a v_pins v_bars v_taped v_lined v_at v_fault v_name v_low v_high v_tape v_line v_imagePins v_imageBars v_imageName v_imageLow v_imageHigh v_isKept v_to v_carries v_seen v_rank v_one v_other v_thought v_gone v_tied v_part v_lack v_down v_parts v_lacks v_downs v_sort v_items v_item v_carried v_first v_second)) h0 (c_X7_isIn l D cI cZ cS p2 0 255 r9 hF) (gS wq_734 wq_735 wq_8 wq_736) hdX7_isIn ⟨Nat.le_of_ble_eq_true rfl, Nat.le_of_ble_eq_true rfl⟩ ⟨Nat.le_refl _, Nat.le_refl _⟩ hP hD hS hA [] rfl rfl rfl rfl hl.1 rfl (Nat.le_of_ble_eq_true rfl) dX7_feed_14 (fun H locs hP hD hS => ?_)
    refine lv_if_eq (tgt := 67) hx hb dX7_feed_17 (by decide) (fun c10 => ?_) (fun c10 => ?_)
    · have E := br_p E c10
      refine lv_bipush (v := (-2)) hx hb dX7_feed_67 (by decide) ?_
      exact hfin _ (Option.some.inj E) _ _ _ _ hP hD hS dX7_feed_69
    · have E := br_n E c10
      refine lv_iload_n hx hb dX7_feed_20 rfl (lv_at hl 3 rfl) ?_
      refine lv_iconst (v := 0) hx hb dX7_feed_21 (by decide) ?_
      refine lv_sipush (v := 255) hx hb dX7_feed_22 (by decide) ?_
      obtain ⟨r11, hF, E⟩ := bn_e E
      refine callSi (wo := (wX7 cI cZ a v_pins v_bars v_taped v_lined v_at v_fault v_name v_low v_high v_tape v_line v_imagePins v_imageBars v_imageName v_imageLow v_imageHigh v_isKept v_to v_carries v_seen v_rank v_one v_other v_thought v_gone v_tied v_part v_lack v_down v_parts v_lacks v_downs v_sort v_items v_item v_carried v_first v_second)) h0 (c_X7_isIn l D cI cZ cS p3 0 255 r11 hF) (gS wq_734 wq_735 wq_8 wq_736) hdX7_isIn ⟨Nat.le_of_ble_eq_true rfl, Nat.le_of_ble_eq_true rfl⟩ ⟨Nat.le_refl _, Nat.le_refl _⟩ hP hD hS hA [] rfl rfl rfl rfl hl.1 rfl (Nat.le_of_ble_eq_true rfl) dX7_feed_25 (fun H locs hP hD hS => ?_)
      refine lv_if_eq (tgt := 67) hx hb dX7_feed_28 (by decide) (fun c12 => ?_) (fun c12 => ?_)
      · have E := br_p E c12
        refine lv_bipush (v := (-2)) hx hb dX7_feed_67 (by decide) ?_
        exact hfin _ (Option.some.inj E) _ _ _ _ hP hD hS dX7_feed_69
      · have E := br_n E c12
        refine lv_iload hx hb dX7_feed_31 (lv_at hl 4 rfl) ?_
        refine lv_iconst (v := 0) hx hb dX7_feed_33 (by decide) ?_
        refine lv_sipush (v := 255) hx hb dX7_feed_34 (by decide) ?_
        obtain ⟨r13, hF, E⟩ := bn_e E
        refine callSi (wo := (wX7 cI cZ a v_pins v_bars v_taped v_lined v_at v_fault v_name v_low v_high v_tape v_line v_imagePins v_imageBars v_imageName v_imageLow v_imageHigh v_isKept v_to v_carries v_seen v_rank v_one v_other v_thought v_gone v_tied v_part v_lack v_down v_parts v_lacks v_downs v_sort v_items v_item v_carried v_first v_second)) h0 (c_X7_isIn l D cI cZ cS p4 0 255 r13 hF) (gS wq_734 wq_735 wq_8 wq_736) hdX7_isIn ⟨Nat.le_of_ble_eq_true rfl, Nat.le_of_ble_eq_true rfl⟩ ⟨Nat.le_refl _, Nat.le_refl _⟩ hP hD hS hA [] rfl rfl rfl rfl hl.1 rfl (Nat.le_of_ble_eq_true rfl) dX7_feed_37 (fun H locs hP hD hS => ?_)
        refine lv_if_eq (tgt := 67) hx hb dX7_feed_40 (by decide) (fun c14 => ?_) (fun c14 => ?_)
        · have E := br_p E c14
          refine lv_bipush (v := (-2)) hx hb dX7_feed_67 (by decide) ?_
          exact hfin _ (Option.some.inj E) _ _ _ _ hP hD hS dX7_feed_69
        · have E := br_n E c14
          refine lv_iload hx hb dX7_feed_43 (lv_at hl 5 rfl) ?_
          refine lv_iconst (v := 0) hx hb dX7_feed_45 (by decide) ?_
          refine lv_sipush (v := 255) hx hb dX7_feed_46 (by decide) ?_
          obtain ⟨r15, hF, E⟩ := bn_e E
          refine callSi (wo := (wX7 cI cZ a v_pins v_bars v_taped v_lined v_at v_fault v_name v_low v_high v_tape v_line v_imagePins v_imageBars v_imageName v_imageLow v_imageHigh v_isKept v_to v_carries v_seen v_rank v_one v_other v_thought v_gone v_tied v_part v_lack v_down v_parts v_lacks v_downs v_sort v_items v_item v_carried v_first v_second)) h0 (c_X7_isIn l D cI cZ cS p5 0 255 r15 hF) (gS wq_734 wq_735 wq_8 wq_736) hdX7_isIn ⟨Nat.le_of_ble_eq_true rfl, Nat.le_of_ble_eq_true rfl⟩ ⟨Nat.le_refl _, Nat.le_refl _⟩ hP hD hS hA [] rfl rfl rfl rfl hl.1 rfl (Nat.le_of_ble_eq_true rfl) dX7_feed_49 (fun H locs hP hD hS => ?_)
          refine lv_if_eq (tgt := 67) hx hb dX7_feed_52 (by decide) (fun c16 => ?_) (fun c16 => ?_)
          · have E := br_p E c16
            refine lv_bipush (v := (-2)) hx hb dX7_feed_67 (by decide) ?_
            exact hfin _ (Option.some.inj E) _ _ _ _ hP hD hS dX7_feed_69
          · have E := br_n E c16
            refine lv_iload hx hb dX7_feed_55 (lv_at hl 6 rfl) ?_
            refine lv_iconst (v := 0) hx hb dX7_feed_57 (by decide) ?_
            refine lv_sipush (v := 255) hx hb dX7_feed_58 (by decide) ?_
            obtain ⟨r17, hF, E⟩ := bn_e E
            refine callSi (wo := (wX7 cI cZ a v_pins v_bars v_taped v_lined v_at v_fault v_name v_low v_high v_tape v_line v_imagePins v_imageBars v_imageName v_imageLow v_imageHigh v_isKept v_to v_carries v_seen v_rank v_one v_other v_thought v_gone v_tied v_part v_lack v_down v_parts v_lacks v_downs v_sort v_items v_item v_carried v_first v_second)) h0 (c_X7_isIn l D cI cZ cS p6 0 255 r17 hF) (gS wq_734 wq_735 wq_8 wq_736) hdX7_isIn ⟨Nat.le_of_ble_eq_true rfl, Nat.le_of_ble_eq_true rfl⟩ ⟨Nat.le_refl _, Nat.le_refl _⟩ hP hD hS hA [] rfl rfl rfl rfl hl.1 rfl (Nat.le_of_ble_eq_true rfl) dX7_feed_61 (fun H locs hP hD hS => ?_)
            refine lv_if_ne (tgt := 70) hx hb dX7_feed_64 (by decide) (fun c18 => ?_) (fun c18 => ?_)
            · have E := br_n E c18
              refine lv_aload_n hx hb dX7_feed_70 rfl (lv_at hl 0 rfl) ?_
              refine gf_X7_155 h0 hP 0 rfl rfl dX7_feed_71 ?_
              refine lv_iload_n hx hb dX7_feed_74 rfl (lv_at hl 1 rfl) ?_
              refine lv_iadd hx hb dX7_feed_75 ?_
              refine lv_bipush (v := 30) hx hb dX7_feed_76 (by decide) ?_
              refine lv_icmp_le (tgt := 84) hx hb dX7_feed_78 (by decide) (fun c19 => ?_) (fun c19 => ?_)
              · have E := br_p E c19
                refine lv_iconst (v := 0) hx hb dX7_feed_84 (by decide) ?_
                refine lv_istore (lv' := [(7, .int 0), (0, .ref (a 0)), (1, .int p1), (2, .int p2), (3, .int p3), (4, .int p4), (5, .int p5), (6, .int p6)]) hx hb dX7_feed_85 hl (by decide) rfl (fun ls hl => ?_)
                exact J87 5000 _ _ _ _ _ _ E hP hD hS (lv_sub hl [1, 2, 3, 4, 5, 6, 7, 0] rfl)
              · have E := br_n E c19
                refine lv_bipush (v := (-4)) hx hb dX7_feed_81 (by decide) ?_
                exact hfin _ (Option.some.inj E) _ _ _ _ hP hD hS dX7_feed_83
            · have E := br_p E c18
              refine lv_bipush (v := (-2)) hx hb dX7_feed_67 (by decide) ?_
              exact hfin _ (Option.some.inj E) _ _ _ _ hP hD hS dX7_feed_69
theorem hdX7_isLetter : yX7_isLetter.cls = RX7 ∧ yX7_isLetter.cls ≠ "java/lang/invoke/MethodHandle" ∧ yX7_isLetter.cls ≠ "java/lang/invoke/VarHandle" ∧ (parseMethodDescriptor yX7_isLetter.desc).map (fun d => d.parameters.length) = some 1 := by decide +kernel
noncomputable def FX7_isLetter (p1 : Int32) (v_taped : Int32) (v_tape : Nat → Int32) : Option (Int32) := (if v_taped ≤ p1 then (some 0) else (gd (vp_in p1 30) ((FX7_isIn (v_tape p1.toNatClampNeg) 97 122).bind (fun r3 => (if r3 = 0 then (some 0) else (some 1))))))
set_option maxHeartbeats 4000000 in
set_option maxRecDepth 100000 in
theorem c_X7_isLetter (l : Launch) (D : va_G) (cI cZ cS : ClassId) (a : Nat → Nat) (v_pins v_bars v_taped v_lined v_at v_fault : Int32) (v_name v_low v_high v_tape v_line : Nat → Int32) (v_imagePins v_imageBars : Int32) (v_imageName v_imageLow v_imageHigh : Nat → Int32) (v_isKept : Int32) (v_to v_carries : Nat → Int32) (v_seen v_rank : Int32) (v_one v_other : Nat → Int32) (v_thought v_gone : Int32) (v_tied v_part v_lack v_down : Nat → Int32) (v_parts v_lacks v_downs : Int32) (v_sort v_items v_item v_carried : Nat → Int32) (v_first v_second : Int32) (p1 : Int32) (u : Int32) (hF : FX7_isLetter p1 v_taped v_tape = some u) : MCi l D (tyL cI cZ cS) yX7_isLetter cX7_isLetter 2 (some .boolean) 1 22 [.ref (a 0), .int p1] (wX7 cI cZ a v_pins v_bars v_taped v_lined v_at v_fault v_name v_low v_high v_tape v_line v_imagePins v_imageBars v_imageName v_imageLow v_imageHigh v_isKept v_to v_carries v_seen v_rank v_one v_other v_thought v_gone v_tied v_part v_lack v_down v_parts v_lacks v_downs v_sort v_items v_item v_carried v_first v_second) (wX7 cI cZ a v_pins v_bars v_taped v_lined v_at v_fault v_name v_low v_high v_tape v_line v_imagePins v_imageBars v_imageName v_imageLow v_imageHigh v_isKept v_to v_carries v_seen v_rank v_one v_other v_thought v_gone v_tied v_part v_lack v_down v_parts v_lacks v_downs v_sort v_items v_item v_carried v_first v_second) u := by
  refine MCz.mk (by decide) (Nat.le_of_ble_eq_true rfl) ?_
  intro p e s m args below meth c A ls Q h0 hP hD hA hS hl hfin0
  have hfin : ∀ (u' : Int32), u' = u → ∀ (H : Heap) (locs : List Loc) (ls : Array Slot) (pc : Nat), (u' = 0 ∨ u' = 1) → va_P D vwCl (wX7 cI cZ a v_pins v_bars v_taped v_lined v_at v_fault v_name v_low v_high v_tape v_line v_imagePins v_imageBars v_imageName v_imageLow v_imageHigh v_isKept v_to v_carries v_seen v_rank v_one v_other v_thought v_gone v_tied v_part v_lack v_down v_parts v_lacks v_downs v_sort v_items v_item v_carried v_first v_second) H → va_D A (wX7 cI cZ a v_pins v_bars v_taped v_lined v_at v_fault v_name v_low v_high v_tape v_line v_imagePins v_imageBars v_imageName v_imageLow v_imageHigh v_isKept v_to v_carries v_seen v_rank v_one v_other v_thought v_gone v_tied v_part v_lack v_down v_parts v_lacks v_downs v_sort v_items v_item v_carried v_first v_second) → va_S A s.heap H locs → decode cX7_isLetter pc = .ok (.ireturn, 1) → W p l e (uR 1 22) s m args below meth c H locs 0 0 Q (F0 m pc ls [.int u']) := by intro u' hu; subst hu; exact hfin0
  clear hfin0
  obtain ⟨hx, hb, hr, hlk, hml, hown, hts, hK⟩ := id h0
  have hl : lv_has ls 2 [(0, .ref (a 0)), (1, .int p1)] := hl
  have E := hF
  refine lv_iload_n hx hb dX7_isLetter_0 rfl (lv_at hl 1 rfl) ?_
  refine lv_aload_n hx hb dX7_isLetter_1 rfl (lv_at hl 0 rfl) ?_
  refine gf_X7_155 h0 hP 0 rfl rfl dX7_isLetter_2 ?_
  refine lv_icmp_ge (tgt := 28) hx hb dX7_isLetter_5 (by decide) (fun c1 => ?_) (fun c1 => ?_)
  · have E := br_p E c1
    refine lv_iconst (v := 0) hx hb dX7_isLetter_28 (by decide) ?_
    exact hfin _ (Option.some.inj E) _ _ _ _ (Or.inl rfl) hP hD hS dX7_isLetter_29
  · have E := br_n E c1
    refine lv_aload_n hx hb dX7_isLetter_8 rfl (lv_at hl 0 rfl) ?_
    refine gf_X7_19 h0 hP 0 rfl rfl dX7_isLetter_9 ?_
    refine lv_iload_n hx hb dX7_isLetter_12 rfl (lv_at hl 1 rfl) ?_
    obtain ⟨g2, E⟩ := gd_e E
    refine aldi hx hb hK hP 4 rfl rfl g2 dX7_isLetter_13 ?_
    refine lv_bipush (v := 97) hx hb dX7_isLetter_14 (by decide) ?_
    refine lv_bipush (v := 122) hx hb dX7_isLetter_16 (by decide) ?_
    obtain ⟨r3, hF, E⟩ := bn_e E
    refine callSi (wo := (wX7 cI cZ a v_pins v_bars v_taped v_lined v_at v_fault v_name v_low v_high v_tape v_line v_imagePins v_imageBars v_imageName v_imageLow v_imageHigh v_isKept v_to v_carries v_seen v_rank v_one v_other v_thought v_gone v_tied v_part v_lack v_down v_parts v_lacks v_downs v_sort v_items v_item v_carried v_first v_second)) h0 (c_X7_isIn l D cI cZ cS (v_tape p1.toNatClampNeg) 97 122 r3 hF) (gS wq_734 wq_735 wq_8 wq_736) hdX7_isIn ⟨Nat.le_of_ble_eq_true rfl, Nat.le_of_ble_eq_true rfl⟩ ⟨Nat.le_refl _, Nat.le_refl _⟩ hP hD hS hA [] rfl rfl rfl rfl hl.1 rfl (Nat.le_of_ble_eq_true rfl) dX7_isLetter_18 (fun H locs hP hD hS => ?_)
    refine lv_if_eq (tgt := 28) hx hb dX7_isLetter_21 (by decide) (fun c4 => ?_) (fun c4 => ?_)
    · have E := br_p E c4
      refine lv_iconst (v := 0) hx hb dX7_isLetter_28 (by decide) ?_
      exact hfin _ (Option.some.inj E) _ _ _ _ (Or.inl rfl) hP hD hS dX7_isLetter_29
    · have E := br_n E c4
      refine lv_iconst (v := 1) hx hb dX7_isLetter_24 (by decide) ?_
      refine lv_goto (tgt := 29) hx hb dX7_isLetter_25 (by decide) ?_
      exact hfin _ (Option.some.inj E) _ _ _ _ (Or.inr rfl) hP hD hS dX7_isLetter_29
theorem hdX7_fails : yX7_fails.cls = RX7 ∧ yX7_fails.cls ≠ "java/lang/invoke/MethodHandle" ∧ yX7_fails.cls ≠ "java/lang/invoke/VarHandle" ∧ (parseMethodDescriptor yX7_fails.desc).map (fun d => d.parameters.length) = some 1 := by decide +kernel
noncomputable def FX7_fails (p1 : Int32) (v_fault : Int32) : Option (Int32) := (if 0 ≤ v_fault then (some v_fault) else (some p1))
set_option maxHeartbeats 4000000 in
set_option maxRecDepth 100000 in
theorem c_X7_fails (l : Launch) (D : va_G) (cI cZ cS : ClassId) (a : Nat → Nat) (v_pins v_bars v_taped v_lined v_at v_fault : Int32) (v_name v_low v_high v_tape v_line : Nat → Int32) (v_imagePins v_imageBars : Int32) (v_imageName v_imageLow v_imageHigh : Nat → Int32) (v_isKept : Int32) (v_to v_carries : Nat → Int32) (v_seen v_rank : Int32) (v_one v_other : Nat → Int32) (v_thought v_gone : Int32) (v_tied v_part v_lack v_down : Nat → Int32) (v_parts v_lacks v_downs : Int32) (v_sort v_items v_item v_carried : Nat → Int32) (v_first v_second : Int32) (p1 : Int32) (u : Int32) (hF : FX7_fails p1 v_fault = some u) : MCv l D (tyL cI cZ cS) yX7_fails cX7_fails 2 none 0 0 [.ref (a 0), .int p1] (wX7 cI cZ a v_pins v_bars v_taped v_lined v_at v_fault v_name v_low v_high v_tape v_line v_imagePins v_imageBars v_imageName v_imageLow v_imageHigh v_isKept v_to v_carries v_seen v_rank v_one v_other v_thought v_gone v_tied v_part v_lack v_down v_parts v_lacks v_downs v_sort v_items v_item v_carried v_first v_second) (wX7 cI cZ a v_pins v_bars v_taped v_lined v_at u v_name v_low v_high v_tape v_line v_imagePins v_imageBars v_imageName v_imageLow v_imageHigh v_isKept v_to v_carries v_seen v_rank v_one v_other v_thought v_gone v_tied v_part v_lack v_down v_parts v_lacks v_downs v_sort v_items v_item v_carried v_first v_second) := by
  refine MCv.mk (by decide) (Nat.le_of_ble_eq_true rfl) ?_
  intro p e s m args below meth c A ls Q h0 hP hD hA hS hl hfin0
  have hfin : ∀ (u' : Int32), u' = u → ∀ (H : Heap) (locs : List Loc) (ls : Array Slot) (pc : Nat), va_P D vwCl (wX7 cI cZ a v_pins v_bars v_taped v_lined v_at u' v_name v_low v_high v_tape v_line v_imagePins v_imageBars v_imageName v_imageLow v_imageHigh v_isKept v_to v_carries v_seen v_rank v_one v_other v_thought v_gone v_tied v_part v_lack v_down v_parts v_lacks v_downs v_sort v_items v_item v_carried v_first v_second) H → va_D A (wX7 cI cZ a v_pins v_bars v_taped v_lined v_at u' v_name v_low v_high v_tape v_line v_imagePins v_imageBars v_imageName v_imageLow v_imageHigh v_isKept v_to v_carries v_seen v_rank v_one v_other v_thought v_gone v_tied v_part v_lack v_down v_parts v_lacks v_downs v_sort v_items v_item v_carried v_first v_second) → va_S A s.heap H locs → decode cX7_fails pc = .ok (.return_, 1) → W p l e (uR 0 0) s m args below meth c H locs 0 0 Q (F0 m pc ls []) := by intro u' hu; subst hu; exact hfin0
  clear hfin0
  obtain ⟨hx, hb, hr, hlk, hml, hown, hts, hK⟩ := id h0
  have hl : lv_has ls 2 [(0, .ref (a 0)), (1, .int p1)] := hl
  have E := hF
  refine lv_aload_n hx hb dX7_fails_0 rfl (lv_at hl 0 rfl) ?_
  refine gf_X7_219 h0 hP 0 rfl rfl dX7_fails_1 ?_
  refine lv_if_ge (tgt := 12) hx hb dX7_fails_4 (by decide) (fun c1 => ?_) (fun c1 => ?_)
  · have E := br_p E c1
    exact hfin _ (Option.some.inj E) _ _ _ _ hP hD hS dX7_fails_12
  · have E := br_n E c1
    refine lv_aload_n hx hb dX7_fails_7 rfl (lv_at hl 0 rfl) ?_
    refine lv_iload_n hx hb dX7_fails_8 rfl (lv_at hl 1 rfl) ?_
    refine pf_X7_219 (wo := (wX7 cI cZ a v_pins v_bars v_taped v_lined v_at p1 v_name v_low v_high v_tape v_line v_imagePins v_imageBars v_imageName v_imageLow v_imageHigh v_isKept v_to v_carries v_seen v_rank v_one v_other v_thought v_gone v_tied v_part v_lack v_down v_parts v_lacks v_downs v_sort v_items v_item v_carried v_first v_second)) h0 hP hD hS 0 rfl (Nat.le_of_ble_eq_true rfl) rfl dX7_fails_9 (fun H locs hP hD hS => ?_)
    exact hfin _ (Option.some.inj E) _ _ _ _ hP hD hS dX7_fails_12
theorem hdX7_word : yX7_word.cls = RX7 ∧ yX7_word.cls ≠ "java/lang/invoke/MethodHandle" ∧ yX7_word.cls ≠ "java/lang/invoke/VarHandle" ∧ (parseMethodDescriptor yX7_word.desc).map (fun d => d.parameters.length) = some 0 := by decide +kernel
noncomputable def FX7_word_b102 (v_taped : Int32) (v_tape : Nat → Int32)  (v_at v_fault v_first v_second : Int32) : Option (Int32 × Int32 × Int32 × Int32) := ((FX7_fails v_first v_fault).bind (fun r1 => (some (v_at, r1, v_first, v_second))))
noncomputable def FX7_word_b46 (v_taped : Int32) (v_tape : Nat → Int32)  (k46 : Int32 → Int32 → Int32 → Int32 → Option (Int32 × Int32 × Int32 × Int32)) (v_at v_fault v_first v_second : Int32) : Option (Int32 × Int32 × Int32 × Int32) := ((FX7_isLetter v_at v_taped v_tape).bind (fun r2 => (if r2 = 0 then (if v_at = v_first then (FX7_word_b102 v_taped v_tape  v_at v_fault v_first v_at) else (if (v_at - v_first) ≤ 4 then (some (v_at, v_fault, v_first, v_at)) else (FX7_word_b102 v_taped v_tape  v_at v_fault v_first v_at))) else (k46 (v_at + 1) v_fault v_first v_second))))
noncomputable def FX7_word_h46 (v_taped : Int32) (v_tape : Nat → Int32)  : Nat → Int32 → Int32 → Int32 → Int32 → Option (Int32 × Int32 × Int32 × Int32)
  | 0 => fun _ _ _ _ => none
  | n + 1 => fun v_at v_fault v_first v_second => FX7_word_b46 v_taped v_tape  (FX7_word_h46 v_taped v_tape  n) v_at v_fault v_first v_second
noncomputable def FX7_word_b38 (v_taped : Int32) (v_tape : Nat → Int32)  (v_at v_fault v_first v_second : Int32) : Option (Int32 × Int32 × Int32 × Int32) := (FX7_word_h46 v_taped v_tape  5000 v_at v_fault v_at v_second)
noncomputable def FX7_word_b0 (v_taped : Int32) (v_tape : Nat → Int32)  (k0 : Int32 → Int32 → Int32 → Int32 → Option (Int32 × Int32 × Int32 × Int32)) (v_at v_fault v_first v_second : Int32) : Option (Int32 × Int32 × Int32 × Int32) := (if v_taped ≤ v_at then (FX7_word_b38 v_taped v_tape  v_at v_fault v_first v_second) else (gd (vp_in v_at 30) (if (v_tape v_at.toNatClampNeg) = 32 then (k0 (v_at + 1) v_fault v_first v_second) else (FX7_word_b38 v_taped v_tape  v_at v_fault v_first v_second))))
noncomputable def FX7_word_h0 (v_taped : Int32) (v_tape : Nat → Int32)  : Nat → Int32 → Int32 → Int32 → Int32 → Option (Int32 × Int32 × Int32 × Int32)
  | 0 => fun _ _ _ _ => none
  | n + 1 => fun v_at v_fault v_first v_second => FX7_word_b0 v_taped v_tape  (FX7_word_h0 v_taped v_tape  n) v_at v_fault v_first v_second
noncomputable def FX7_word (v_taped v_at v_fault : Int32) (v_tape : Nat → Int32) (v_first v_second : Int32) : Option (Int32 × Int32 × Int32 × Int32) := (FX7_word_h0 v_taped v_tape  5000 v_at v_fault v_first v_second)
set_option maxHeartbeats 4000000 in
set_option maxRecDepth 100000 in
theorem c_X7_word (l : Launch) (D : va_G) (cI cZ cS : ClassId) (a : Nat → Nat) (v_pins v_bars v_taped v_lined v_at v_fault : Int32) (v_name v_low v_high v_tape v_line : Nat → Int32) (v_imagePins v_imageBars : Int32) (v_imageName v_imageLow v_imageHigh : Nat → Int32) (v_isKept : Int32) (v_to v_carries : Nat → Int32) (v_seen v_rank : Int32) (v_one v_other : Nat → Int32) (v_thought v_gone : Int32) (v_tied v_part v_lack v_down : Nat → Int32) (v_parts v_lacks v_downs : Int32) (v_sort v_items v_item v_carried : Nat → Int32) (v_first v_second : Int32)  (u : Int32 × Int32 × Int32 × Int32) (hF : FX7_word v_taped v_at v_fault v_tape v_first v_second = some u) : MCv l D (tyL cI cZ cS) yX7_word cX7_word 1 none 2 43 [.ref (a 0)] (wX7 cI cZ a v_pins v_bars v_taped v_lined v_at v_fault v_name v_low v_high v_tape v_line v_imagePins v_imageBars v_imageName v_imageLow v_imageHigh v_isKept v_to v_carries v_seen v_rank v_one v_other v_thought v_gone v_tied v_part v_lack v_down v_parts v_lacks v_downs v_sort v_items v_item v_carried v_first v_second) (wX7 cI cZ a v_pins v_bars v_taped v_lined u.1 u.2.1 v_name v_low v_high v_tape v_line v_imagePins v_imageBars v_imageName v_imageLow v_imageHigh v_isKept v_to v_carries v_seen v_rank v_one v_other v_thought v_gone v_tied v_part v_lack v_down v_parts v_lacks v_downs v_sort v_items v_item v_carried u.2.2.1 u.2.2.2) := by
  refine MCv.mk (by decide) (Nat.le_of_ble_eq_true rfl) ?_
  intro p e s m args below meth c A ls Q h0 hP hD hA hS hl hfin0
  have hfin : ∀ (u' : Int32 × Int32 × Int32 × Int32), u' = u → ∀ (H : Heap) (locs : List Loc) (ls : Array Slot) (pc : Nat), va_P D vwCl (wX7 cI cZ a v_pins v_bars v_taped v_lined u'.1 u'.2.1 v_name v_low v_high v_tape v_line v_imagePins v_imageBars v_imageName v_imageLow v_imageHigh v_isKept v_to v_carries v_seen v_rank v_one v_other v_thought v_gone v_tied v_part v_lack v_down v_parts v_lacks v_downs v_sort v_items v_item v_carried u'.2.2.1 u'.2.2.2) H → va_D A (wX7 cI cZ a v_pins v_bars v_taped v_lined u'.1 u'.2.1 v_name v_low v_high v_tape v_line v_imagePins v_imageBars v_imageName v_imageLow v_imageHigh v_isKept v_to v_carries v_seen v_rank v_one v_other v_thought v_gone v_tied v_part v_lack v_down v_parts v_lacks v_downs v_sort v_items v_item v_carried u'.2.2.1 u'.2.2.2) → va_S A s.heap H locs → decode cX7_word pc = .ok (.return_, 1) → W p l e (uR 2 43) s m args below meth c H locs 0 0 Q (F0 m pc ls []) := by intro u' hu; subst hu; exact hfin0
  clear hfin0
  obtain ⟨hx, hb, hr, hlk, hml, hown, hts, hK⟩ := id h0
  have hl : lv_has ls 1 [(0, .ref (a 0))] := hl
  have E := hF
  have J102 : ∀ (v_at v_fault v_first v_second : Int32) (H : Heap) (locs : List Loc) (ls : Array Slot), FX7_word_b102 v_taped v_tape  v_at v_fault v_first v_second = some u → va_P D vwCl (wX7 cI cZ a v_pins v_bars v_taped v_lined v_at v_fault v_name v_low v_high v_tape v_line v_imagePins v_imageBars v_imageName v_imageLow v_imageHigh v_isKept v_to v_carries v_seen v_rank v_one v_other v_thought v_gone v_tied v_part v_lack v_down v_parts v_lacks v_downs v_sort v_items v_item v_carried v_first v_second) H → va_D A (wX7 cI cZ a v_pins v_bars v_taped v_lined v_at v_fault v_name v_low v_high v_tape v_line v_imagePins v_imageBars v_imageName v_imageLow v_imageHigh v_isKept v_to v_carries v_seen v_rank v_one v_other v_thought v_gone v_tied v_part v_lack v_down v_parts v_lacks v_downs v_sort v_items v_item v_carried v_first v_second) → va_S A s.heap H locs → lv_has ls 1 [(0, .ref (a 0))] → W p l e (uR 2 43) s m args below meth c H locs 0 0 Q (F0 m 102 ls []) := by
    intro v_at v_fault v_first v_second H locs ls E hP hD hS hl
    refine lv_aload_n hx hb dX7_word_102 rfl (lv_at hl 0 rfl) ?_
    refine lv_aload_n hx hb dX7_word_103 rfl (lv_at hl 0 rfl) ?_
    refine gf_X7_225 h0 hP 0 rfl rfl dX7_word_104 ?_
    obtain ⟨r1, hF, E⟩ := bn_e E
    refine callVfv (wo := (wX7 cI cZ a v_pins v_bars v_taped v_lined v_at r1 v_name v_low v_high v_tape v_line v_imagePins v_imageBars v_imageName v_imageLow v_imageHigh v_isKept v_to v_carries v_seen v_rank v_one v_other v_thought v_gone v_tied v_part v_lack v_down v_parts v_lacks v_downs v_sort v_items v_item v_carried v_first v_second)) h0 (c_X7_fails l D cI cZ cS a v_pins v_bars v_taped v_lined v_at v_fault v_name v_low v_high v_tape v_line v_imagePins v_imageBars v_imageName v_imageLow v_imageHigh v_isKept v_to v_carries v_seen v_rank v_one v_other v_thought v_gone v_tied v_part v_lack v_down v_parts v_lacks v_downs v_sort v_items v_item v_carried v_first v_second v_first r1 hF) (gV wq_930 wq_932 wp_54 wq_8 wq_933) hdX7_fails ⟨Nat.le_of_ble_eq_true rfl, Nat.le_of_ble_eq_true rfl⟩ ⟨Nat.le_refl _, Nat.le_refl _⟩ hP hD hS hA 0 7 rfl rfl rfl hl.1 rfl (Nat.le_of_ble_eq_true rfl) dX7_word_107 (fun H locs hP hD hS => ?_)
    exact hfin _ (Option.some.inj E) _ _ _ _ hP hD hS dX7_word_110
  have J46 : ∀ (n46 : Nat) (v_at v_fault v_first v_second : Int32) (H : Heap) (locs : List Loc) (ls : Array Slot), FX7_word_h46 v_taped v_tape  n46 v_at v_fault v_first v_second = some u → va_P D vwCl (wX7 cI cZ a v_pins v_bars v_taped v_lined v_at v_fault v_name v_low v_high v_tape v_line v_imagePins v_imageBars v_imageName v_imageLow v_imageHigh v_isKept v_to v_carries v_seen v_rank v_one v_other v_thought v_gone v_tied v_part v_lack v_down v_parts v_lacks v_downs v_sort v_items v_item v_carried v_first v_second) H → va_D A (wX7 cI cZ a v_pins v_bars v_taped v_lined v_at v_fault v_name v_low v_high v_tape v_line v_imagePins v_imageBars v_imageName v_imageLow v_imageHigh v_isKept v_to v_carries v_seen v_rank v_one v_other v_thought v_gone v_tied v_part v_lack v_down v_parts v_lacks v_downs v_sort v_items v_item v_carried v_first v_second) → va_S A s.heap H locs → lv_has ls 1 [(0, .ref (a 0))] → W p l e (uR 2 43) s m args below meth c H locs 0 0 Q (F0 m 46 ls []) := by
    intro n46
    induction n46 with
    | zero => intro v_at v_fault v_first v_second H locs ls E; exact none_e E
    | succ n46 ih46 =>
      intro v_at v_fault v_first v_second H locs ls E hP hD hS hl
      have E : FX7_word_b46 v_taped v_tape  (FX7_word_h46 v_taped v_tape  n46) v_at v_fault v_first v_second = some u := E
      refine lv_aload_n hx hb dX7_word_46 rfl (lv_at hl 0 rfl) ?_
      refine lv_aload_n hx hb dX7_word_47 rfl (lv_at hl 0 rfl) ?_
      refine gf_X7_222 h0 hP 0 rfl rfl dX7_word_48 ?_
      obtain ⟨r2, hF, E⟩ := bn_e E
      refine callVfi (wo := (wX7 cI cZ a v_pins v_bars v_taped v_lined v_at v_fault v_name v_low v_high v_tape v_line v_imagePins v_imageBars v_imageName v_imageLow v_imageHigh v_isKept v_to v_carries v_seen v_rank v_one v_other v_thought v_gone v_tied v_part v_lack v_down v_parts v_lacks v_downs v_sort v_items v_item v_carried v_first v_second)) h0 (c_X7_isLetter l D cI cZ cS a v_pins v_bars v_taped v_lined v_at v_fault v_name v_low v_high v_tape v_line v_imagePins v_imageBars v_imageName v_imageLow v_imageHigh v_isKept v_to v_carries v_seen v_rank v_one v_other v_thought v_gone v_tied v_part v_lack v_down v_parts v_lacks v_downs v_sort v_items v_item v_carried v_first v_second v_at r2 hF) (gV wq_926 wq_928 wp_53 wq_8 wq_929) hdX7_isLetter ⟨Nat.le_of_ble_eq_true rfl, Nat.le_of_ble_eq_true rfl⟩ ⟨Nat.le_refl _, Nat.le_refl _⟩ hP hD hS hA 0 7 rfl rfl rfl hl.1 rfl (Nat.le_of_ble_eq_true rfl) dX7_word_51 (fun H locs hP hD hS => ?_)
      refine lv_if_eq (tgt := 70) hx hb dX7_word_54 (by decide) (fun c3 => ?_) (fun c3 => ?_)
      · have E := br_p E c3
        refine lv_aload_n hx hb dX7_word_70 rfl (lv_at hl 0 rfl) ?_
        refine lv_aload_n hx hb dX7_word_71 rfl (lv_at hl 0 rfl) ?_
        refine gf_X7_222 h0 hP 0 rfl rfl dX7_word_72 ?_
        refine pf_X7_231 (wo := (wX7 cI cZ a v_pins v_bars v_taped v_lined v_at v_fault v_name v_low v_high v_tape v_line v_imagePins v_imageBars v_imageName v_imageLow v_imageHigh v_isKept v_to v_carries v_seen v_rank v_one v_other v_thought v_gone v_tied v_part v_lack v_down v_parts v_lacks v_downs v_sort v_items v_item v_carried v_first v_at)) h0 hP hD hS 0 rfl (Nat.le_of_ble_eq_true rfl) rfl dX7_word_75 (fun H locs hP hD hS => ?_)
        refine lv_aload_n hx hb dX7_word_78 rfl (lv_at hl 0 rfl) ?_
        refine gf_X7_231 h0 hP 0 rfl rfl dX7_word_79 ?_
        refine lv_aload_n hx hb dX7_word_82 rfl (lv_at hl 0 rfl) ?_
        refine gf_X7_225 h0 hP 0 rfl rfl dX7_word_83 ?_
        refine lv_icmp_eq (tgt := 102) hx hb dX7_word_86 (by decide) (fun c4 => ?_) (fun c4 => ?_)
        · have E := br_p E c4
          exact J102 _ _ _ _ _ _ _ E hP hD hS (lv_sub hl [0] rfl)
        · have E := br_n E c4
          refine lv_aload_n hx hb dX7_word_89 rfl (lv_at hl 0 rfl) ?_
          refine gf_X7_231 h0 hP 0 rfl rfl dX7_word_90 ?_
          refine lv_aload_n hx hb dX7_word_93 rfl (lv_at hl 0 rfl) ?_
          refine gf_X7_225 h0 hP 0 rfl rfl dX7_word_94 ?_
          refine lv_isub hx hb dX7_word_97 ?_
          refine lv_iconst (v := 4) hx hb dX7_word_98 (by decide) ?_
          refine lv_icmp_le (tgt := 110) hx hb dX7_word_99 (by decide) (fun c5 => ?_) (fun c5 => ?_)
          · have E := br_p E c5
            exact hfin _ (Option.some.inj E) _ _ _ _ hP hD hS dX7_word_110
          · have E := br_n E c5
            exact J102 _ _ _ _ _ _ _ E hP hD hS (lv_sub hl [0] rfl)
      · have E := br_n E c3
        refine lv_aload_n hx hb dX7_word_57 rfl (lv_at hl 0 rfl) ?_
        refine lv_dup hx hb dX7_word_58 rfl ?_
        refine gf_X7_222 h0 hP 0 rfl rfl dX7_word_59 ?_
        refine lv_iconst (v := 1) hx hb dX7_word_62 (by decide) ?_
        refine lv_iadd hx hb dX7_word_63 ?_
        refine pf_X7_222 (wo := (wX7 cI cZ a v_pins v_bars v_taped v_lined (v_at + 1) v_fault v_name v_low v_high v_tape v_line v_imagePins v_imageBars v_imageName v_imageLow v_imageHigh v_isKept v_to v_carries v_seen v_rank v_one v_other v_thought v_gone v_tied v_part v_lack v_down v_parts v_lacks v_downs v_sort v_items v_item v_carried v_first v_second)) h0 hP hD hS 0 rfl (Nat.le_of_ble_eq_true rfl) rfl dX7_word_64 (fun H locs hP hD hS => ?_)
        refine lv_goto (tgt := 46) hx hb dX7_word_67 (by decide) ?_
        exact ih46 _ _ _ _ _ _ _ E hP hD hS (lv_sub hl [0] rfl)
  have J38 : ∀ (v_at v_fault v_first v_second : Int32) (H : Heap) (locs : List Loc) (ls : Array Slot), FX7_word_b38 v_taped v_tape  v_at v_fault v_first v_second = some u → va_P D vwCl (wX7 cI cZ a v_pins v_bars v_taped v_lined v_at v_fault v_name v_low v_high v_tape v_line v_imagePins v_imageBars v_imageName v_imageLow v_imageHigh v_isKept v_to v_carries v_seen v_rank v_one v_other v_thought v_gone v_tied v_part v_lack v_down v_parts v_lacks v_downs v_sort v_items v_item v_carried v_first v_second) H → va_D A (wX7 cI cZ a v_pins v_bars v_taped v_lined v_at v_fault v_name v_low v_high v_tape v_line v_imagePins v_imageBars v_imageName v_imageLow v_imageHigh v_isKept v_to v_carries v_seen v_rank v_one v_other v_thought v_gone v_tied v_part v_lack v_down v_parts v_lacks v_downs v_sort v_items v_item v_carried v_first v_second) → va_S A s.heap H locs → lv_has ls 1 [(0, .ref (a 0))] → W p l e (uR 2 43) s m args below meth c H locs 0 0 Q (F0 m 38 ls []) := by
    intro v_at v_fault v_first v_second H locs ls E hP hD hS hl
    refine lv_aload_n hx hb dX7_word_38 rfl (lv_at hl 0 rfl) ?_
    refine lv_aload_n hx hb dX7_word_39 rfl (lv_at hl 0 rfl) ?_
    refine gf_X7_222 h0 hP 0 rfl rfl dX7_word_40 ?_
    refine pf_X7_225 (wo := (wX7 cI cZ a v_pins v_bars v_taped v_lined v_at v_fault v_name v_low v_high v_tape v_line v_imagePins v_imageBars v_imageName v_imageLow v_imageHigh v_isKept v_to v_carries v_seen v_rank v_one v_other v_thought v_gone v_tied v_part v_lack v_down v_parts v_lacks v_downs v_sort v_items v_item v_carried v_at v_second)) h0 hP hD hS 0 rfl (Nat.le_of_ble_eq_true rfl) rfl dX7_word_43 (fun H locs hP hD hS => ?_)
    exact J46 5000 _ _ _ _ _ _ _ E hP hD hS (lv_sub hl [0] rfl)
  have J0 : ∀ (n0 : Nat) (v_at v_fault v_first v_second : Int32) (H : Heap) (locs : List Loc) (ls : Array Slot), FX7_word_h0 v_taped v_tape  n0 v_at v_fault v_first v_second = some u → va_P D vwCl (wX7 cI cZ a v_pins v_bars v_taped v_lined v_at v_fault v_name v_low v_high v_tape v_line v_imagePins v_imageBars v_imageName v_imageLow v_imageHigh v_isKept v_to v_carries v_seen v_rank v_one v_other v_thought v_gone v_tied v_part v_lack v_down v_parts v_lacks v_downs v_sort v_items v_item v_carried v_first v_second) H → va_D A (wX7 cI cZ a v_pins v_bars v_taped v_lined v_at v_fault v_name v_low v_high v_tape v_line v_imagePins v_imageBars v_imageName v_imageLow v_imageHigh v_isKept v_to v_carries v_seen v_rank v_one v_other v_thought v_gone v_tied v_part v_lack v_down v_parts v_lacks v_downs v_sort v_items v_item v_carried v_first v_second) → va_S A s.heap H locs → lv_has ls 1 [(0, .ref (a 0))] → W p l e (uR 2 43) s m args below meth c H locs 0 0 Q (F0 m 0 ls []) := by
    intro n0
    induction n0 with
    | zero => intro v_at v_fault v_first v_second H locs ls E; exact none_e E
    | succ n0 ih0 =>
      intro v_at v_fault v_first v_second H locs ls E hP hD hS hl
      have E : FX7_word_b0 v_taped v_tape  (FX7_word_h0 v_taped v_tape  n0) v_at v_fault v_first v_second = some u := E
      refine lv_aload_n hx hb dX7_word_0 rfl (lv_at hl 0 rfl) ?_
      refine gf_X7_222 h0 hP 0 rfl rfl dX7_word_1 ?_
      refine lv_aload_n hx hb dX7_word_4 rfl (lv_at hl 0 rfl) ?_
      refine gf_X7_155 h0 hP 0 rfl rfl dX7_word_5 ?_
      refine lv_icmp_ge (tgt := 38) hx hb dX7_word_8 (by decide) (fun c6 => ?_) (fun c6 => ?_)
      · have E := br_p E c6
        exact J38 _ _ _ _ _ _ _ E hP hD hS (lv_sub hl [0] rfl)
      · have E := br_n E c6
        refine lv_aload_n hx hb dX7_word_11 rfl (lv_at hl 0 rfl) ?_
        refine gf_X7_19 h0 hP 0 rfl rfl dX7_word_12 ?_
        refine lv_aload_n hx hb dX7_word_15 rfl (lv_at hl 0 rfl) ?_
        refine gf_X7_222 h0 hP 0 rfl rfl dX7_word_16 ?_
        obtain ⟨g7, E⟩ := gd_e E
        refine aldi hx hb hK hP 4 rfl rfl g7 dX7_word_19 ?_
        refine lv_bipush (v := 32) hx hb dX7_word_20 (by decide) ?_
        refine lv_icmp_ne (tgt := 38) hx hb dX7_word_22 (by decide) (fun c8 => ?_) (fun c8 => ?_)
        · have E := br_n E c8
          exact J38 _ _ _ _ _ _ _ E hP hD hS (lv_sub hl [0] rfl)
        · have E := br_p E c8
          refine lv_aload_n hx hb dX7_word_25 rfl (lv_at hl 0 rfl) ?_
          refine lv_dup hx hb dX7_word_26 rfl ?_
          refine gf_X7_222 h0 hP 0 rfl rfl dX7_word_27 ?_
          refine lv_iconst (v := 1) hx hb dX7_word_30 (by decide) ?_
          refine lv_iadd hx hb dX7_word_31 ?_
          refine pf_X7_222 (wo := (wX7 cI cZ a v_pins v_bars v_taped v_lined (v_at + 1) v_fault v_name v_low v_high v_tape v_line v_imagePins v_imageBars v_imageName v_imageLow v_imageHigh v_isKept v_to v_carries v_seen v_rank v_one v_other v_thought v_gone v_tied v_part v_lack v_down v_parts v_lacks v_downs v_sort v_items v_item v_carried v_first v_second)) h0 hP hD hS 0 rfl (Nat.le_of_ble_eq_true rfl) rfl dX7_word_32 (fun H locs hP hD hS => ?_)
          refine lv_goto (tgt := 0) hx hb dX7_word_35 (by decide) ?_
          exact ih0 _ _ _ _ _ _ _ E hP hD hS (lv_sub hl [0] rfl)
  exact J0 5000 _ _ _ _ _ _ _ E hP hD hS (lv_sub hl [0] rfl)
theorem hdX7_isWord : yX7_isWord.cls = RX7 ∧ yX7_isWord.cls ≠ "java/lang/invoke/MethodHandle" ∧ yX7_isWord.cls ≠ "java/lang/invoke/VarHandle" ∧ (parseMethodDescriptor yX7_isWord.desc).map (fun d => d.parameters.length) = some 3 := by decide +kernel
noncomputable def FX7_isWord (p1 p2 p3 : Int32) (v_tape : Nat → Int32) (v_first v_second : Int32) : Option (Int32) := (if (v_second - v_first) = 3 then (gd (vp_in v_first 30) (if (v_tape v_first.toNatClampNeg) = p1 then (gd (vp_in (v_first + 1) 30) (if (v_tape (v_first + 1).toNatClampNeg) = p2 then (gd (vp_in (v_first + 2) 30) (if (v_tape (v_first + 2).toNatClampNeg) = p3 then (some 1) else (some 0))) else (some 0))) else (some 0))) else (some 0))
set_option maxHeartbeats 4000000 in
set_option maxRecDepth 100000 in
theorem c_X7_isWord (l : Launch) (D : va_G) (cI cZ cS : ClassId) (a : Nat → Nat) (v_pins v_bars v_taped v_lined v_at v_fault : Int32) (v_name v_low v_high v_tape v_line : Nat → Int32) (v_imagePins v_imageBars : Int32) (v_imageName v_imageLow v_imageHigh : Nat → Int32) (v_isKept : Int32) (v_to v_carries : Nat → Int32) (v_seen v_rank : Int32) (v_one v_other : Nat → Int32) (v_thought v_gone : Int32) (v_tied v_part v_lack v_down : Nat → Int32) (v_parts v_lacks v_downs : Int32) (v_sort v_items v_item v_carried : Nat → Int32) (v_first v_second : Int32) (p1 p2 p3 : Int32) (u : Int32) (hF : FX7_isWord p1 p2 p3 v_tape v_first v_second = some u) : MCi l D (tyL cI cZ cS) yX7_isWord cX7_isWord 4 (some .boolean) 0 0 [.ref (a 0), .int p1, .int p2, .int p3] (wX7 cI cZ a v_pins v_bars v_taped v_lined v_at v_fault v_name v_low v_high v_tape v_line v_imagePins v_imageBars v_imageName v_imageLow v_imageHigh v_isKept v_to v_carries v_seen v_rank v_one v_other v_thought v_gone v_tied v_part v_lack v_down v_parts v_lacks v_downs v_sort v_items v_item v_carried v_first v_second) (wX7 cI cZ a v_pins v_bars v_taped v_lined v_at v_fault v_name v_low v_high v_tape v_line v_imagePins v_imageBars v_imageName v_imageLow v_imageHigh v_isKept v_to v_carries v_seen v_rank v_one v_other v_thought v_gone v_tied v_part v_lack v_down v_parts v_lacks v_downs v_sort v_items v_item v_carried v_first v_second) u := by
  refine MCz.mk (by decide) (Nat.le_of_ble_eq_true rfl) ?_
  intro p e s m args below meth c A ls Q h0 hP hD hA hS hl hfin0
  have hfin : ∀ (u' : Int32), u' = u → ∀ (H : Heap) (locs : List Loc) (ls : Array Slot) (pc : Nat), (u' = 0 ∨ u' = 1) → va_P D vwCl (wX7 cI cZ a v_pins v_bars v_taped v_lined v_at v_fault v_name v_low v_high v_tape v_line v_imagePins v_imageBars v_imageName v_imageLow v_imageHigh v_isKept v_to v_carries v_seen v_rank v_one v_other v_thought v_gone v_tied v_part v_lack v_down v_parts v_lacks v_downs v_sort v_items v_item v_carried v_first v_second) H → va_D A (wX7 cI cZ a v_pins v_bars v_taped v_lined v_at v_fault v_name v_low v_high v_tape v_line v_imagePins v_imageBars v_imageName v_imageLow v_imageHigh v_isKept v_to v_carries v_seen v_rank v_one v_other v_thought v_gone v_tied v_part v_lack v_down v_parts v_lacks v_downs v_sort v_items v_item v_carried v_first v_second) → va_S A s.heap H locs → decode cX7_isWord pc = .ok (.ireturn, 1) → W p l e (uR 0 0) s m args below meth c H locs 0 0 Q (F0 m pc ls [.int u']) := by intro u' hu; subst hu; exact hfin0
  clear hfin0
  obtain ⟨hx, hb, hr, hlk, hml, hown, hts, hK⟩ := id h0
  have hl : lv_has ls 4 [(0, .ref (a 0)), (1, .int p1), (2, .int p2), (3, .int p3)] := hl
  have E := hF
  refine lv_aload_n hx hb dX7_isWord_0 rfl (lv_at hl 0 rfl) ?_
  refine gf_X7_231 h0 hP 0 rfl rfl dX7_isWord_1 ?_
  refine lv_aload_n hx hb dX7_isWord_4 rfl (lv_at hl 0 rfl) ?_
  refine gf_X7_225 h0 hP 0 rfl rfl dX7_isWord_5 ?_
  refine lv_isub hx hb dX7_isWord_8 ?_
  refine lv_iconst (v := 3) hx hb dX7_isWord_9 (by decide) ?_
  refine lv_icmp_ne (tgt := 60) hx hb dX7_isWord_10 (by decide) (fun c1 => ?_) (fun c1 => ?_)
  · have E := br_n E c1
    refine lv_iconst (v := 0) hx hb dX7_isWord_60 (by decide) ?_
    exact hfin _ (Option.some.inj E) _ _ _ _ (Or.inl rfl) hP hD hS dX7_isWord_61
  · have E := br_p E c1
    refine lv_aload_n hx hb dX7_isWord_13 rfl (lv_at hl 0 rfl) ?_
    refine gf_X7_19 h0 hP 0 rfl rfl dX7_isWord_14 ?_
    refine lv_aload_n hx hb dX7_isWord_17 rfl (lv_at hl 0 rfl) ?_
    refine gf_X7_225 h0 hP 0 rfl rfl dX7_isWord_18 ?_
    obtain ⟨g2, E⟩ := gd_e E
    refine aldi hx hb hK hP 4 rfl rfl g2 dX7_isWord_21 ?_
    refine lv_iload_n hx hb dX7_isWord_22 rfl (lv_at hl 1 rfl) ?_
    refine lv_icmp_ne (tgt := 60) hx hb dX7_isWord_23 (by decide) (fun c3 => ?_) (fun c3 => ?_)
    · have E := br_n E c3
      refine lv_iconst (v := 0) hx hb dX7_isWord_60 (by decide) ?_
      exact hfin _ (Option.some.inj E) _ _ _ _ (Or.inl rfl) hP hD hS dX7_isWord_61
    · have E := br_p E c3
      refine lv_aload_n hx hb dX7_isWord_26 rfl (lv_at hl 0 rfl) ?_
      refine gf_X7_19 h0 hP 0 rfl rfl dX7_isWord_27 ?_
      refine lv_aload_n hx hb dX7_isWord_30 rfl (lv_at hl 0 rfl) ?_
      refine gf_X7_225 h0 hP 0 rfl rfl dX7_isWord_31 ?_
      refine lv_iconst (v := 1) hx hb dX7_isWord_34 (by decide) ?_
      refine lv_iadd hx hb dX7_isWord_35 ?_
      obtain ⟨g4, E⟩ := gd_e E
      refine aldi hx hb hK hP 4 rfl rfl g4 dX7_isWord_36 ?_
      refine lv_iload_n hx hb dX7_isWord_37 rfl (lv_at hl 2 rfl) ?_
      refine lv_icmp_ne (tgt := 60) hx hb dX7_isWord_38 (by decide) (fun c5 => ?_) (fun c5 => ?_)
      · have E := br_n E c5
        refine lv_iconst (v := 0) hx hb dX7_isWord_60 (by decide) ?_
        exact hfin _ (Option.some.inj E) _ _ _ _ (Or.inl rfl) hP hD hS dX7_isWord_61
      · have E := br_p E c5
        refine lv_aload_n hx hb dX7_isWord_41 rfl (lv_at hl 0 rfl) ?_
        refine gf_X7_19 h0 hP 0 rfl rfl dX7_isWord_42 ?_
        refine lv_aload_n hx hb dX7_isWord_45 rfl (lv_at hl 0 rfl) ?_
        refine gf_X7_225 h0 hP 0 rfl rfl dX7_isWord_46 ?_
        refine lv_iconst (v := 2) hx hb dX7_isWord_49 (by decide) ?_
        refine lv_iadd hx hb dX7_isWord_50 ?_
        obtain ⟨g6, E⟩ := gd_e E
        refine aldi hx hb hK hP 4 rfl rfl g6 dX7_isWord_51 ?_
        refine lv_iload_n hx hb dX7_isWord_52 rfl (lv_at hl 3 rfl) ?_
        refine lv_icmp_ne (tgt := 60) hx hb dX7_isWord_53 (by decide) (fun c7 => ?_) (fun c7 => ?_)
        · have E := br_n E c7
          refine lv_iconst (v := 0) hx hb dX7_isWord_60 (by decide) ?_
          exact hfin _ (Option.some.inj E) _ _ _ _ (Or.inl rfl) hP hD hS dX7_isWord_61
        · have E := br_p E c7
          refine lv_iconst (v := 1) hx hb dX7_isWord_56 (by decide) ?_
          refine lv_goto (tgt := 61) hx hb dX7_isWord_57 (by decide) ?_
          exact hfin _ (Option.some.inj E) _ _ _ _ (Or.inr rfl) hP hD hS dX7_isWord_61
theorem hdX7_verb : yX7_verb.cls = RX7 ∧ yX7_verb.cls ≠ "java/lang/invoke/MethodHandle" ∧ yX7_verb.cls ≠ "java/lang/invoke/VarHandle" ∧ (parseMethodDescriptor yX7_verb.desc).map (fun d => d.parameters.length) = some 0 := by decide +kernel
noncomputable def FX7_verb (v_tape : Nat → Int32) (v_first v_second : Int32) : Option (Int32) := ((FX7_isWord 112 105 110 v_tape v_first v_second).bind (fun r1 => (if r1 = 0 then ((FX7_isWord 98 97 114 v_tape v_first v_second).bind (fun r3 => (if r3 = 0 then ((FX7_isWord 111 102 102 v_tape v_first v_second).bind (fun r5 => (if r5 = 0 then (some (-1)) else (some 2)))) else (some 1)))) else (some 0))))
set_option maxHeartbeats 4000000 in
set_option maxRecDepth 100000 in
theorem c_X7_verb (l : Launch) (D : va_G) (cI cZ cS : ClassId) (a : Nat → Nat) (v_pins v_bars v_taped v_lined v_at v_fault : Int32) (v_name v_low v_high v_tape v_line : Nat → Int32) (v_imagePins v_imageBars : Int32) (v_imageName v_imageLow v_imageHigh : Nat → Int32) (v_isKept : Int32) (v_to v_carries : Nat → Int32) (v_seen v_rank : Int32) (v_one v_other : Nat → Int32) (v_thought v_gone : Int32) (v_tied v_part v_lack v_down : Nat → Int32) (v_parts v_lacks v_downs : Int32) (v_sort v_items v_item v_carried : Nat → Int32) (v_first v_second : Int32)  (u : Int32) (hF : FX7_verb v_tape v_first v_second = some u) : MCi l D (tyL cI cZ cS) yX7_verb cX7_verb 1 (some .int) 1 23 [.ref (a 0)] (wX7 cI cZ a v_pins v_bars v_taped v_lined v_at v_fault v_name v_low v_high v_tape v_line v_imagePins v_imageBars v_imageName v_imageLow v_imageHigh v_isKept v_to v_carries v_seen v_rank v_one v_other v_thought v_gone v_tied v_part v_lack v_down v_parts v_lacks v_downs v_sort v_items v_item v_carried v_first v_second) (wX7 cI cZ a v_pins v_bars v_taped v_lined v_at v_fault v_name v_low v_high v_tape v_line v_imagePins v_imageBars v_imageName v_imageLow v_imageHigh v_isKept v_to v_carries v_seen v_rank v_one v_other v_thought v_gone v_tied v_part v_lack v_down v_parts v_lacks v_downs v_sort v_items v_item v_carried v_first v_second) u := by
  refine MCi.mk (by decide) (Nat.le_of_ble_eq_true rfl) ?_
  intro p e s m args below meth c A ls Q h0 hP hD hA hS hl hfin0
  have hfin : ∀ (u' : Int32), u' = u → ∀ (H : Heap) (locs : List Loc) (ls : Array Slot) (pc : Nat), va_P D vwCl (wX7 cI cZ a v_pins v_bars v_taped v_lined v_at v_fault v_name v_low v_high v_tape v_line v_imagePins v_imageBars v_imageName v_imageLow v_imageHigh v_isKept v_to v_carries v_seen v_rank v_one v_other v_thought v_gone v_tied v_part v_lack v_down v_parts v_lacks v_downs v_sort v_items v_item v_carried v_first v_second) H → va_D A (wX7 cI cZ a v_pins v_bars v_taped v_lined v_at v_fault v_name v_low v_high v_tape v_line v_imagePins v_imageBars v_imageName v_imageLow v_imageHigh v_isKept v_to v_carries v_seen v_rank v_one v_other v_thought v_gone v_tied v_part v_lack v_down v_parts v_lacks v_downs v_sort v_items v_item v_carried v_first v_second) → va_S A s.heap H locs → decode cX7_verb pc = .ok (.ireturn, 1) → W p l e (uR 1 23) s m args below meth c H locs 0 0 Q (F0 m pc ls [.int u']) := by intro u' hu; subst hu; exact hfin0
  clear hfin0
  obtain ⟨hx, hb, hr, hlk, hml, hown, hts, hK⟩ := id h0
  have hl : lv_has ls 1 [(0, .ref (a 0))] := hl
  have E := hF
  refine lv_aload_n hx hb dX7_verb_0 rfl (lv_at hl 0 rfl) ?_
  refine lv_bipush (v := 112) hx hb dX7_verb_1 (by decide) ?_
  refine lv_bipush (v := 105) hx hb dX7_verb_3 (by decide) ?_
  refine lv_bipush (v := 110) hx hb dX7_verb_5 (by decide) ?_
  obtain ⟨r1, hF, E⟩ := bn_e E
  refine callVfi (wo := (wX7 cI cZ a v_pins v_bars v_taped v_lined v_at v_fault v_name v_low v_high v_tape v_line v_imagePins v_imageBars v_imageName v_imageLow v_imageHigh v_isKept v_to v_carries v_seen v_rank v_one v_other v_thought v_gone v_tied v_part v_lack v_down v_parts v_lacks v_downs v_sort v_items v_item v_carried v_first v_second)) h0 (c_X7_isWord l D cI cZ cS a v_pins v_bars v_taped v_lined v_at v_fault v_name v_low v_high v_tape v_line v_imagePins v_imageBars v_imageName v_imageLow v_imageHigh v_isKept v_to v_carries v_seen v_rank v_one v_other v_thought v_gone v_tied v_part v_lack v_down v_parts v_lacks v_downs v_sort v_items v_item v_carried v_first v_second 112 105 110 r1 hF) (gV wq_938 wq_940 wp_56 wq_8 wq_941) hdX7_isWord ⟨Nat.le_of_ble_eq_true rfl, Nat.le_of_ble_eq_true rfl⟩ ⟨Nat.le_refl _, Nat.le_refl _⟩ hP hD hS hA 0 7 rfl rfl rfl hl.1 rfl (Nat.le_of_ble_eq_true rfl) dX7_verb_7 (fun H locs hP hD hS => ?_)
  refine lv_if_eq (tgt := 17) hx hb dX7_verb_10 (by decide) (fun c2 => ?_) (fun c2 => ?_)
  · have E := br_p E c2
    refine lv_aload_n hx hb dX7_verb_17 rfl (lv_at hl 0 rfl) ?_
    refine lv_bipush (v := 98) hx hb dX7_verb_18 (by decide) ?_
    refine lv_bipush (v := 97) hx hb dX7_verb_20 (by decide) ?_
    refine lv_bipush (v := 114) hx hb dX7_verb_22 (by decide) ?_
    obtain ⟨r3, hF, E⟩ := bn_e E
    refine callVfi (wo := (wX7 cI cZ a v_pins v_bars v_taped v_lined v_at v_fault v_name v_low v_high v_tape v_line v_imagePins v_imageBars v_imageName v_imageLow v_imageHigh v_isKept v_to v_carries v_seen v_rank v_one v_other v_thought v_gone v_tied v_part v_lack v_down v_parts v_lacks v_downs v_sort v_items v_item v_carried v_first v_second)) h0 (c_X7_isWord l D cI cZ cS a v_pins v_bars v_taped v_lined v_at v_fault v_name v_low v_high v_tape v_line v_imagePins v_imageBars v_imageName v_imageLow v_imageHigh v_isKept v_to v_carries v_seen v_rank v_one v_other v_thought v_gone v_tied v_part v_lack v_down v_parts v_lacks v_downs v_sort v_items v_item v_carried v_first v_second 98 97 114 r3 hF) (gV wq_938 wq_940 wp_56 wq_8 wq_941) hdX7_isWord ⟨Nat.le_of_ble_eq_true rfl, Nat.le_of_ble_eq_true rfl⟩ ⟨Nat.le_refl _, Nat.le_refl _⟩ hP hD hS hA 0 7 rfl rfl rfl hl.1 rfl (Nat.le_of_ble_eq_true rfl) dX7_verb_24 (fun H locs hP hD hS => ?_)
    refine lv_if_eq (tgt := 34) hx hb dX7_verb_27 (by decide) (fun c4 => ?_) (fun c4 => ?_)
    · have E := br_p E c4
      refine lv_aload_n hx hb dX7_verb_34 rfl (lv_at hl 0 rfl) ?_
      refine lv_bipush (v := 111) hx hb dX7_verb_35 (by decide) ?_
      refine lv_bipush (v := 102) hx hb dX7_verb_37 (by decide) ?_
      refine lv_bipush (v := 102) hx hb dX7_verb_39 (by decide) ?_
      obtain ⟨r5, hF, E⟩ := bn_e E
      refine callVfi (wo := (wX7 cI cZ a v_pins v_bars v_taped v_lined v_at v_fault v_name v_low v_high v_tape v_line v_imagePins v_imageBars v_imageName v_imageLow v_imageHigh v_isKept v_to v_carries v_seen v_rank v_one v_other v_thought v_gone v_tied v_part v_lack v_down v_parts v_lacks v_downs v_sort v_items v_item v_carried v_first v_second)) h0 (c_X7_isWord l D cI cZ cS a v_pins v_bars v_taped v_lined v_at v_fault v_name v_low v_high v_tape v_line v_imagePins v_imageBars v_imageName v_imageLow v_imageHigh v_isKept v_to v_carries v_seen v_rank v_one v_other v_thought v_gone v_tied v_part v_lack v_down v_parts v_lacks v_downs v_sort v_items v_item v_carried v_first v_second 111 102 102 r5 hF) (gV wq_938 wq_940 wp_56 wq_8 wq_941) hdX7_isWord ⟨Nat.le_of_ble_eq_true rfl, Nat.le_of_ble_eq_true rfl⟩ ⟨Nat.le_refl _, Nat.le_refl _⟩ hP hD hS hA 0 7 rfl rfl rfl hl.1 rfl (Nat.le_of_ble_eq_true rfl) dX7_verb_41 (fun H locs hP hD hS => ?_)
      refine lv_if_eq (tgt := 51) hx hb dX7_verb_44 (by decide) (fun c6 => ?_) (fun c6 => ?_)
      · have E := br_p E c6
        refine lv_iconst (v := (-1)) hx hb dX7_verb_51 (by decide) ?_
        exact hfin _ (Option.some.inj E) _ _ _ _ hP hD hS dX7_verb_52
      · have E := br_n E c6
        refine lv_iconst (v := 2) hx hb dX7_verb_47 (by decide) ?_
        refine lv_goto (tgt := 52) hx hb dX7_verb_48 (by decide) ?_
        exact hfin _ (Option.some.inj E) _ _ _ _ hP hD hS dX7_verb_52
    · have E := br_n E c4
      refine lv_iconst (v := 1) hx hb dX7_verb_30 (by decide) ?_
      refine lv_goto (tgt := 52) hx hb dX7_verb_31 (by decide) ?_
      exact hfin _ (Option.some.inj E) _ _ _ _ hP hD hS dX7_verb_52
  · have E := br_n E c2
    refine lv_iconst (v := 0) hx hb dX7_verb_13 (by decide) ?_
    refine lv_goto (tgt := 52) hx hb dX7_verb_14 (by decide) ?_
    exact hfin _ (Option.some.inj E) _ _ _ _ hP hD hS dX7_verb_52
