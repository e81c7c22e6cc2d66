theorem hdX6_down : yX6_down.cls = RX6 ∧ yX6_down.cls ≠ "java/lang/invoke/MethodHandle" ∧ yX6_down.cls ≠ "java/lang/invoke/VarHandle" ∧ (parseMethodDescriptor yX6_down.desc).map (fun d => d.parameters.length) = some 2 := by decide +kernel
noncomputable def FX6_down (p1 p2 : Int32) (fr_pins fr_bars : Int32) (fr_lesser fr_greater : Nat → Int32) (st_carrying st_rank st_freedoms st_isStiff : Int32) (st_farEnd st_queue st_cameAlong td_near : Nat → Int32) (td_steps : Int32) (td_gone td_had td_came td_farEnd td_queue td_cameAlong : Nat → Int32) : Option (Int32 × Int32 × Int32 × Int32 × Int32 × (Nat → Int32) × (Nat → Int32) × (Nat → Int32) × (Nat → Int32) × Int32 × (Nat → Int32) × (Nat → Int32) × (Nat → Int32) × (Nat → Int32) × (Nat → Int32) × (Nat → Int32)) := (if p2 < 0 then (some ((-2), st_carrying, st_rank, st_freedoms, st_isStiff, st_farEnd, st_queue, st_cameAlong, td_near, td_steps, td_gone, td_had, td_came, td_farEnd, td_queue, td_cameAlong)) else (if p2 ≤ 2 then ((FX3_settle st_carrying st_rank st_freedoms st_isStiff st_farEnd st_queue st_cameAlong fr_pins fr_bars fr_lesser fr_greater).bind (fun r3 => (if r3.2.2.2.1 = 0 then (some ((-3), r3.1, r3.2.1, r3.2.2.1, r3.2.2.2.1, r3.2.2.2.2.1, r3.2.2.2.2.2.1, r3.2.2.2.2.2.2, td_near, td_steps, td_gone, td_had, td_came, td_farEnd, td_queue, td_cameAlong)) else (if r3.2.1 = fr_bars then ((FX4_run td_near td_steps td_gone td_had td_came td_farEnd td_queue td_cameAlong fr_pins fr_bars fr_lesser fr_greater).bind (fun r6 => (if p1 < 0 then (some ((-12), r3.1, r3.2.1, r3.2.2.1, r3.2.2.2.1, r3.2.2.2.2.1, r3.2.2.2.2.2.1, r3.2.2.2.2.2.2, r6.1, r6.2.1, r6.2.2.1, r6.2.2.2.1, r6.2.2.2.2.1, r6.2.2.2.2.2.1, r6.2.2.2.2.2.2.1, r6.2.2.2.2.2.2.2)) else (if p1 < r6.2.1 then (if p2 = 0 then (gd (vp_in p1 12) (some ((r6.2.2.1 p1.toNatClampNeg), r3.1, r3.2.1, r3.2.2.1, r3.2.2.2.1, r3.2.2.2.2.1, r3.2.2.2.2.2.1, r3.2.2.2.2.2.2, r6.1, r6.2.1, r6.2.2.1, r6.2.2.2.1, r6.2.2.2.2.1, r6.2.2.2.2.2.1, r6.2.2.2.2.2.2.1, r6.2.2.2.2.2.2.2))) else (if p2 = 1 then (gd (vp_in p1 12) (some ((r6.2.2.2.1 p1.toNatClampNeg), r3.1, r3.2.1, r3.2.2.1, r3.2.2.2.1, r3.2.2.2.2.1, r3.2.2.2.2.2.1, r3.2.2.2.2.2.2, r6.1, r6.2.1, r6.2.2.1, r6.2.2.2.1, r6.2.2.2.2.1, r6.2.2.2.2.2.1, r6.2.2.2.2.2.2.1, r6.2.2.2.2.2.2.2))) else (gd (vp_in p1 12) (some ((r6.2.2.2.2.1 p1.toNatClampNeg), r3.1, r3.2.1, r3.2.2.1, r3.2.2.2.1, r3.2.2.2.2.1, r3.2.2.2.2.2.1, r3.2.2.2.2.2.2, r6.1, r6.2.1, r6.2.2.1, r6.2.2.2.1, r6.2.2.2.2.1, r6.2.2.2.2.2.1, r6.2.2.2.2.2.2.1, r6.2.2.2.2.2.2.2))))) else (some ((-12), r3.1, r3.2.1, r3.2.2.1, r3.2.2.2.1, r3.2.2.2.2.1, r3.2.2.2.2.2.1, r3.2.2.2.2.2.2, r6.1, r6.2.1, r6.2.2.1, r6.2.2.2.1, r6.2.2.2.2.1, r6.2.2.2.2.2.1, r6.2.2.2.2.2.2.1, r6.2.2.2.2.2.2.2)))))) else (some ((-3), r3.1, r3.2.1, r3.2.2.1, r3.2.2.2.1, r3.2.2.2.2.1, r3.2.2.2.2.2.1, r3.2.2.2.2.2.2, td_near, td_steps, td_gone, td_had, td_came, td_farEnd, td_queue, td_cameAlong)))))) else (some ((-2), st_carrying, st_rank, st_freedoms, st_isStiff, st_farEnd, st_queue, st_cameAlong, td_near, td_steps, td_gone, td_had, td_came, td_farEnd, td_queue, td_cameAlong))))
set_option maxHeartbeats 4000000 in
set_option maxRecDepth 100000 in
theorem c_X6_down (l : Launch) (D : va_G) (cI cZ cS : ClassId) (a0 a1 a2 a3 a4 a5 a6 a7 a8 a9 a10 a11 a12 a13 a14 a15 a16 a17 a18 a19 a20 a21 a22 a23 a24 : Nat) (v_isKept fr_pins fr_bars : Int32) (fr_names fr_lesser fr_greater st_near st_tiedTo st_parts : Nat → Int32) (st_partCount st_carrying st_rank st_freedoms st_isStiff st_worstBy st_worstPins : Int32) (st_farEnd st_queue st_cameAlong td_near : Nat → Int32) (td_steps : Int32) (td_gone td_had td_came td_farEnd td_queue td_cameAlong : Nat → Int32) (p1 p2 : Int32) (u : Int32 × Int32 × Int32 × Int32 × Int32 × (Nat → Int32) × (Nat → Int32) × (Nat → Int32) × (Nat → Int32) × Int32 × (Nat → Int32) × (Nat → Int32) × (Nat → Int32) × (Nat → Int32) × (Nat → Int32) × (Nat → Int32)) (hF : FX6_down p1 p2 fr_pins fr_bars fr_lesser fr_greater st_carrying st_rank st_freedoms st_isStiff st_farEnd st_queue st_cameAlong td_near td_steps td_gone td_had td_came td_farEnd td_queue td_cameAlong = some u) : MCi l D (tyL cI cZ cS) yX6_down cX6_down 3 (some .int) 6 146 [.ref a0, .int p1, .int p2] (wX6 a0 a1 a2 a3 a4 a5 a6 v_isKept ++ wX0 cI a1 a7 a8 a9 fr_pins fr_bars fr_names fr_lesser fr_greater ++ wX3 cI a4 a10 a11 a12 a13 a14 a15 a16 st_near st_tiedTo st_parts st_partCount st_carrying st_rank st_freedoms st_isStiff st_worstBy st_worstPins st_farEnd st_queue st_cameAlong ++ wX4 cI a5 a17 a18 a19 a20 a21 a22 a23 a24 td_near td_steps td_gone td_had td_came td_farEnd td_queue td_cameAlong) (wX6 a0 a1 a2 a3 a4 a5 a6 v_isKept ++ wX0 cI a1 a7 a8 a9 fr_pins fr_bars fr_names fr_lesser fr_greater ++ wX3 cI a4 a10 a11 a12 a13 a14 a15 a16 st_near st_tiedTo st_parts st_partCount u.2.1 u.2.2.1 u.2.2.2.1 u.2.2.2.2.1 st_worstBy st_worstPins u.2.2.2.2.2.1 u.2.2.2.2.2.2.1 u.2.2.2.2.2.2.2.1 ++ wX4 cI a5 a17 a18 a19 a20 a21 a22 a23 a24 u.2.2.2.2.2.2.2.2.1 u.2.2.2.2.2.2.2.2.2.1 u.2.2.2.2.2.2.2.2.2.2.1 u.2.2.2.2.2.2.2.2.2.2.2.1 u.2.2.2.2.2.2.2.2.2.2.2.2.1 u.2.2.2.2.2.2.2.2.2.2.2.2.2.1 u.2.2.2.2.2.2.2.2.2.2.2.2.2.2.1 u.2.2.2.2.2.2.2.2.2.2.2.2.2.2.2) u.1 := by
  refine MCi.mk (by decide) (Nat.le_of_ble_eq_true rfl) ?_
  intro p e s m args below meth c A ls Q h0 hP hD hA hS hl hfin0
  have hfin : ∀ (u' : Int32 × Int32 × Int32 × Int32 × Int32 × (Nat → Int32) × (Nat → Int32) × (Nat → Int32) × (Nat → Int32) × Int32 × (Nat → Int32) × (Nat → Int32) × (Nat → Int32) × (Nat → Int32) × (Nat → Int32) × (Nat → Int32)), u' = u → ∀ (H : Heap) (locs : List Loc) (ls : Array Slot) (pc : Nat), va_P D vwCl (wX6 a0 a1 a2 a3 a4 a5 a6 v_isKept ++ wX0 cI a1 a7 a8 a9 fr_pins fr_bars fr_names fr_lesser fr_greater ++ wX3 cI a4 a10 a11 a12 a13 a14 a15 a16 st_near st_tiedTo st_parts st_partCount u'.2.1 u'.2.2.1 u'.2.2.2.1 u'.2.2.2.2.1 st_worstBy st_worstPins u'.2.2.2.2.2.1 u'.2.2.2.2.2.2.1 u'.2.2.2.2.2.2.2.1 ++ wX4 cI a5 a17 a18 a19 a20 a21 a22 a23 a24 u'.2.2.2.2.2.2.2.2.1 u'.2.2.2.2.2.2.2.2.2.1 u'.2.2.2.2.2.2.2.2.2.2.1 u'.2.2.2.2.2.2.2.2.2.2.2.1 u'.2.2.2.2.2.2.2.2.2.2.2.2.1 u'.2.2.2.2.2.2.2.2.2.2.2.2.2.1 u'.2.2.2.2.2.2.2.2.2.2.2.2.2.2.1 u'.2.2.2.2.2.2.2.2.2.2.2.2.2.2.2) H → va_D A (wX6 a0 a1 a2 a3 a4 a5 a6 v_isKept ++ wX0 cI a1 a7 a8 a9 fr_pins fr_bars fr_names fr_lesser fr_greater ++ wX3 cI a4 a10 a11 a12 a13 a14 a15 a16 st_near st_tiedTo st_parts st_partCount u'.2.1 u'.2.2.1 u'.2.2.2.1 u'.2.2.2.2.1 st_worstBy st_worstPins u'.2.2.2.2.2.1 u'.2.2.2.2.2.2.1 u'.2.2.2.2.2.2.2.1 ++ wX4 cI a5 a17 a18 a19 a20 a21 a22 a23 a24 u'.2.2.2.2.2.2.2.2.1 u'.2.2.2.2.2.2.2.2.2.1 u'.2.2.2.2.2.2.2.2.2.2.1 u'.2.2.2.2.2.2.2.2.2.2.2.1 u'.2.2.2.2.2.2.2.2.2.2.2.2.1 u'.2.2.2.2.2.2.2.2.2.2.2.2.2.1 u'.2.2.2.2.2.2.2.2.2.2.2.2.2.2.1 u'.2.2.2.2.2.2.2.2.2.2.2.2.2.2.2) → va_S A s.heap H locs → decode cX6_down pc = .ok (.ireturn, 1) → W p l e (uR 6 146) s m args below meth c H locs 0 0 Q (F0 m pc ls [.int u'.1]) := by intro u' hu; subst hu; exact hfin0
  clear hfin0
  obtain ⟨hx, hb, hr, hlk, hml, hown, hts, hK⟩ := id h0
  have hl : lv_has ls 3 [(0, .ref a0), (1, .int p1), (2, .int p2)] := hl
  have E := hF
  refine lv_iload_n hx hb dX6_down_0 rfl (lv_at hl 2 rfl) ?_
  refine lv_if_lt (tgt := 9) hx hb dX6_down_1 (by decide) (fun c1 => ?_) (fun c1 => ?_)
  · have E := br_p E c1
    refine lv_bipush (v := (-2)) hx hb dX6_down_9 (by decide) ?_
    exact hfin _ (Option.some.inj E) _ _ _ _ hP hD hS dX6_down_11
  · have E := br_n E c1
    refine lv_iload_n hx hb dX6_down_4 rfl (lv_at hl 2 rfl) ?_
    refine lv_iconst (v := 2) hx hb dX6_down_5 (by decide) ?_
    refine lv_icmp_le (tgt := 12) hx hb dX6_down_6 (by decide) (fun c2 => ?_) (fun c2 => ?_)
    · have E := br_p E c2
      refine lv_aload_n hx hb dX6_down_12 rfl (lv_at hl 0 rfl) ?_
      refine gf_X6_33 h0 hP 0 rfl rfl dX6_down_13 ?_
      refine lv_aload_n hx hb dX6_down_16 rfl (lv_at hl 0 rfl) ?_
      refine gf_X6_10 h0 hP 0 rfl rfl dX6_down_17 ?_
      obtain ⟨r3, hF, E⟩ := bn_e E
      refine callVv (wo := (wX6 a0 a1 a2 a3 a4 a5 a6 v_isKept ++ wX0 cI a1 a7 a8 a9 fr_pins fr_bars fr_names fr_lesser fr_greater ++ wX3 cI a4 a10 a11 a12 a13 a14 a15 a16 st_near st_tiedTo st_parts st_partCount r3.1 r3.2.1 r3.2.2.1 r3.2.2.2.1 st_worstBy st_worstPins r3.2.2.2.2.1 r3.2.2.2.2.2.1 r3.2.2.2.2.2.2 ++ wX4 cI a5 a17 a18 a19 a20 a21 a22 a23 a24 td_near td_steps td_gone td_had td_came td_farEnd td_queue td_cameAlong)) h0 (c_X3_settle l D cI cZ cS a4 a10 a11 a12 a13 a14 a15 a16 a1 a7 a8 a9 st_near st_tiedTo st_parts st_partCount st_carrying st_rank st_freedoms st_isStiff st_worstBy st_worstPins st_farEnd st_queue st_cameAlong fr_pins fr_bars fr_names fr_lesser fr_greater r3 hF) (gV wq_321 wq_322 wq_323 wq_4 wq_324) hdX3_settle ⟨Nat.le_of_ble_eq_true rfl, Nat.le_of_ble_eq_true rfl⟩ ⟨Nat.le_refl _, Nat.le_refl _⟩ hP hD hS hA 0 3 rfl rfl rfl [5, 6, 7, 8, 9, 10, 11, 12, 1, 2, 3, 4] rfl rfl rfl rfl hl.1 rfl (Nat.le_of_ble_eq_true rfl) dX6_down_20 (fun H locs hP hD hS => ?_)
      refine lv_aload_n hx hb dX6_down_23 rfl (lv_at hl 0 rfl) ?_
      refine gf_X6_33 h0 hP 0 rfl rfl dX6_down_24 ?_
      refine gf_X6_107 h0 hP 5 rfl rfl dX6_down_27 ?_
      refine lv_if_eq (tgt := 50) hx hb dX6_down_30 (by decide) (fun c4 => ?_) (fun c4 => ?_)
      · have E := br_p E c4
        refine lv_bipush (v := (-3)) hx hb dX6_down_50 (by decide) ?_
        exact hfin _ (Option.some.inj E) _ _ _ _ hP hD hS dX6_down_52
      · have E := br_n E c4
        refine lv_aload_n hx hb dX6_down_33 rfl (lv_at hl 0 rfl) ?_
        refine gf_X6_33 h0 hP 0 rfl rfl dX6_down_34 ?_
        refine gf_X6_101 h0 hP 5 rfl rfl dX6_down_37 ?_
        refine lv_aload_n hx hb dX6_down_40 rfl (lv_at hl 0 rfl) ?_
        refine gf_X6_10 h0 hP 0 rfl rfl dX6_down_41 ?_
        refine gf_X6_98 h0 hP 1 rfl rfl dX6_down_44 ?_
        refine lv_icmp_eq (tgt := 53) hx hb dX6_down_47 (by decide) (fun c5 => ?_) (fun c5 => ?_)
        · have E := br_p E c5
          refine lv_aload_n hx hb dX6_down_53 rfl (lv_at hl 0 rfl) ?_
          refine gf_X6_40 h0 hP 0 rfl rfl dX6_down_54 ?_
          refine lv_aload_n hx hb dX6_down_57 rfl (lv_at hl 0 rfl) ?_
          refine gf_X6_10 h0 hP 0 rfl rfl dX6_down_58 ?_
          obtain ⟨r6, hF, E⟩ := bn_e E
          refine callVv (wo := (wX6 a0 a1 a2 a3 a4 a5 a6 v_isKept ++ wX0 cI a1 a7 a8 a9 fr_pins fr_bars fr_names fr_lesser fr_greater ++ wX3 cI a4 a10 a11 a12 a13 a14 a15 a16 st_near st_tiedTo st_parts st_partCount r3.1 r3.2.1 r3.2.2.1 r3.2.2.2.1 st_worstBy st_worstPins r3.2.2.2.2.1 r3.2.2.2.2.2.1 r3.2.2.2.2.2.2 ++ wX4 cI a5 a17 a18 a19 a20 a21 a22 a23 a24 r6.1 r6.2.1 r6.2.2.1 r6.2.2.2.1 r6.2.2.2.2.1 r6.2.2.2.2.2.1 r6.2.2.2.2.2.2.1 r6.2.2.2.2.2.2.2)) h0 (c_X4_run l D cI cZ cS a5 a17 a18 a19 a20 a21 a22 a23 a24 a1 a7 a8 a9 td_near td_steps td_gone td_had td_came td_farEnd td_queue td_cameAlong fr_pins fr_bars fr_names fr_lesser fr_greater r6 hF) (gV wq_478 wq_479 wq_480 wq_6 wq_481) hdX4_run ⟨Nat.le_of_ble_eq_true rfl, Nat.le_of_ble_eq_true rfl⟩ ⟨Nat.le_refl _, Nat.le_refl _⟩ hP hD hS hA 0 4 rfl rfl rfl [13, 14, 15, 16, 17, 18, 19, 20, 21, 1, 2, 3, 4] rfl rfl rfl rfl hl.1 rfl (Nat.le_of_ble_eq_true rfl) dX6_down_61 (fun H locs hP hD hS => ?_)
          refine lv_iload_n hx hb dX6_down_64 rfl (lv_at hl 1 rfl) ?_
          refine lv_if_lt (tgt := 79) hx hb dX6_down_65 (by decide) (fun c7 => ?_) (fun c7 => ?_)
          · have E := br_p E c7
            refine lv_bipush (v := (-12)) hx hb dX6_down_79 (by decide) ?_
            exact hfin _ (Option.some.inj E) _ _ _ _ hP hD hS dX6_down_81
          · have E := br_n E c7
            refine lv_iload_n hx hb dX6_down_68 rfl (lv_at hl 1 rfl) ?_
            refine lv_aload_n hx hb dX6_down_69 rfl (lv_at hl 0 rfl) ?_
            refine gf_X6_40 h0 hP 0 rfl rfl dX6_down_70 ?_
            refine gf_X6_185 h0 hP 13 rfl rfl dX6_down_73 ?_
            refine lv_icmp_lt (tgt := 82) hx hb dX6_down_76 (by decide) (fun c8 => ?_) (fun c8 => ?_)
            · have E := br_p E c8
              refine lv_iload_n hx hb dX6_down_82 rfl (lv_at hl 2 rfl) ?_
              refine lv_if_ne (tgt := 98) hx hb dX6_down_83 (by decide) (fun c9 => ?_) (fun c9 => ?_)
              · have E := br_n E c9
                refine lv_iload_n hx hb dX6_down_98 rfl (lv_at hl 2 rfl) ?_
                refine lv_iconst (v := 1) hx hb dX6_down_99 (by decide) ?_
                refine lv_icmp_ne (tgt := 115) hx hb dX6_down_100 (by decide) (fun c10 => ?_) (fun c10 => ?_)
                · have E := br_n E c10
                  refine lv_aload_n hx hb dX6_down_115 rfl (lv_at hl 0 rfl) ?_
                  refine gf_X6_40 h0 hP 0 rfl rfl dX6_down_116 ?_
                  refine gf_X6_194 h0 hP 13 rfl rfl dX6_down_119 ?_
                  refine lv_iload_n hx hb dX6_down_122 rfl (lv_at hl 1 rfl) ?_
                  obtain ⟨g11, E⟩ := gd_e E
                  refine aldi hx hb hK hP 17 rfl rfl g11 dX6_down_123 ?_
                  exact hfin _ (Option.some.inj E) _ _ _ _ hP hD hS dX6_down_124
                · have E := br_p E c10
                  refine lv_aload_n hx hb dX6_down_103 rfl (lv_at hl 0 rfl) ?_
                  refine gf_X6_40 h0 hP 0 rfl rfl dX6_down_104 ?_
                  refine gf_X6_191 h0 hP 13 rfl rfl dX6_down_107 ?_
                  refine lv_iload_n hx hb dX6_down_110 rfl (lv_at hl 1 rfl) ?_
                  obtain ⟨g12, E⟩ := gd_e E
                  refine aldi hx hb hK hP 16 rfl rfl g12 dX6_down_111 ?_
                  refine lv_goto (tgt := 124) hx hb dX6_down_112 (by decide) ?_
                  exact hfin _ (Option.some.inj E) _ _ _ _ hP hD hS dX6_down_124
              · have E := br_p E c9
                refine lv_aload_n hx hb dX6_down_86 rfl (lv_at hl 0 rfl) ?_
                refine gf_X6_40 h0 hP 0 rfl rfl dX6_down_87 ?_
                refine gf_X6_188 h0 hP 13 rfl rfl dX6_down_90 ?_
                refine lv_iload_n hx hb dX6_down_93 rfl (lv_at hl 1 rfl) ?_
                obtain ⟨g13, E⟩ := gd_e E
                refine aldi hx hb hK hP 15 rfl rfl g13 dX6_down_94 ?_
                refine lv_goto (tgt := 124) hx hb dX6_down_95 (by decide) ?_
                exact hfin _ (Option.some.inj E) _ _ _ _ hP hD hS dX6_down_124
            · have E := br_n E c8
              refine lv_bipush (v := (-12)) hx hb dX6_down_79 (by decide) ?_
              exact hfin _ (Option.some.inj E) _ _ _ _ hP hD hS dX6_down_81
        · have E := br_n E c5
          refine lv_bipush (v := (-3)) hx hb dX6_down_50 (by decide) ?_
          exact hfin _ (Option.some.inj E) _ _ _ _ hP hD hS dX6_down_52
    · have E := br_n E c2
      refine lv_bipush (v := (-2)) hx hb dX6_down_9 (by decide) ?_
      exact hfin _ (Option.some.inj E) _ _ _ _ hP hD hS dX6_down_11
theorem hdX6_line : yX6_line.cls = RX6 ∧ yX6_line.cls ≠ "java/lang/invoke/MethodHandle" ∧ yX6_line.cls ≠ "java/lang/invoke/VarHandle" ∧ (parseMethodDescriptor yX6_line.desc).map (fun d => d.parameters.length) = some 1 := by decide +kernel
noncomputable def FX6_line_b65 (p1 fr_bars : Int32) (fr_names fr_lesser fr_greater : Nat → Int32) (k4 : Int32 → Int32 → Option (Int32)) (l2 l3 l4 : Int32) : Option (Int32) := (k4 (l2 + l4) (l3 + 1))
noncomputable def FX6_line_b30 (p1 fr_bars : Int32) (fr_names fr_lesser fr_greater : Nat → Int32) (k4 : Int32 → Int32 → Option (Int32)) (l2 l3 : Int32) : Option (Int32) := ((FX0_barSize l3 fr_names fr_lesser fr_greater).bind (fun r1 => (if p1 < l2 then (FX6_line_b65 p1 fr_bars fr_names fr_lesser fr_greater k4 l2 l3 r1) else (if (l2 + r1) ≤ p1 then (FX6_line_b65 p1 fr_bars fr_names fr_lesser fr_greater k4 l2 l3 r1) else ((FX0_barLetter l3 (p1 - l2) fr_names fr_lesser fr_greater).bind (fun r4 => (some r4)))))))
noncomputable def FX6_line_b4 (p1 fr_bars : Int32) (fr_names fr_lesser fr_greater : Nat → Int32)  (k4 : Int32 → Int32 → Option (Int32)) (l2 l3 : Int32) : Option (Int32) := (if fr_bars ≤ l3 then (if p1 = (-1) then (some l2) else (some (-1))) else (if l3 ≤ 0 then (FX6_line_b30 p1 fr_bars fr_names fr_lesser fr_greater k4 l2 l3) else (if p1 = l2 then (some 32) else (FX6_line_b30 p1 fr_bars fr_names fr_lesser fr_greater k4 (l2 + 1) l3))))
noncomputable def FX6_line_h4 (p1 fr_bars : Int32) (fr_names fr_lesser fr_greater : Nat → Int32)  : Nat → Int32 → Int32 → Option (Int32)
  | 0 => fun _ _ => none
  | n + 1 => fun l2 l3 => FX6_line_b4 p1 fr_bars fr_names fr_lesser fr_greater  (FX6_line_h4 p1 fr_bars fr_names fr_lesser fr_greater  n) l2 l3
noncomputable def FX6_line (p1 : Int32) (fr_bars : Int32) (fr_names fr_lesser fr_greater : Nat → Int32) : Option (Int32) := (FX6_line_h4 p1 fr_bars fr_names fr_lesser fr_greater  5000 0 0)
set_option maxHeartbeats 4000000 in
set_option maxRecDepth 100000 in
theorem c_X6_line (l : Launch) (D : va_G) (cI cZ cS : ClassId) (a0 a1 a2 a3 a4 a5 a6 a7 a8 a9 : Nat) (v_isKept fr_pins fr_bars : Int32) (fr_names fr_lesser fr_greater : Nat → Int32) (p1 : Int32) (u : Int32) (hF : FX6_line p1 fr_bars fr_names fr_lesser fr_greater = some u) : MCi l D (tyL cI cZ cS) yX6_line cX6_line 5 (some .int) 3 69 [.ref a0, .int p1] (wX6 a0 a1 a2 a3 a4 a5 a6 v_isKept ++ wX0 cI a1 a7 a8 a9 fr_pins fr_bars fr_names fr_lesser fr_greater) (wX6 a0 a1 a2 a3 a4 a5 a6 v_isKept ++ wX0 cI a1 a7 a8 a9 fr_pins fr_bars fr_names fr_lesser fr_greater) u := by
  refine MCi.mk (by decide) (Nat.le_of_ble_eq_true rfl) ?_
  intro p e s m args below meth c A ls Q h0 hP hD hA hS hl hfin0
  have hfin : ∀ (u' : Int32), u' = u → ∀ (H : Heap) (locs : List Loc) (ls : Array Slot) (pc : Nat), va_P D vwCl (wX6 a0 a1 a2 a3 a4 a5 a6 v_isKept ++ wX0 cI a1 a7 a8 a9 fr_pins fr_bars fr_names fr_lesser fr_greater) H → va_D A (wX6 a0 a1 a2 a3 a4 a5 a6 v_isKept ++ wX0 cI a1 a7 a8 a9 fr_pins fr_bars fr_names fr_lesser fr_greater) → va_S A s.heap H locs → decode cX6_line pc = .ok (.ireturn, 1) → W p l e (uR 3 69) s m args below meth c H locs 0 0 Q (F0 m pc ls [.int u']) := by intro u' hu; subst hu; exact hfin0
  clear hfin0
  obtain ⟨hx, hb, hr, hlk, hml, hown, hts, hK⟩ := id h0
  have hl : lv_has ls 5 [(0, .ref a0), (1, .int p1)] := hl
  have E := hF
  have J4 : ∀ (n4 : Nat) (l2 l3 : Int32) (H : Heap) (locs : List Loc) (ls : Array Slot), FX6_line_h4 p1 fr_bars fr_names fr_lesser fr_greater  n4 l2 l3 = some u → va_P D vwCl (wX6 a0 a1 a2 a3 a4 a5 a6 v_isKept ++ wX0 cI a1 a7 a8 a9 fr_pins fr_bars fr_names fr_lesser fr_greater) H → va_D A (wX6 a0 a1 a2 a3 a4 a5 a6 v_isKept ++ wX0 cI a1 a7 a8 a9 fr_pins fr_bars fr_names fr_lesser fr_greater) → va_S A s.heap H locs → lv_has ls 5 [(0, .ref a0), (1, .int p1), (2, .int l2), (3, .int l3)] → W p l e (uR 3 69) s m args below meth c H locs 0 0 Q (F0 m 4 ls []) := by
    intro n4
    induction n4 with
    | zero => intro l2 l3 H locs ls E; exact none_e E
    | succ n4 ih4 =>
      intro l2 l3 H locs ls E hP hD hS hl
      have E : FX6_line_b4 p1 fr_bars fr_names fr_lesser fr_greater  (FX6_line_h4 p1 fr_bars fr_names fr_lesser fr_greater  n4) l2 l3 = some u := E
      have J65 : ∀ (l2 l3 l4 : Int32) (H : Heap) (locs : List Loc) (ls : Array Slot), FX6_line_b65 p1 fr_bars fr_names fr_lesser fr_greater (FX6_line_h4 p1 fr_bars fr_names fr_lesser fr_greater  n4) l2 l3 l4 = some u → va_P D vwCl (wX6 a0 a1 a2 a3 a4 a5 a6 v_isKept ++ wX0 cI a1 a7 a8 a9 fr_pins fr_bars fr_names fr_lesser fr_greater) H → va_D A (wX6 a0 a1 a2 a3 a4 a5 a6 v_isKept ++ wX0 cI a1 a7 a8 a9 fr_pins fr_bars fr_names fr_lesser fr_greater) → va_S A s.heap H locs → lv_has ls 5 [(0, .ref a0), (1, .int p1), (2, .int l2), (3, .int l3), (4, .int l4)] → W p l e (uR 3 69) s m args below meth c H locs 0 0 Q (F0 m 65 ls []) := by
        intro l2 l3 l4 H locs ls E hP hD hS hl
        refine lv_iload_n hx hb dX6_line_65 rfl (lv_at hl 2 rfl) ?_
        refine lv_iload hx hb dX6_line_66 (lv_at hl 4 rfl) ?_
        refine lv_iadd hx hb dX6_line_68 ?_
        refine lv_istore_n (lv' := [(2, .int (l2 + l4)), (0, .ref a0), (1, .int p1), (3, .int l3), (4, .int l4)]) hx hb dX6_line_69 rfl hl (by decide) rfl (fun ls hl => ?_)
        refine lv_iinc (v := (l3 + 1)) (lv' := [(3, .int (l3 + 1)), (2, .int (l2 + l4)), (0, .ref a0), (1, .int p1), (4, .int l4)]) hx hb dX6_line_70 hl (k := 3) rfl rfl (by decide) rfl (fun ls hl => ?_)
        refine lv_goto (tgt := 4) hx hb dX6_line_73 (by decide) ?_
        exact ih4 _ _ _ _ _ E hP hD hS (lv_sub hl [2, 3, 1, 0] rfl)
      have J30 : ∀ (l2 l3 : Int32) (H : Heap) (locs : List Loc) (ls : Array Slot), FX6_line_b30 p1 fr_bars fr_names fr_lesser fr_greater (FX6_line_h4 p1 fr_bars fr_names fr_lesser fr_greater  n4) l2 l3 = some u → va_P D vwCl (wX6 a0 a1 a2 a3 a4 a5 a6 v_isKept ++ wX0 cI a1 a7 a8 a9 fr_pins fr_bars fr_names fr_lesser fr_greater) H → va_D A (wX6 a0 a1 a2 a3 a4 a5 a6 v_isKept ++ wX0 cI a1 a7 a8 a9 fr_pins fr_bars fr_names fr_lesser fr_greater) → va_S A s.heap H locs → lv_has ls 5 [(0, .ref a0), (1, .int p1), (2, .int l2), (3, .int l3)] → W p l e (uR 3 69) s m args below meth c H locs 0 0 Q (F0 m 30 ls []) := by
        intro l2 l3 H locs ls E hP hD hS hl
        refine lv_aload_n hx hb dX6_line_30 rfl (lv_at hl 0 rfl) ?_
        refine gf_X6_10 h0 hP 0 rfl rfl dX6_line_31 ?_
        refine lv_iload_n hx hb dX6_line_34 rfl (lv_at hl 3 rfl) ?_
        obtain ⟨r1, hF, E⟩ := bn_e E
        refine callVi (wo := (wX6 a0 a1 a2 a3 a4 a5 a6 v_isKept ++ wX0 cI a1 a7 a8 a9 fr_pins fr_bars fr_names fr_lesser fr_greater)) h0 (c_X0_barSize l D cI cZ cS a1 a7 a8 a9 fr_pins fr_bars fr_names fr_lesser fr_greater l3 r1 hF) (gV wq_511 wq_512 wq_513 wq_2 wq_514) hdX0_barSize ⟨Nat.le_of_ble_eq_true rfl, Nat.le_of_ble_eq_true rfl⟩ ⟨Nat.le_refl _, Nat.le_refl _⟩ hP hD hS hA 0 0 rfl rfl rfl [1, 2, 3, 4] rfl rfl rfl rfl hl.1 rfl (Nat.le_of_ble_eq_true rfl) dX6_line_35 (fun H locs hP hD hS => ?_)
        refine lv_istore (lv' := [(4, .int r1), (0, .ref a0), (1, .int p1), (2, .int l2), (3, .int l3)]) hx hb dX6_line_38 hl (by decide) rfl (fun ls hl => ?_)
        refine lv_iload_n hx hb dX6_line_40 rfl (lv_at hl 2 rfl) ?_
        refine lv_iload_n hx hb dX6_line_41 rfl (lv_at hl 3 rfl) ?_
        refine lv_icmp_lt (tgt := 65) hx hb dX6_line_42 (by decide) (fun c2 => ?_) (fun c2 => ?_)
        · have E := br_p E c2
          exact J65 _ _ _ _ _ _ E hP hD hS (lv_sub hl [1, 2, 3, 4, 0] rfl)
        · have E := br_n E c2
          refine lv_iload_n hx hb dX6_line_45 rfl (lv_at hl 2 rfl) ?_
          refine lv_iload_n hx hb dX6_line_46 rfl (lv_at hl 3 rfl) ?_
          refine lv_iload hx hb dX6_line_47 (lv_at hl 0 rfl) ?_
          refine lv_iadd hx hb dX6_line_49 ?_
          refine lv_icmp_ge (tgt := 65) hx hb dX6_line_50 (by decide) (fun c3 => ?_) (fun c3 => ?_)
          · have E := br_p E c3
            exact J65 _ _ _ _ _ _ E hP hD hS (lv_sub hl [1, 2, 3, 4, 0] rfl)
          · have E := br_n E c3
            refine lv_aload_n hx hb dX6_line_53 rfl (lv_at hl 1 rfl) ?_
            refine gf_X6_10 h0 hP 0 rfl rfl dX6_line_54 ?_
            refine lv_iload_n hx hb dX6_line_57 rfl (lv_at hl 4 rfl) ?_
            refine lv_iload_n hx hb dX6_line_58 rfl (lv_at hl 2 rfl) ?_
            refine lv_iload_n hx hb dX6_line_59 rfl (lv_at hl 3 rfl) ?_
            refine lv_isub hx hb dX6_line_60 ?_
            obtain ⟨r4, hF, E⟩ := bn_e E
            refine callVi (wo := (wX6 a0 a1 a2 a3 a4 a5 a6 v_isKept ++ wX0 cI a1 a7 a8 a9 fr_pins fr_bars fr_names fr_lesser fr_greater)) h0 (c_X0_barLetter l D cI cZ cS a1 a7 a8 a9 fr_pins fr_bars fr_names fr_lesser fr_greater l3 (p1 - l2) r4 hF) (gV wq_515 wq_516 wq_517 wq_2 wq_518) hdX0_barLetter ⟨Nat.le_of_ble_eq_true rfl, Nat.le_of_ble_eq_true rfl⟩ ⟨Nat.le_refl _, Nat.le_refl _⟩ hP hD hS hA 0 0 rfl rfl rfl [1, 2, 3, 4] rfl rfl rfl rfl hl.1 rfl (Nat.le_of_ble_eq_true rfl) dX6_line_61 (fun H locs hP hD hS => ?_)
            exact hfin _ (Option.some.inj E) _ _ _ _ hP hD hS dX6_line_64
      refine lv_iload_n hx hb dX6_line_4 rfl (lv_at hl 3 rfl) ?_
      refine lv_aload_n hx hb dX6_line_5 rfl (lv_at hl 0 rfl) ?_
      refine gf_X6_10 h0 hP 0 rfl rfl dX6_line_6 ?_
      refine gf_X6_98 h0 hP 1 rfl rfl dX6_line_9 ?_
      refine lv_icmp_ge (tgt := 76) hx hb dX6_line_12 (by decide) (fun c5 => ?_) (fun c5 => ?_)
      · have E := br_p E c5
        refine lv_iload_n hx hb dX6_line_76 rfl (lv_at hl 1 rfl) ?_
        refine lv_iconst (v := (-1)) hx hb dX6_line_77 (by decide) ?_
        refine lv_icmp_ne (tgt := 85) hx hb dX6_line_78 (by decide) (fun c6 => ?_) (fun c6 => ?_)
        · have E := br_n E c6
          refine lv_iconst (v := (-1)) hx hb dX6_line_85 (by decide) ?_
          exact hfin _ (Option.some.inj E) _ _ _ _ hP hD hS dX6_line_86
        · have E := br_p E c6
          refine lv_iload_n hx hb dX6_line_81 rfl (lv_at hl 2 rfl) ?_
          refine lv_goto (tgt := 86) hx hb dX6_line_82 (by decide) ?_
          exact hfin _ (Option.some.inj E) _ _ _ _ hP hD hS dX6_line_86
      · have E := br_n E c5
        refine lv_iload_n hx hb dX6_line_15 rfl (lv_at hl 3 rfl) ?_
        refine lv_if_le (tgt := 30) hx hb dX6_line_16 (by decide) (fun c7 => ?_) (fun c7 => ?_)
        · have E := br_p E c7
          exact J30 _ _ _ _ _ E hP hD hS (lv_sub hl [0, 1, 2, 3] rfl)
        · have E := br_n E c7
          refine lv_iload_n hx hb dX6_line_19 rfl (lv_at hl 1 rfl) ?_
          refine lv_iload_n hx hb dX6_line_20 rfl (lv_at hl 2 rfl) ?_
          refine lv_icmp_ne (tgt := 27) hx hb dX6_line_21 (by decide) (fun c8 => ?_) (fun c8 => ?_)
          · have E := br_n E c8
            refine lv_iinc (v := (l2 + 1)) (lv' := [(2, .int (l2 + 1)), (0, .ref a0), (1, .int p1), (3, .int l3)]) hx hb dX6_line_27 hl (k := 2) rfl rfl (by decide) rfl (fun ls hl => ?_)
            exact J30 _ _ _ _ _ E hP hD hS (lv_sub hl [1, 2, 0, 3] rfl)
          · have E := br_p E c8
            refine lv_bipush (v := 32) hx hb dX6_line_24 (by decide) ?_
            exact hfin _ (Option.some.inj E) _ _ _ _ hP hD hS dX6_line_26
  refine lv_iconst (v := 0) hx hb dX6_line_0 (by decide) ?_
  refine lv_istore_n (lv' := [(2, .int 0), (0, .ref a0), (1, .int p1)]) hx hb dX6_line_1 rfl hl (by decide) rfl (fun ls hl => ?_)
  refine lv_iconst (v := 0) hx hb dX6_line_2 (by decide) ?_
  refine lv_istore_n (lv' := [(3, .int 0), (2, .int 0), (0, .ref a0), (1, .int p1)]) hx hb dX6_line_3 rfl hl (by decide) rfl (fun ls hl => ?_)
  exact J4 5000 _ _ _ _ _ E hP hD hS (lv_sub hl [2, 3, 1, 0] rfl)
theorem hdX6_isSheet : yX6_isSheet.cls ≠ "java/lang/invoke/MethodHandle" ∧ yX6_isSheet.cls ≠ "java/lang/invoke/VarHandle" ∧ (parseMethodDescriptor yX6_isSheet.desc).map (fun d => d.parameters.length) = some 1 := by decide +kernel
noncomputable def FX6_isSheet (p0 : Int32) : Option (Int32) := (if p0 < 0 then (some 0) else (if 4 ≤ p0 then (some 0) else (some 1)))
set_option maxHeartbeats 4000000 in
set_option maxRecDepth 100000 in
theorem c_X6_isSheet (l : Launch) (D : va_G) (cI cZ cS : ClassId)   (p0 : Int32) (u : Int32) (hF : FX6_isSheet p0 = some u) : MCi l D (tyL cI cZ cS) yX6_isSheet cX6_isSheet 1 (some .boolean) 0 0 [.int p0] ([] : va_W) ([] : va_W) u := by
  refine MCz.mk (by decide) (Nat.le_of_ble_eq_true rfl) ?_
  intro p e s m args below meth c A ls Q h0 hP hD hA hS hl hfin0
  have hfin : ∀ (u' : Int32), u' = u → ∀ (H : Heap) (locs : List Loc) (ls : Array Slot) (pc : Nat), (u' = 0 ∨ u' = 1) → va_P D vwCl ([] : va_W) H → va_D A ([] : va_W) → va_S A s.heap H locs → decode cX6_isSheet pc = .ok (.ireturn, 1) → W p l e (uR 0 0) s m args below meth c H locs 0 0 Q (F0 m pc ls [.int u']) := by intro u' hu; subst hu; exact hfin0
  clear hfin0
  obtain ⟨hx, hb, hr, hlk, hml, hown, hts, hK⟩ := id h0
  have hl : lv_has ls 1 [(0, .int p0)] := hl
  have E := hF
  refine lv_iload_n hx hb dX6_isSheet_0 rfl (lv_at hl 0 rfl) ?_
  refine lv_if_lt (tgt := 13) hx hb dX6_isSheet_1 (by decide) (fun c1 => ?_) (fun c1 => ?_)
  · have E := br_p E c1
    refine lv_iconst (v := 0) hx hb dX6_isSheet_13 (by decide) ?_
    exact hfin _ (Option.some.inj E) _ _ _ _ (Or.inl rfl) hP hD hS dX6_isSheet_14
  · have E := br_n E c1
    refine lv_iload_n hx hb dX6_isSheet_4 rfl (lv_at hl 0 rfl) ?_
    refine lv_iconst (v := 4) hx hb dX6_isSheet_5 (by decide) ?_
    refine lv_icmp_ge (tgt := 13) hx hb dX6_isSheet_6 (by decide) (fun c2 => ?_) (fun c2 => ?_)
    · have E := br_p E c2
      refine lv_iconst (v := 0) hx hb dX6_isSheet_13 (by decide) ?_
      exact hfin _ (Option.some.inj E) _ _ _ _ (Or.inl rfl) hP hD hS dX6_isSheet_14
    · have E := br_n E c2
      refine lv_iconst (v := 1) hx hb dX6_isSheet_9 (by decide) ?_
      refine lv_goto (tgt := 14) hx hb dX6_isSheet_10 (by decide) ?_
      exact hfin _ (Option.some.inj E) _ _ _ _ (Or.inr rfl) hP hD hS dX6_isSheet_14
theorem hdX6_firstOtherwise : yX6_firstOtherwise.cls = RX6 ∧ yX6_firstOtherwise.cls ≠ "java/lang/invoke/MethodHandle" ∧ yX6_firstOtherwise.cls ≠ "java/lang/invoke/VarHandle" ∧ (parseMethodDescriptor yX6_firstOtherwise.desc).map (fun d => d.parameters.length) = some 1 := by decide +kernel
noncomputable def FX6_firstOtherwise_b13 (fr_pins fr_bars : Int32) (fr_lesser fr_greater : Nat → Int32) (sh_size : Int32) (sh_items : Nat → Int32)  (k13 : Int32 → Int32 → Int32 → Int32 → Int32 → (Nat → Int32) → (Nat → Int32) → (Nat → Int32) → Option (Int32 × Int32 × Int32 × Int32 × Int32 × (Nat → Int32) × (Nat → Int32) × (Nat → Int32))) (l2 st_carrying st_rank st_freedoms st_isStiff : Int32) (st_farEnd st_queue st_cameAlong : Nat → Int32) : Option (Int32 × Int32 × Int32 × Int32 × Int32 × (Nat → Int32) × (Nat → Int32) × (Nat → Int32)) := (if sh_size ≤ l2 then (if fr_bars ≤ sh_size then (some ((-1), st_carrying, st_rank, st_freedoms, st_isStiff, st_farEnd, st_queue, st_cameAlong)) else (some (sh_size, st_carrying, st_rank, st_freedoms, st_isStiff, st_farEnd, st_queue, st_cameAlong))) else (if fr_bars ≤ l2 then (some (l2, st_carrying, st_rank, st_freedoms, st_isStiff, st_farEnd, st_queue, st_cameAlong)) else ((FX2_tellsCarrying l2 sh_size sh_items).bind (fun r4 => (if r4 = ((st_carrying >>> (l2 &&& 31)) &&& 1) then (k13 (l2 + 1) st_carrying st_rank st_freedoms st_isStiff st_farEnd st_queue st_cameAlong) else (some (l2, st_carrying, st_rank, st_freedoms, st_isStiff, st_farEnd, st_queue, st_cameAlong)))))))
noncomputable def FX6_firstOtherwise_h13 (fr_pins fr_bars : Int32) (fr_lesser fr_greater : Nat → Int32) (sh_size : Int32) (sh_items : Nat → Int32)  : Nat → Int32 → Int32 → Int32 → Int32 → Int32 → (Nat → Int32) → (Nat → Int32) → (Nat → Int32) → Option (Int32 × Int32 × Int32 × Int32 × Int32 × (Nat → Int32) × (Nat → Int32) × (Nat → Int32))
  | 0 => fun _ _ _ _ _ _ _ _ => none
  | n + 1 => fun l2 st_carrying st_rank st_freedoms st_isStiff st_farEnd st_queue st_cameAlong => FX6_firstOtherwise_b13 fr_pins fr_bars fr_lesser fr_greater sh_size sh_items  (FX6_firstOtherwise_h13 fr_pins fr_bars fr_lesser fr_greater sh_size sh_items  n) l2 st_carrying st_rank st_freedoms st_isStiff st_farEnd st_queue st_cameAlong
noncomputable def FX6_firstOtherwise (fr_pins fr_bars : Int32) (fr_lesser fr_greater : Nat → Int32) (st_carrying st_rank st_freedoms st_isStiff : Int32) (st_farEnd st_queue st_cameAlong : Nat → Int32) (sh_size : Int32) (sh_items : Nat → Int32) : Option (Int32 × Int32 × Int32 × Int32 × Int32 × (Nat → Int32) × (Nat → Int32) × (Nat → Int32)) := ((FX3_settle st_carrying st_rank st_freedoms st_isStiff st_farEnd st_queue st_cameAlong fr_pins fr_bars fr_lesser fr_greater).bind (fun r6 => (FX6_firstOtherwise_h13 fr_pins fr_bars fr_lesser fr_greater sh_size sh_items  5000 0 r6.1 r6.2.1 r6.2.2.1 r6.2.2.2.1 r6.2.2.2.2.1 r6.2.2.2.2.2.1 r6.2.2.2.2.2.2)))
set_option maxHeartbeats 4000000 in
set_option maxRecDepth 100000 in
theorem c_X6_firstOtherwise (l : Launch) (D : va_G) (cI cZ cS : ClassId) (a0 a1 a2 a3 a4 a5 a6 a7 a8 a9 a10 a11 a12 a13 a14 a15 a16 a17 a18 : Nat) (v_isKept fr_pins fr_bars : Int32) (fr_names fr_lesser fr_greater st_near st_tiedTo st_parts : Nat → Int32) (st_partCount st_carrying st_rank st_freedoms st_isStiff st_worstBy st_worstPins : Int32) (st_farEnd st_queue st_cameAlong : Nat → Int32) (sh_sort sh_size : Int32) (sh_items : Nat → Int32)  (u : Int32 × Int32 × Int32 × Int32 × Int32 × (Nat → Int32) × (Nat → Int32) × (Nat → Int32)) (hF : FX6_firstOtherwise fr_pins fr_bars fr_lesser fr_greater st_carrying st_rank st_freedoms st_isStiff st_farEnd st_queue st_cameAlong sh_size sh_items = some u) : MCi l D (tyL cI cZ cS) yX6_firstOtherwise cX6_firstOtherwise 3 (some .int) 5 126 [.ref a0, .ref a17] (wX6 a0 a1 a2 a3 a4 a5 a6 v_isKept ++ wX0 cI a1 a7 a8 a9 fr_pins fr_bars fr_names fr_lesser fr_greater ++ wX3 cI a4 a10 a11 a12 a13 a14 a15 a16 st_near st_tiedTo st_parts st_partCount st_carrying st_rank st_freedoms st_isStiff st_worstBy st_worstPins st_farEnd st_queue st_cameAlong ++ wX2 cI a17 a18 sh_sort sh_size sh_items) (wX6 a0 a1 a2 a3 a4 a5 a6 v_isKept ++ wX0 cI a1 a7 a8 a9 fr_pins fr_bars fr_names fr_lesser fr_greater ++ wX3 cI a4 a10 a11 a12 a13 a14 a15 a16 st_near st_tiedTo st_parts st_partCount u.2.1 u.2.2.1 u.2.2.2.1 u.2.2.2.2.1 st_worstBy st_worstPins u.2.2.2.2.2.1 u.2.2.2.2.2.2.1 u.2.2.2.2.2.2.2 ++ wX2 cI a17 a18 sh_sort sh_size sh_items) u.1 := by
  refine MCi.mk (by decide) (Nat.le_of_ble_eq_true rfl) ?_
  intro p e s m args below meth c A ls Q h0 hP hD hA hS hl hfin0
  have hfin : ∀ (u' : Int32 × Int32 × Int32 × Int32 × Int32 × (Nat → Int32) × (Nat → Int32) × (Nat → Int32)), u' = u → ∀ (H : Heap) (locs : List Loc) (ls : Array Slot) (pc : Nat), va_P D vwCl (wX6 a0 a1 a2 a3 a4 a5 a6 v_isKept ++ wX0 cI a1 a7 a8 a9 fr_pins fr_bars fr_names fr_lesser fr_greater ++ wX3 cI a4 a10 a11 a12 a13 a14 a15 a16 st_near st_tiedTo st_parts st_partCount u'.2.1 u'.2.2.1 u'.2.2.2.1 u'.2.2.2.2.1 st_worstBy st_worstPins u'.2.2.2.2.2.1 u'.2.2.2.2.2.2.1 u'.2.2.2.2.2.2.2 ++ wX2 cI a17 a18 sh_sort sh_size sh_items) H → va_D A (wX6 a0 a1 a2 a3 a4 a5 a6 v_isKept ++ wX0 cI a1 a7 a8 a9 fr_pins fr_bars fr_names fr_lesser fr_greater ++ wX3 cI a4 a10 a11 a12 a13 a14 a15 a16 st_near st_tiedTo st_parts st_partCount u'.2.1 u'.2.2.1 u'.2.2.2.1 u'.2.2.2.2.1 st_worstBy st_worstPins u'.2.2.2.2.2.1 u'.2.2.2.2.2.2.1 u'.2.2.2.2.2.2.2 ++ wX2 cI a17 a18 sh_sort sh_size sh_items) → va_S A s.heap H locs → decode cX6_firstOtherwise pc = .ok (.ireturn, 1) → W p l e (uR 5 126) s m args below meth c H locs 0 0 Q (F0 m pc ls [.int u'.1]) := by intro u' hu; subst hu; exact hfin0
  clear hfin0
  obtain ⟨hx, hb, hr, hlk, hml, hown, hts, hK⟩ := id h0
  have hl : lv_has ls 3 [(0, .ref a0), (1, .ref a17)] := hl
  have E := hF
  have J13 : ∀ (n13 : Nat) (l2 st_carrying st_rank st_freedoms st_isStiff : Int32) (st_farEnd st_queue st_cameAlong : Nat → Int32) (H : Heap) (locs : List Loc) (ls : Array Slot), FX6_firstOtherwise_h13 fr_pins fr_bars fr_lesser fr_greater sh_size sh_items  n13 l2 st_carrying st_rank st_freedoms st_isStiff st_farEnd st_queue st_cameAlong = some u → va_P D vwCl (wX6 a0 a1 a2 a3 a4 a5 a6 v_isKept ++ wX0 cI a1 a7 a8 a9 fr_pins fr_bars fr_names fr_lesser fr_greater ++ wX3 cI a4 a10 a11 a12 a13 a14 a15 a16 st_near st_tiedTo st_parts st_partCount st_carrying st_rank st_freedoms st_isStiff st_worstBy st_worstPins st_farEnd st_queue st_cameAlong ++ wX2 cI a17 a18 sh_sort sh_size sh_items) H → va_D A (wX6 a0 a1 a2 a3 a4 a5 a6 v_isKept ++ wX0 cI a1 a7 a8 a9 fr_pins fr_bars fr_names fr_lesser fr_greater ++ wX3 cI a4 a10 a11 a12 a13 a14 a15 a16 st_near st_tiedTo st_parts st_partCount st_carrying st_rank st_freedoms st_isStiff st_worstBy st_worstPins st_farEnd st_queue st_cameAlong ++ wX2 cI a17 a18 sh_sort sh_size sh_items) → va_S A s.heap H locs → lv_has ls 3 [(0, .ref a0), (1, .ref a17), (2, .int l2)] → W p l e (uR 5 126) s m args below meth c H locs 0 0 Q (F0 m 13 ls []) := by
    intro n13
    induction n13 with
    | zero => intro l2 st_carrying st_rank st_freedoms st_isStiff st_farEnd st_queue st_cameAlong H locs ls E; exact none_e E
    | succ n13 ih13 =>
      intro l2 st_carrying st_rank st_freedoms st_isStiff st_farEnd st_queue st_cameAlong H locs ls E hP hD hS hl
      have E : FX6_firstOtherwise_b13 fr_pins fr_bars fr_lesser fr_greater sh_size sh_items  (FX6_firstOtherwise_h13 fr_pins fr_bars fr_lesser fr_greater sh_size sh_items  n13) l2 st_carrying st_rank st_freedoms st_isStiff st_farEnd st_queue st_cameAlong = some u := E
      refine lv_iload_n hx hb dX6_firstOtherwise_13 rfl (lv_at hl 2 rfl) ?_
      refine lv_aload_n hx hb dX6_firstOtherwise_14 rfl (lv_at hl 1 rfl) ?_
      refine gf_X6_210 h0 hP 13 rfl rfl dX6_firstOtherwise_15 ?_
      refine lv_icmp_ge (tgt := 59) hx hb dX6_firstOtherwise_18 (by decide) (fun c1 => ?_) (fun c1 => ?_)
      · have E := br_p E c1
        refine lv_aload_n hx hb dX6_firstOtherwise_59 rfl (lv_at hl 1 rfl) ?_
        refine gf_X6_210 h0 hP 13 rfl rfl dX6_firstOtherwise_60 ?_
        refine lv_aload_n hx hb dX6_firstOtherwise_63 rfl (lv_at hl 0 rfl) ?_
        refine gf_X6_10 h0 hP 0 rfl rfl dX6_firstOtherwise_64 ?_
        refine gf_X6_98 h0 hP 1 rfl rfl dX6_firstOtherwise_67 ?_
        refine lv_icmp_ge (tgt := 80) hx hb dX6_firstOtherwise_70 (by decide) (fun c2 => ?_) (fun c2 => ?_)
        · have E := br_p E c2
          refine lv_iconst (v := (-1)) hx hb dX6_firstOtherwise_80 (by decide) ?_
          exact hfin _ (Option.some.inj E) _ _ _ _ hP hD hS dX6_firstOtherwise_81
        · have E := br_n E c2
          refine lv_aload_n hx hb dX6_firstOtherwise_73 rfl (lv_at hl 1 rfl) ?_
          refine gf_X6_210 h0 hP 13 rfl rfl dX6_firstOtherwise_74 ?_
          refine lv_goto (tgt := 81) hx hb dX6_firstOtherwise_77 (by decide) ?_
          exact hfin _ (Option.some.inj E) _ _ _ _ hP hD hS dX6_firstOtherwise_81
      · have E := br_n E c1
        refine lv_iload_n hx hb dX6_firstOtherwise_21 rfl (lv_at hl 2 rfl) ?_
        refine lv_aload_n hx hb dX6_firstOtherwise_22 rfl (lv_at hl 0 rfl) ?_
        refine gf_X6_10 h0 hP 0 rfl rfl dX6_firstOtherwise_23 ?_
        refine gf_X6_98 h0 hP 1 rfl rfl dX6_firstOtherwise_26 ?_
        refine lv_icmp_ge (tgt := 51) hx hb dX6_firstOtherwise_29 (by decide) (fun c3 => ?_) (fun c3 => ?_)
        · have E := br_p E c3
          refine lv_iload_n hx hb dX6_firstOtherwise_51 rfl (lv_at hl 2 rfl) ?_
          exact hfin _ (Option.some.inj E) _ _ _ _ hP hD hS dX6_firstOtherwise_52
        · have E := br_n E c3
          refine lv_aload_n hx hb dX6_firstOtherwise_32 rfl (lv_at hl 1 rfl) ?_
          refine lv_iload_n hx hb dX6_firstOtherwise_33 rfl (lv_at hl 2 rfl) ?_
          obtain ⟨r4, hF, E⟩ := bn_e E
          refine callVi (wo := (wX6 a0 a1 a2 a3 a4 a5 a6 v_isKept ++ wX0 cI a1 a7 a8 a9 fr_pins fr_bars fr_names fr_lesser fr_greater ++ wX3 cI a4 a10 a11 a12 a13 a14 a15 a16 st_near st_tiedTo st_parts st_partCount st_carrying st_rank st_freedoms st_isStiff st_worstBy st_worstPins st_farEnd st_queue st_cameAlong ++ wX2 cI a17 a18 sh_sort sh_size sh_items)) h0 (c_X2_tellsCarrying l D cI cZ cS a17 a18 sh_sort sh_size sh_items l2 r4 hF) (gV wq_535 wq_536 wq_537 wq_7 wq_538) hdX2_tellsCarrying ⟨Nat.le_of_ble_eq_true rfl, Nat.le_of_ble_eq_true rfl⟩ ⟨Nat.le_refl _, Nat.le_refl _⟩ hP hD hS hA 0 2 rfl rfl rfl [13, 14] rfl rfl rfl rfl hl.1 rfl (Nat.le_of_ble_eq_true rfl) dX6_firstOtherwise_34 (fun H locs hP hD hS => ?_)
          refine lv_aload_n hx hb dX6_firstOtherwise_37 rfl (lv_at hl 0 rfl) ?_
          refine gf_X6_33 h0 hP 0 rfl rfl dX6_firstOtherwise_38 ?_
          refine gf_X6_130 h0 hP 5 rfl rfl dX6_firstOtherwise_41 ?_
          refine lv_iload_n hx hb dX6_firstOtherwise_44 rfl (lv_at hl 2 rfl) ?_
          refine lv_ishr hx hb dX6_firstOtherwise_45 ?_
          refine lv_iconst (v := 1) hx hb dX6_firstOtherwise_46 (by decide) ?_
          refine lv_iand hx hb dX6_firstOtherwise_47 ?_
          refine lv_icmp_eq (tgt := 53) hx hb dX6_firstOtherwise_48 (by decide) (fun c5 => ?_) (fun c5 => ?_)
          · have E := br_p E c5
            refine lv_iinc (v := (l2 + 1)) (lv' := [(2, .int (l2 + 1)), (0, .ref a0), (1, .ref a17)]) hx hb dX6_firstOtherwise_53 hl (k := 2) rfl rfl (by decide) rfl (fun ls hl => ?_)
            refine lv_goto (tgt := 13) hx hb dX6_firstOtherwise_56 (by decide) ?_
            exact ih13 _ _ _ _ _ _ _ _ _ _ _ E hP hD hS (lv_sub hl [1, 2, 0] rfl)
          · have E := br_n E c5
            refine lv_iload_n hx hb dX6_firstOtherwise_51 rfl (lv_at hl 2 rfl) ?_
            exact hfin _ (Option.some.inj E) _ _ _ _ hP hD hS dX6_firstOtherwise_52
  refine lv_aload_n hx hb dX6_firstOtherwise_0 rfl (lv_at hl 0 rfl) ?_
  refine gf_X6_33 h0 hP 0 rfl rfl dX6_firstOtherwise_1 ?_
  refine lv_aload_n hx hb dX6_firstOtherwise_4 rfl (lv_at hl 0 rfl) ?_
  refine gf_X6_10 h0 hP 0 rfl rfl dX6_firstOtherwise_5 ?_
  obtain ⟨r6, hF, E⟩ := bn_e E
  refine callVv (wo := (wX6 a0 a1 a2 a3 a4 a5 a6 v_isKept ++ wX0 cI a1 a7 a8 a9 fr_pins fr_bars fr_names fr_lesser fr_greater ++ wX3 cI a4 a10 a11 a12 a13 a14 a15 a16 st_near st_tiedTo st_parts st_partCount r6.1 r6.2.1 r6.2.2.1 r6.2.2.2.1 st_worstBy st_worstPins r6.2.2.2.2.1 r6.2.2.2.2.2.1 r6.2.2.2.2.2.2 ++ wX2 cI a17 a18 sh_sort sh_size sh_items)) h0 (c_X3_settle l D cI cZ cS a4 a10 a11 a12 a13 a14 a15 a16 a1 a7 a8 a9 st_near st_tiedTo st_parts st_partCount st_carrying st_rank st_freedoms st_isStiff st_worstBy st_worstPins st_farEnd st_queue st_cameAlong fr_pins fr_bars fr_names fr_lesser fr_greater r6 hF) (gV wq_321 wq_322 wq_323 wq_4 wq_324) hdX3_settle ⟨Nat.le_of_ble_eq_true rfl, Nat.le_of_ble_eq_true rfl⟩ ⟨Nat.le_refl _, Nat.le_refl _⟩ hP hD hS hA 0 3 rfl rfl rfl [5, 6, 7, 8, 9, 10, 11, 12, 1, 2, 3, 4] rfl rfl rfl rfl hl.1 rfl (Nat.le_of_ble_eq_true rfl) dX6_firstOtherwise_8 (fun H locs hP hD hS => ?_)
  refine lv_iconst (v := 0) hx hb dX6_firstOtherwise_11 (by decide) ?_
  refine lv_istore_n (lv' := [(2, .int 0), (0, .ref a0), (1, .ref a17)]) hx hb dX6_firstOtherwise_12 rfl hl (by decide) rfl (fun ls hl => ?_)
  exact J13 5000 _ _ _ _ _ _ _ _ _ _ _ E hP hD hS (lv_sub hl [1, 2, 0] rfl)
theorem hdX6_lastOnesAsTold : yX6_lastOnesAsTold.cls = RX6 ∧ yX6_lastOnesAsTold.cls ≠ "java/lang/invoke/MethodHandle" ∧ yX6_lastOnesAsTold.cls ≠ "java/lang/invoke/VarHandle" ∧ (parseMethodDescriptor yX6_lastOnesAsTold.desc).map (fun d => d.parameters.length) = some 1 := by decide +kernel
noncomputable def FX6_lastOnesAsTold_b85 (fr_bars : Int32) (fr_lesser fr_greater : Nat → Int32) (sh_size : Int32) (sh_items : Nat → Int32) (k49 : Int32 → Int32 → Int32 → (Nat → Int32) → (Nat → Int32) → (Nat → Int32) → Option (Int32 × (Nat → Int32) × (Nat → Int32) × (Nat → Int32))) (l2 l3 l4 : Int32) (st_farEnd st_queue st_cameAlong : Nat → Int32) : Option (Int32 × (Nat → Int32) × (Nat → Int32) × (Nat → Int32)) := (k49 l2 l3 (l4 + 1) st_farEnd st_queue st_cameAlong)
noncomputable def FX6_lastOnesAsTold_b49 (fr_bars : Int32) (fr_lesser fr_greater : Nat → Int32) (sh_size : Int32) (sh_items : Nat → Int32)  (k49 : Int32 → Int32 → Int32 → (Nat → Int32) → (Nat → Int32) → (Nat → Int32) → Option (Int32 × (Nat → Int32) × (Nat → Int32) × (Nat → Int32))) (l2 l3 l4 : Int32) (st_farEnd st_queue st_cameAlong : Nat → Int32) : Option (Int32 × (Nat → Int32) × (Nat → Int32) × (Nat → Int32)) := (if fr_bars ≤ l4 then (some (l3, st_farEnd, st_queue, st_cameAlong)) else ((FX3_carryingWithLast l4 st_farEnd st_queue st_cameAlong fr_bars fr_lesser fr_greater).bind (fun r2 => (if r2.1 = l2 then (FX6_lastOnesAsTold_b85 fr_bars fr_lesser fr_greater sh_size sh_items k49 l2 (l3 ||| ((1 : Int32) <<< (l4 &&& 31))) l4 r2.2.1 r2.2.2.1 r2.2.2.2) else (FX6_lastOnesAsTold_b85 fr_bars fr_lesser fr_greater sh_size sh_items k49 l2 l3 l4 r2.2.1 r2.2.2.1 r2.2.2.2)))))
noncomputable def FX6_lastOnesAsTold_h49 (fr_bars : Int32) (fr_lesser fr_greater : Nat → Int32) (sh_size : Int32) (sh_items : Nat → Int32)  : Nat → Int32 → Int32 → Int32 → (Nat → Int32) → (Nat → Int32) → (Nat → Int32) → Option (Int32 × (Nat → Int32) × (Nat → Int32) × (Nat → Int32))
  | 0 => fun _ _ _ _ _ _ => none
  | n + 1 => fun l2 l3 l4 st_farEnd st_queue st_cameAlong => FX6_lastOnesAsTold_b49 fr_bars fr_lesser fr_greater sh_size sh_items  (FX6_lastOnesAsTold_h49 fr_bars fr_lesser fr_greater sh_size sh_items  n) l2 l3 l4 st_farEnd st_queue st_cameAlong
noncomputable def FX6_lastOnesAsTold_b20 (fr_bars : Int32) (fr_lesser fr_greater : Nat → Int32) (sh_size : Int32) (sh_items : Nat → Int32)  (k20 : Int32 → Int32 → (Nat → Int32) → (Nat → Int32) → (Nat → Int32) → Option (Int32 × (Nat → Int32) × (Nat → Int32) × (Nat → Int32))) (l2 l3 : Int32) (st_farEnd st_queue st_cameAlong : Nat → Int32) : Option (Int32 × (Nat → Int32) × (Nat → Int32) × (Nat → Int32)) := (if sh_size ≤ l3 then (FX6_lastOnesAsTold_h49 fr_bars fr_lesser fr_greater sh_size sh_items  5000 l2 0 0 st_farEnd st_queue st_cameAlong) else ((FX2_tellsCarrying l3 sh_size sh_items).bind (fun r5 => (k20 (l2 ||| (r5 <<< (l3 &&& 31))) (l3 + 1) st_farEnd st_queue st_cameAlong))))
noncomputable def FX6_lastOnesAsTold_h20 (fr_bars : Int32) (fr_lesser fr_greater : Nat → Int32) (sh_size : Int32) (sh_items : Nat → Int32)  : Nat → Int32 → Int32 → (Nat → Int32) → (Nat → Int32) → (Nat → Int32) → Option (Int32 × (Nat → Int32) × (Nat → Int32) × (Nat → Int32))
  | 0 => fun _ _ _ _ _ => none
  | n + 1 => fun l2 l3 st_farEnd st_queue st_cameAlong => FX6_lastOnesAsTold_b20 fr_bars fr_lesser fr_greater sh_size sh_items  (FX6_lastOnesAsTold_h20 fr_bars fr_lesser fr_greater sh_size sh_items  n) l2 l3 st_farEnd st_queue st_cameAlong
noncomputable def FX6_lastOnesAsTold (fr_bars : Int32) (fr_lesser fr_greater st_farEnd st_queue st_cameAlong : Nat → Int32) (sh_size : Int32) (sh_items : Nat → Int32) : Option (Int32 × (Nat → Int32) × (Nat → Int32) × (Nat → Int32)) := (if sh_size = fr_bars then (FX6_lastOnesAsTold_h20 fr_bars fr_lesser fr_greater sh_size sh_items  5000 0 0 st_farEnd st_queue st_cameAlong) else (some (0, st_farEnd, st_queue, st_cameAlong)))
set_option maxHeartbeats 4000000 in
set_option maxRecDepth 100000 in
theorem c_X6_lastOnesAsTold (l : Launch) (D : va_G) (cI cZ cS : ClassId) (a0 a1 a2 a3 a4 a5 a6 a7 a8 a9 a10 a11 a12 a13 a14 a15 a16 a17 a18 : Nat) (v_isKept fr_pins fr_bars : Int32) (fr_names fr_lesser fr_greater st_near st_tiedTo st_parts : Nat → Int32) (st_partCount st_carrying st_rank st_freedoms st_isStiff st_worstBy st_worstPins : Int32) (st_farEnd st_queue st_cameAlong : Nat → Int32) (sh_sort sh_size : Int32) (sh_items : Nat → Int32)  (u : Int32 × (Nat → Int32) × (Nat → Int32) × (Nat → Int32)) (hF : FX6_lastOnesAsTold fr_bars fr_lesser fr_greater st_farEnd st_queue st_cameAlong sh_size sh_items = some u) : MCi l D (tyL cI cZ cS) yX6_lastOnesAsTold cX6_lastOnesAsTold 5 (some .int) 4 105 [.ref a0, .ref a17] (wX6 a0 a1 a2 a3 a4 a5 a6 v_isKept ++ wX0 cI a1 a7 a8 a9 fr_pins fr_bars fr_names fr_lesser fr_greater ++ wX3 cI a4 a10 a11 a12 a13 a14 a15 a16 st_near st_tiedTo st_parts st_partCount st_carrying st_rank st_freedoms st_isStiff st_worstBy st_worstPins st_farEnd st_queue st_cameAlong ++ wX2 cI a17 a18 sh_sort sh_size sh_items) (wX6 a0 a1 a2 a3 a4 a5 a6 v_isKept ++ wX0 cI a1 a7 a8 a9 fr_pins fr_bars fr_names fr_lesser fr_greater ++ wX3 cI a4 a10 a11 a12 a13 a14 a15 a16 st_near st_tiedTo st_parts st_partCount st_carrying st_rank st_freedoms st_isStiff st_worstBy st_worstPins u.2.1 u.2.2.1 u.2.2.2 ++ wX2 cI a17 a18 sh_sort sh_size sh_items) u.1 := by
  refine MCi.mk (by decide) (Nat.le_of_ble_eq_true rfl) ?_
  intro p e s m args below meth c A ls Q h0 hP hD hA hS hl hfin0
  have hfin : ∀ (u' : Int32 × (Nat → Int32) × (Nat → Int32) × (Nat → Int32)), u' = u → ∀ (H : Heap) (locs : List Loc) (ls : Array Slot) (pc : Nat), va_P D vwCl (wX6 a0 a1 a2 a3 a4 a5 a6 v_isKept ++ wX0 cI a1 a7 a8 a9 fr_pins fr_bars fr_names fr_lesser fr_greater ++ wX3 cI a4 a10 a11 a12 a13 a14 a15 a16 st_near st_tiedTo st_parts st_partCount st_carrying st_rank st_freedoms st_isStiff st_worstBy st_worstPins u'.2.1 u'.2.2.1 u'.2.2.2 ++ wX2 cI a17 a18 sh_sort sh_size sh_items) H → va_D A (wX6 a0 a1 a2 a3 a4 a5 a6 v_isKept ++ wX0 cI a1 a7 a8 a9 fr_pins fr_bars fr_names fr_lesser fr_greater ++ wX3 cI a4 a10 a11 a12 a13 a14 a15 a16 st_near st_tiedTo st_parts st_partCount st_carrying st_rank st_freedoms st_isStiff st_worstBy st_worstPins u'.2.1 u'.2.2.1 u'.2.2.2 ++ wX2 cI a17 a18 sh_sort sh_size sh_items) → va_S A s.heap H locs → decode cX6_lastOnesAsTold pc = .ok (.ireturn, 1) → W p l e (uR 4 105) s m args below meth c H locs 0 0 Q (F0 m pc ls [.int u'.1]) := by intro u' hu; subst hu; exact hfin0
  clear hfin0
  obtain ⟨hx, hb, hr, hlk, hml, hown, hts, hK⟩ := id h0
  have hl : lv_has ls 5 [(0, .ref a0), (1, .ref a17)] := hl
  have E := hF
  have J49 : ∀ (n49 : Nat) (l2 l3 l4 : Int32) (st_farEnd st_queue st_cameAlong : Nat → Int32) (H : Heap) (locs : List Loc) (ls : Array Slot), FX6_lastOnesAsTold_h49 fr_bars fr_lesser fr_greater sh_size sh_items  n49 l2 l3 l4 st_farEnd st_queue st_cameAlong = some u → va_P D vwCl (wX6 a0 a1 a2 a3 a4 a5 a6 v_isKept ++ wX0 cI a1 a7 a8 a9 fr_pins fr_bars fr_names fr_lesser fr_greater ++ wX3 cI a4 a10 a11 a12 a13 a14 a15 a16 st_near st_tiedTo st_parts st_partCount st_carrying st_rank st_freedoms st_isStiff st_worstBy st_worstPins st_farEnd st_queue st_cameAlong ++ wX2 cI a17 a18 sh_sort sh_size sh_items) H → va_D A (wX6 a0 a1 a2 a3 a4 a5 a6 v_isKept ++ wX0 cI a1 a7 a8 a9 fr_pins fr_bars fr_names fr_lesser fr_greater ++ wX3 cI a4 a10 a11 a12 a13 a14 a15 a16 st_near st_tiedTo st_parts st_partCount st_carrying st_rank st_freedoms st_isStiff st_worstBy st_worstPins st_farEnd st_queue st_cameAlong ++ wX2 cI a17 a18 sh_sort sh_size sh_items) → va_S A s.heap H locs → lv_has ls 5 [(0, .ref a0), (2, .int l2), (3, .int l3), (4, .int l4)] → W p l e (uR 4 105) s m args below meth c H locs 0 0 Q (F0 m 49 ls []) := by
    intro n49
    induction n49 with
    | zero => intro l2 l3 l4 st_farEnd st_queue st_cameAlong H locs ls E; exact none_e E
    | succ n49 ih49 =>
      intro l2 l3 l4 st_farEnd st_queue st_cameAlong H locs ls E hP hD hS hl
      have E : FX6_lastOnesAsTold_b49 fr_bars fr_lesser fr_greater sh_size sh_items  (FX6_lastOnesAsTold_h49 fr_bars fr_lesser fr_greater sh_size sh_items  n49) l2 l3 l4 st_farEnd st_queue st_cameAlong = some u := E
      have J85 : ∀ (l2 l3 l4 : Int32) (st_farEnd st_queue st_cameAlong : Nat → Int32) (H : Heap) (locs : List Loc) (ls : Array Slot), FX6_lastOnesAsTold_b85 fr_bars fr_lesser fr_greater sh_size sh_items (FX6_lastOnesAsTold_h49 fr_bars fr_lesser fr_greater sh_size sh_items  n49) l2 l3 l4 st_farEnd st_queue st_cameAlong = some u → va_P D vwCl (wX6 a0 a1 a2 a3 a4 a5 a6 v_isKept ++ wX0 cI a1 a7 a8 a9 fr_pins fr_bars fr_names fr_lesser fr_greater ++ wX3 cI a4 a10 a11 a12 a13 a14 a15 a16 st_near st_tiedTo st_parts st_partCount st_carrying st_rank st_freedoms st_isStiff st_worstBy st_worstPins st_farEnd st_queue st_cameAlong ++ wX2 cI a17 a18 sh_sort sh_size sh_items) H → va_D A (wX6 a0 a1 a2 a3 a4 a5 a6 v_isKept ++ wX0 cI a1 a7 a8 a9 fr_pins fr_bars fr_names fr_lesser fr_greater ++ wX3 cI a4 a10 a11 a12 a13 a14 a15 a16 st_near st_tiedTo st_parts st_partCount st_carrying st_rank st_freedoms st_isStiff st_worstBy st_worstPins st_farEnd st_queue st_cameAlong ++ wX2 cI a17 a18 sh_sort sh_size sh_items) → va_S A s.heap H locs → lv_has ls 5 [(0, .ref a0), (2, .int l2), (3, .int l3), (4, .int l4)] → W p l e (uR 4 105) s m args below meth c H locs 0 0 Q (F0 m 85 ls []) := by
        intro l2 l3 l4 st_farEnd st_queue st_cameAlong H locs ls E hP hD hS hl
        refine lv_iinc (v := (l4 + 1)) (lv' := [(4, .int (l4 + 1)), (0, .ref a0), (2, .int l2), (3, .int l3)]) hx hb dX6_lastOnesAsTold_85 hl (k := 3) rfl rfl (by decide) rfl (fun ls hl => ?_)
        refine lv_goto (tgt := 49) hx hb dX6_lastOnesAsTold_88 (by decide) ?_
        exact ih49 _ _ _ _ _ _ _ _ _ E hP hD hS (lv_sub hl [1, 2, 3, 0] rfl)
      refine lv_iload hx hb dX6_lastOnesAsTold_49 (lv_at hl 3 rfl) ?_
      refine lv_aload_n hx hb dX6_lastOnesAsTold_51 rfl (lv_at hl 0 rfl) ?_
      refine gf_X6_10 h0 hP 0 rfl rfl dX6_lastOnesAsTold_52 ?_
      refine gf_X6_98 h0 hP 1 rfl rfl dX6_lastOnesAsTold_55 ?_
      refine lv_icmp_ge (tgt := 91) hx hb dX6_lastOnesAsTold_58 (by decide) (fun c1 => ?_) (fun c1 => ?_)
      · have E := br_p E c1
        refine lv_iload_n hx hb dX6_lastOnesAsTold_91 rfl (lv_at hl 2 rfl) ?_
        exact hfin _ (Option.some.inj E) _ _ _ _ hP hD hS dX6_lastOnesAsTold_92
      · have E := br_n E c1
        refine lv_aload_n hx hb dX6_lastOnesAsTold_61 rfl (lv_at hl 0 rfl) ?_
        refine gf_X6_33 h0 hP 0 rfl rfl dX6_lastOnesAsTold_62 ?_
        refine lv_aload_n hx hb dX6_lastOnesAsTold_65 rfl (lv_at hl 0 rfl) ?_
        refine gf_X6_10 h0 hP 0 rfl rfl dX6_lastOnesAsTold_66 ?_
        refine lv_iload hx hb dX6_lastOnesAsTold_69 (lv_at hl 3 rfl) ?_
        obtain ⟨r2, hF, E⟩ := bn_e E
        refine callVi (wo := (wX6 a0 a1 a2 a3 a4 a5 a6 v_isKept ++ wX0 cI a1 a7 a8 a9 fr_pins fr_bars fr_names fr_lesser fr_greater ++ wX3 cI a4 a10 a11 a12 a13 a14 a15 a16 st_near st_tiedTo st_parts st_partCount st_carrying st_rank st_freedoms st_isStiff st_worstBy st_worstPins r2.2.1 r2.2.2.1 r2.2.2.2 ++ wX2 cI a17 a18 sh_sort sh_size sh_items)) h0 (c_X3_carryingWithLast l D cI cZ cS a4 a10 a11 a12 a13 a14 a15 a16 a1 a7 a8 a9 st_near st_tiedTo st_parts st_partCount st_carrying st_rank st_freedoms st_isStiff st_worstBy st_worstPins st_farEnd st_queue st_cameAlong fr_pins fr_bars fr_names fr_lesser fr_greater l4 r2 hF) (gV wq_547 wq_326 wq_327 wq_4 wq_328) hdX3_carryingWithLast ⟨Nat.le_of_ble_eq_true rfl, Nat.le_of_ble_eq_true rfl⟩ ⟨Nat.le_refl _, Nat.le_refl _⟩ hP hD hS hA 0 3 rfl rfl rfl [5, 6, 7, 8, 9, 10, 11, 12, 1, 2, 3, 4] rfl rfl rfl rfl hl.1 rfl (Nat.le_of_ble_eq_true rfl) dX6_lastOnesAsTold_71 (fun H locs hP hD hS => ?_)
        refine lv_iload_n hx hb dX6_lastOnesAsTold_74 rfl (lv_at hl 1 rfl) ?_
        refine lv_icmp_ne (tgt := 85) hx hb dX6_lastOnesAsTold_75 (by decide) (fun c3 => ?_) (fun c3 => ?_)
        · have E := br_n E c3
          exact J85 _ _ _ _ _ _ _ _ _ E hP hD hS (lv_sub hl [0, 1, 2, 3] rfl)
        · have E := br_p E c3
          refine lv_iload_n hx hb dX6_lastOnesAsTold_78 rfl (lv_at hl 2 rfl) ?_
          refine lv_iconst (v := 1) hx hb dX6_lastOnesAsTold_79 (by decide) ?_
          refine lv_iload hx hb dX6_lastOnesAsTold_80 (lv_at hl 3 rfl) ?_
          refine lv_ishl hx hb dX6_lastOnesAsTold_82 ?_
          refine lv_ior hx hb dX6_lastOnesAsTold_83 ?_
          refine lv_istore_n (lv' := [(3, .int (l3 ||| ((1 : Int32) <<< (l4 &&& 31)))), (0, .ref a0), (2, .int l2), (4, .int l4)]) hx hb dX6_lastOnesAsTold_84 rfl hl (by decide) rfl (fun ls hl => ?_)
          exact J85 _ _ _ _ _ _ _ _ _ E hP hD hS (lv_sub hl [1, 2, 0, 3] rfl)
  have J20 : ∀ (n20 : Nat) (l2 l3 : Int32) (st_farEnd st_queue st_cameAlong : Nat → Int32) (H : Heap) (locs : List Loc) (ls : Array Slot), FX6_lastOnesAsTold_h20 fr_bars fr_lesser fr_greater sh_size sh_items  n20 l2 l3 st_farEnd st_queue st_cameAlong = some u → va_P D vwCl (wX6 a0 a1 a2 a3 a4 a5 a6 v_isKept ++ wX0 cI a1 a7 a8 a9 fr_pins fr_bars fr_names fr_lesser fr_greater ++ wX3 cI a4 a10 a11 a12 a13 a14 a15 a16 st_near st_tiedTo st_parts st_partCount st_carrying st_rank st_freedoms st_isStiff st_worstBy st_worstPins st_farEnd st_queue st_cameAlong ++ wX2 cI a17 a18 sh_sort sh_size sh_items) H → va_D A (wX6 a0 a1 a2 a3 a4 a5 a6 v_isKept ++ wX0 cI a1 a7 a8 a9 fr_pins fr_bars fr_names fr_lesser fr_greater ++ wX3 cI a4 a10 a11 a12 a13 a14 a15 a16 st_near st_tiedTo st_parts st_partCount st_carrying st_rank st_freedoms st_isStiff st_worstBy st_worstPins st_farEnd st_queue st_cameAlong ++ wX2 cI a17 a18 sh_sort sh_size sh_items) → va_S A s.heap H locs → lv_has ls 5 [(0, .ref a0), (1, .ref a17), (2, .int l2), (3, .int l3)] → W p l e (uR 4 105) s m args below meth c H locs 0 0 Q (F0 m 20 ls []) := by
    intro n20
    induction n20 with
    | zero => intro l2 l3 st_farEnd st_queue st_cameAlong H locs ls E; exact none_e E
    | succ n20 ih20 =>
      intro l2 l3 st_farEnd st_queue st_cameAlong H locs ls E hP hD hS hl
      have E : FX6_lastOnesAsTold_b20 fr_bars fr_lesser fr_greater sh_size sh_items  (FX6_lastOnesAsTold_h20 fr_bars fr_lesser fr_greater sh_size sh_items  n20) l2 l3 st_farEnd st_queue st_cameAlong = some u := E
      refine lv_iload_n hx hb dX6_lastOnesAsTold_20 rfl (lv_at hl 3 rfl) ?_
      refine lv_aload_n hx hb dX6_lastOnesAsTold_21 rfl (lv_at hl 1 rfl) ?_
      refine gf_X6_210 h0 hP 13 rfl rfl dX6_lastOnesAsTold_22 ?_
      refine lv_icmp_ge (tgt := 44) hx hb dX6_lastOnesAsTold_25 (by decide) (fun c4 => ?_) (fun c4 => ?_)
      · have E := br_p E c4
        refine lv_iconst (v := 0) hx hb dX6_lastOnesAsTold_44 (by decide) ?_
        refine lv_istore_n (lv' := [(3, .int 0), (0, .ref a0), (1, .ref a17), (2, .int l2)]) hx hb dX6_lastOnesAsTold_45 rfl hl (by decide) rfl (fun ls hl => ?_)
        refine lv_iconst (v := 0) hx hb dX6_lastOnesAsTold_46 (by decide) ?_
        refine lv_istore (lv' := [(4, .int 0), (3, .int 0), (0, .ref a0), (1, .ref a17), (2, .int l2)]) hx hb dX6_lastOnesAsTold_47 hl (by decide) rfl (fun ls hl => ?_)
        exact J49 5000 _ _ _ _ _ _ _ _ _ E hP hD hS (lv_sub hl [2, 4, 1, 0] rfl)
      · have E := br_n E c4
        refine lv_iload_n hx hb dX6_lastOnesAsTold_28 rfl (lv_at hl 2 rfl) ?_
        refine lv_aload_n hx hb dX6_lastOnesAsTold_29 rfl (lv_at hl 1 rfl) ?_
        refine lv_iload_n hx hb dX6_lastOnesAsTold_30 rfl (lv_at hl 3 rfl) ?_
        obtain ⟨r5, hF, E⟩ := bn_e E
        refine callVi (wo := (wX6 a0 a1 a2 a3 a4 a5 a6 v_isKept ++ wX0 cI a1 a7 a8 a9 fr_pins fr_bars fr_names fr_lesser fr_greater ++ wX3 cI a4 a10 a11 a12 a13 a14 a15 a16 st_near st_tiedTo st_parts st_partCount st_carrying st_rank st_freedoms st_isStiff st_worstBy st_worstPins st_farEnd st_queue st_cameAlong ++ wX2 cI a17 a18 sh_sort sh_size sh_items)) h0 (c_X2_tellsCarrying l D cI cZ cS a17 a18 sh_sort sh_size sh_items l3 r5 hF) (gV wq_535 wq_536 wq_537 wq_7 wq_538) hdX2_tellsCarrying ⟨Nat.le_of_ble_eq_true rfl, Nat.le_of_ble_eq_true rfl⟩ ⟨Nat.le_refl _, Nat.le_refl _⟩ hP hD hS hA 0 2 rfl rfl rfl [13, 14] rfl rfl rfl rfl hl.1 rfl (Nat.le_of_ble_eq_true rfl) dX6_lastOnesAsTold_31 (fun H locs hP hD hS => ?_)
        refine lv_iload_n hx hb dX6_lastOnesAsTold_34 rfl (lv_at hl 3 rfl) ?_
        refine lv_ishl hx hb dX6_lastOnesAsTold_35 ?_
        refine lv_ior hx hb dX6_lastOnesAsTold_36 ?_
        refine lv_istore_n (lv' := [(2, .int (l2 ||| (r5 <<< (l3 &&& 31)))), (0, .ref a0), (1, .ref a17), (3, .int l3)]) hx hb dX6_lastOnesAsTold_37 rfl hl (by decide) rfl (fun ls hl => ?_)
        refine lv_iinc (v := (l3 + 1)) (lv' := [(3, .int (l3 + 1)), (2, .int (l2 ||| (r5 <<< (l3 &&& 31)))), (0, .ref a0), (1, .ref a17)]) hx hb dX6_lastOnesAsTold_38 hl (k := 3) rfl rfl (by decide) rfl (fun ls hl => ?_)
        refine lv_goto (tgt := 20) hx hb dX6_lastOnesAsTold_41 (by decide) ?_
        exact ih20 _ _ _ _ _ _ _ _ E hP hD hS (lv_sub hl [2, 3, 1, 0] rfl)
  refine lv_aload_n hx hb dX6_lastOnesAsTold_0 rfl (lv_at hl 1 rfl) ?_
  refine gf_X6_210 h0 hP 13 rfl rfl dX6_lastOnesAsTold_1 ?_
  refine lv_aload_n hx hb dX6_lastOnesAsTold_4 rfl (lv_at hl 0 rfl) ?_
  refine gf_X6_10 h0 hP 0 rfl rfl dX6_lastOnesAsTold_5 ?_
  refine gf_X6_98 h0 hP 1 rfl rfl dX6_lastOnesAsTold_8 ?_
  refine lv_icmp_eq (tgt := 16) hx hb dX6_lastOnesAsTold_11 (by decide) (fun c6 => ?_) (fun c6 => ?_)
  · have E := br_p E c6
    refine lv_iconst (v := 0) hx hb dX6_lastOnesAsTold_16 (by decide) ?_
    refine lv_istore_n (lv' := [(2, .int 0), (0, .ref a0), (1, .ref a17)]) hx hb dX6_lastOnesAsTold_17 rfl hl (by decide) rfl (fun ls hl => ?_)
    refine lv_iconst (v := 0) hx hb dX6_lastOnesAsTold_18 (by decide) ?_
    refine lv_istore_n (lv' := [(3, .int 0), (2, .int 0), (0, .ref a0), (1, .ref a17)]) hx hb dX6_lastOnesAsTold_19 rfl hl (by decide) rfl (fun ls hl => ?_)
    exact J20 5000 _ _ _ _ _ _ _ _ E hP hD hS (lv_sub hl [2, 3, 1, 0] rfl)
  · have E := br_n E c6
    refine lv_iconst (v := 0) hx hb dX6_lastOnesAsTold_14 (by decide) ?_
    exact hfin _ (Option.some.inj E) _ _ _ _ hP hD hS dX6_lastOnesAsTold_15
theorem hdX6_tells : yX6_tells.cls = RX6 ∧ yX6_tells.cls ≠ "java/lang/invoke/MethodHandle" ∧ yX6_tells.cls ≠ "java/lang/invoke/VarHandle" ∧ (parseMethodDescriptor yX6_tells.desc).map (fun d => d.parameters.length) = some 2 := by decide +kernel
noncomputable def FX6_tells_b19 (p1 p2 fr_pins fr_bars : Int32) (fr_lesser fr_greater : Nat → Int32) (sh_sort sh_size : Int32) (sh_items : Nat → Int32)  (st_carrying st_rank st_freedoms st_isStiff : Int32) (st_farEnd st_queue st_cameAlong : Nat → Int32) : Option (Int32 × Int32 × Int32 × Int32 × Int32 × (Nat → Int32) × (Nat → Int32) × (Nat → Int32)) := (gd (vp_in p1 4) ((FX2_isMissing sh_sort).bind (fun r2 => (if r2 = 0 then (if sh_size ≤ 24 then (if p2 = 0 then ((FX6_firstOtherwise fr_pins fr_bars fr_lesser fr_greater st_carrying st_rank st_freedoms st_isStiff st_farEnd st_queue st_cameAlong sh_size sh_items).bind (fun r7 => (some (r7.1, r7.2.1, r7.2.2.1, r7.2.2.2.1, r7.2.2.2.2.1, r7.2.2.2.2.2.1, r7.2.2.2.2.2.2.1, r7.2.2.2.2.2.2.2)))) else ((FX6_lastOnesAsTold fr_bars fr_lesser fr_greater st_farEnd st_queue st_cameAlong sh_size sh_items).bind (fun r6 => (some (r6.1, st_carrying, st_rank, st_freedoms, st_isStiff, r6.2.1, r6.2.2.1, r6.2.2.2))))) else (some ((-2), st_carrying, st_rank, st_freedoms, st_isStiff, st_farEnd, st_queue, st_cameAlong))) else (some ((-11), st_carrying, st_rank, st_freedoms, st_isStiff, st_farEnd, st_queue, st_cameAlong))))))
noncomputable def FX6_tells (p1 p2 : Int32) (fr_pins fr_bars : Int32) (fr_lesser fr_greater : Nat → Int32) (st_carrying st_rank st_freedoms st_isStiff : Int32) (st_farEnd st_queue st_cameAlong : Nat → Int32) (sh_sort sh_size : Int32) (sh_items : Nat → Int32) : Option (Int32 × Int32 × Int32 × Int32 × Int32 × (Nat → Int32) × (Nat → Int32) × (Nat → Int32)) := ((FX6_isSheet p1).bind (fun r8 => (if r8 = 0 then (some ((-2), st_carrying, st_rank, st_freedoms, st_isStiff, st_farEnd, st_queue, st_cameAlong)) else (if p2 = 0 then (FX6_tells_b19 p1 p2 fr_pins fr_bars fr_lesser fr_greater sh_sort sh_size sh_items  st_carrying st_rank st_freedoms st_isStiff st_farEnd st_queue st_cameAlong) else (if p2 = 1 then (FX6_tells_b19 p1 p2 fr_pins fr_bars fr_lesser fr_greater sh_sort sh_size sh_items  st_carrying st_rank st_freedoms st_isStiff st_farEnd st_queue st_cameAlong) else (some ((-2), st_carrying, st_rank, st_freedoms, st_isStiff, st_farEnd, st_queue, st_cameAlong)))))))
set_option maxHeartbeats 4000000 in
set_option maxRecDepth 100000 in
theorem c_X6_tells (l : Launch) (D : va_G) (cI cZ cS : ClassId) (a0 a1 a2 a3 a4 a5 a6 a7 a8 a9 a10 a11 a12 a13 a14 a15 a16 a17 a18 : Nat) (v_isKept fr_pins fr_bars : Int32) (fr_names fr_lesser fr_greater st_near st_tiedTo st_parts : Nat → Int32) (st_partCount st_carrying st_rank st_freedoms st_isStiff st_worstBy st_worstPins : Int32) (st_farEnd st_queue st_cameAlong : Nat → Int32) (v_sa : Nat → Option Nat) (sh_sort sh_size : Int32) (sh_items : Nat → Int32) (p1 p2 : Int32) (u : Int32 × Int32 × Int32 × Int32 × Int32 × (Nat → Int32) × (Nat → Int32) × (Nat → Int32)) (hF : FX6_tells p1 p2 fr_pins fr_bars fr_lesser fr_greater st_carrying st_rank st_freedoms st_isStiff st_farEnd st_queue st_cameAlong sh_sort sh_size sh_items = some u) (hq_p1 : vp_in p1 4 → v_sa p1.toNatClampNeg = some a17) : MCi l D (tyL cI cZ cS) yX6_tells cX6_tells 4 (some .int) 6 148 [.ref a0, .int p1, .int p2] (wX6 a0 a1 a2 a3 a4 a5 a6 v_isKept ++ wX0 cI a1 a7 a8 a9 fr_pins fr_bars fr_names fr_lesser fr_greater ++ wX3 cI a4 a10 a11 a12 a13 a14 a15 a16 st_near st_tiedTo st_parts st_partCount st_carrying st_rank st_freedoms st_isStiff st_worstBy st_worstPins st_farEnd st_queue st_cameAlong ++ wSA cS a6 v_sa ++ wX2 cI a17 a18 sh_sort sh_size sh_items) (wX6 a0 a1 a2 a3 a4 a5 a6 v_isKept ++ wX0 cI a1 a7 a8 a9 fr_pins fr_bars fr_names fr_lesser fr_greater ++ wX3 cI a4 a10 a11 a12 a13 a14 a15 a16 st_near st_tiedTo st_parts st_partCount u.2.1 u.2.2.1 u.2.2.2.1 u.2.2.2.2.1 st_worstBy st_worstPins u.2.2.2.2.2.1 u.2.2.2.2.2.2.1 u.2.2.2.2.2.2.2 ++ wSA cS a6 v_sa ++ wX2 cI a17 a18 sh_sort sh_size sh_items) u.1 := by
  refine MCi.mk (by decide) (Nat.le_of_ble_eq_true rfl) ?_
  intro p e s m args below meth c A ls Q h0 hP hD hA hS hl hfin0
  have hfin : ∀ (u' : Int32 × Int32 × Int32 × Int32 × Int32 × (Nat → Int32) × (Nat → Int32) × (Nat → Int32)), u' = u → ∀ (H : Heap) (locs : List Loc) (ls : Array Slot) (pc : Nat), va_P D vwCl (wX6 a0 a1 a2 a3 a4 a5 a6 v_isKept ++ wX0 cI a1 a7 a8 a9 fr_pins fr_bars fr_names fr_lesser fr_greater ++ wX3 cI a4 a10 a11 a12 a13 a14 a15 a16 st_near st_tiedTo st_parts st_partCount u'.2.1 u'.2.2.1 u'.2.2.2.1 u'.2.2.2.2.1 st_worstBy st_worstPins u'.2.2.2.2.2.1 u'.2.2.2.2.2.2.1 u'.2.2.2.2.2.2.2 ++ wSA cS a6 v_sa ++ wX2 cI a17 a18 sh_sort sh_size sh_items) H → va_D A (wX6 a0 a1 a2 a3 a4 a5 a6 v_isKept ++ wX0 cI a1 a7 a8 a9 fr_pins fr_bars fr_names fr_lesser fr_greater ++ wX3 cI a4 a10 a11 a12 a13 a14 a15 a16 st_near st_tiedTo st_parts st_partCount u'.2.1 u'.2.2.1 u'.2.2.2.1 u'.2.2.2.2.1 st_worstBy st_worstPins u'.2.2.2.2.2.1 u'.2.2.2.2.2.2.1 u'.2.2.2.2.2.2.2 ++ wSA cS a6 v_sa ++ wX2 cI a17 a18 sh_sort sh_size sh_items) → va_S A s.heap H locs → decode cX6_tells pc = .ok (.ireturn, 1) → W p l e (uR 6 148) s m args below meth c H locs 0 0 Q (F0 m pc ls [.int u'.1]) := by intro u' hu; subst hu; exact hfin0
  clear hfin0
  obtain ⟨hx, hb, hr, hlk, hml, hown, hts, hK⟩ := id h0
  have hl : lv_has ls 4 [(0, .ref a0), (1, .int p1), (2, .int p2)] := hl
  have E := hF
  have J19 : ∀ (st_carrying st_rank st_freedoms st_isStiff : Int32) (st_farEnd st_queue st_cameAlong : Nat → Int32) (H : Heap) (locs : List Loc) (ls : Array Slot), FX6_tells_b19 p1 p2 fr_pins fr_bars fr_lesser fr_greater sh_sort sh_size sh_items  st_carrying st_rank st_freedoms st_isStiff st_farEnd st_queue st_cameAlong = some u → va_P D vwCl (wX6 a0 a1 a2 a3 a4 a5 a6 v_isKept ++ wX0 cI a1 a7 a8 a9 fr_pins fr_bars fr_names fr_lesser fr_greater ++ wX3 cI a4 a10 a11 a12 a13 a14 a15 a16 st_near st_tiedTo st_parts st_partCount st_carrying st_rank st_freedoms st_isStiff st_worstBy st_worstPins st_farEnd st_queue st_cameAlong ++ wSA cS a6 v_sa ++ wX2 cI a17 a18 sh_sort sh_size sh_items) H → va_D A (wX6 a0 a1 a2 a3 a4 a5 a6 v_isKept ++ wX0 cI a1 a7 a8 a9 fr_pins fr_bars fr_names fr_lesser fr_greater ++ wX3 cI a4 a10 a11 a12 a13 a14 a15 a16 st_near st_tiedTo st_parts st_partCount st_carrying st_rank st_freedoms st_isStiff st_worstBy st_worstPins st_farEnd st_queue st_cameAlong ++ wSA cS a6 v_sa ++ wX2 cI a17 a18 sh_sort sh_size sh_items) → va_S A s.heap H locs → lv_has ls 4 [(0, .ref a0), (1, .int p1), (2, .int p2)] → W p l e (uR 6 148) s m args below meth c H locs 0 0 Q (F0 m 19 ls []) := by
    intro st_carrying st_rank st_freedoms st_isStiff st_farEnd st_queue st_cameAlong H locs ls E hP hD hS hl
    refine lv_aload_n hx hb dX6_tells_19 rfl (lv_at hl 0 rfl) ?_
    refine gf_X6_46 h0 hP 0 rfl rfl dX6_tells_20 ?_
    refine lv_iload_n hx hb dX6_tells_23 rfl (lv_at hl 1 rfl) ?_
    obtain ⟨g1, E⟩ := gd_e E
    refine aldr hx hb hK hP 13 rfl rfl g1 (hq_p1 g1) dX6_tells_24 ?_
    refine lv_astore_n (lv' := [(3, .ref a17), (0, .ref a0), (1, .int p1), (2, .int p2)]) hx hb dX6_tells_25 rfl hl (by decide) rfl (fun ls hl => ?_)
    refine lv_aload_n hx hb dX6_tells_26 rfl (lv_at hl 0 rfl) ?_
    obtain ⟨r2, hF, E⟩ := bn_e E
    refine callVi (wo := (wX6 a0 a1 a2 a3 a4 a5 a6 v_isKept ++ wX0 cI a1 a7 a8 a9 fr_pins fr_bars fr_names fr_lesser fr_greater ++ wX3 cI a4 a10 a11 a12 a13 a14 a15 a16 st_near st_tiedTo st_parts st_partCount st_carrying st_rank st_freedoms st_isStiff st_worstBy st_worstPins st_farEnd st_queue st_cameAlong ++ wSA cS a6 v_sa ++ wX2 cI a17 a18 sh_sort sh_size sh_items)) h0 (c_X2_isMissing l D cI cZ cS a17 a18 sh_sort sh_size sh_items r2 hF) (gV wq_527 wq_528 wq_529 wq_7 wq_530) hdX2_isMissing ⟨Nat.le_of_ble_eq_true rfl, Nat.le_of_ble_eq_true rfl⟩ ⟨Nat.le_refl _, Nat.le_refl _⟩ hP hD hS hA 0 2 rfl rfl rfl [14, 15] rfl rfl rfl rfl hl.1 rfl (Nat.le_of_ble_eq_true rfl) dX6_tells_27 (fun H locs hP hD hS => ?_)
    refine lv_if_eq (tgt := 36) hx hb dX6_tells_30 (by decide) (fun c3 => ?_) (fun c3 => ?_)
    · have E := br_p E c3
      refine lv_aload_n hx hb dX6_tells_36 rfl (lv_at hl 0 rfl) ?_
      refine gf_X6_210 h0 hP 14 rfl rfl dX6_tells_37 ?_
      refine lv_bipush (v := 24) hx hb dX6_tells_40 (by decide) ?_
      refine lv_icmp_le (tgt := 48) hx hb dX6_tells_42 (by decide) (fun c4 => ?_) (fun c4 => ?_)
      · have E := br_p E c4
        refine lv_iload_n hx hb dX6_tells_48 rfl (lv_at hl 3 rfl) ?_
        refine lv_if_ne (tgt := 60) hx hb dX6_tells_49 (by decide) (fun c5 => ?_) (fun c5 => ?_)
        · have E := br_n E c5
          refine lv_aload_n hx hb dX6_tells_60 rfl (lv_at hl 1 rfl) ?_
          refine lv_aload_n hx hb dX6_tells_61 rfl (lv_at hl 0 rfl) ?_
          obtain ⟨r6, hF, E⟩ := bn_e E
          refine callVi (wo := (wX6 a0 a1 a2 a3 a4 a5 a6 v_isKept ++ wX0 cI a1 a7 a8 a9 fr_pins fr_bars fr_names fr_lesser fr_greater ++ wX3 cI a4 a10 a11 a12 a13 a14 a15 a16 st_near st_tiedTo st_parts st_partCount st_carrying st_rank st_freedoms st_isStiff st_worstBy st_worstPins r6.2.1 r6.2.2.1 r6.2.2.2 ++ wSA cS a6 v_sa ++ wX2 cI a17 a18 sh_sort sh_size sh_items)) h0 (c_X6_lastOnesAsTold l D cI cZ cS a0 a1 a2 a3 a4 a5 a6 a7 a8 a9 a10 a11 a12 a13 a14 a15 a16 a17 a18 v_isKept fr_pins fr_bars fr_names fr_lesser fr_greater st_near st_tiedTo st_parts st_partCount st_carrying st_rank st_freedoms st_isStiff st_worstBy st_worstPins st_farEnd st_queue st_cameAlong sh_sort sh_size sh_items r6 hF) (gV wq_543 wq_545 wp_20 wq_1 wq_546) hdX6_lastOnesAsTold ⟨Nat.le_of_ble_eq_true rfl, Nat.le_of_ble_eq_true rfl⟩ ⟨Nat.le_refl _, Nat.le_refl _⟩ hP hD hS hA 0 6 rfl rfl rfl [0, 1, 2, 3, 4, 5, 6, 7, 8, 9, 10, 11, 12, 14, 15] rfl rfl rfl rfl hl.1 rfl (Nat.le_of_ble_eq_true rfl) dX6_tells_62 (fun H locs hP hD hS => ?_)
          exact hfin _ (Option.some.inj E) _ _ _ _ hP hD hS dX6_tells_65
        · have E := br_p E c5
          refine lv_aload_n hx hb dX6_tells_52 rfl (lv_at hl 1 rfl) ?_
          refine lv_aload_n hx hb dX6_tells_53 rfl (lv_at hl 0 rfl) ?_
          obtain ⟨r7, hF, E⟩ := bn_e E
          refine callVi (wo := (wX6 a0 a1 a2 a3 a4 a5 a6 v_isKept ++ wX0 cI a1 a7 a8 a9 fr_pins fr_bars fr_names fr_lesser fr_greater ++ wX3 cI a4 a10 a11 a12 a13 a14 a15 a16 st_near st_tiedTo st_parts st_partCount r7.2.1 r7.2.2.1 r7.2.2.2.1 r7.2.2.2.2.1 st_worstBy st_worstPins r7.2.2.2.2.2.1 r7.2.2.2.2.2.2.1 r7.2.2.2.2.2.2.2 ++ wSA cS a6 v_sa ++ wX2 cI a17 a18 sh_sort sh_size sh_items)) h0 (c_X6_firstOtherwise l D cI cZ cS a0 a1 a2 a3 a4 a5 a6 a7 a8 a9 a10 a11 a12 a13 a14 a15 a16 a17 a18 v_isKept fr_pins fr_bars fr_names fr_lesser fr_greater st_near st_tiedTo st_parts st_partCount st_carrying st_rank st_freedoms st_isStiff st_worstBy st_worstPins st_farEnd st_queue st_cameAlong sh_sort sh_size sh_items r7 hF) (gV wq_531 wq_533 wp_19 wq_1 wq_534) hdX6_firstOtherwise ⟨Nat.le_of_ble_eq_true rfl, Nat.le_of_ble_eq_true rfl⟩ ⟨Nat.le_refl _, Nat.le_refl _⟩ hP hD hS hA 0 6 rfl rfl rfl [0, 1, 2, 3, 4, 5, 6, 7, 8, 9, 10, 11, 12, 14, 15] rfl rfl rfl rfl hl.1 rfl (Nat.le_of_ble_eq_true rfl) dX6_tells_54 (fun H locs hP hD hS => ?_)
          refine lv_goto (tgt := 65) hx hb dX6_tells_57 (by decide) ?_
          exact hfin _ (Option.some.inj E) _ _ _ _ hP hD hS dX6_tells_65
      · have E := br_n E c4
        refine lv_bipush (v := (-2)) hx hb dX6_tells_45 (by decide) ?_
        exact hfin _ (Option.some.inj E) _ _ _ _ hP hD hS dX6_tells_47
    · have E := br_n E c3
      refine lv_bipush (v := (-11)) hx hb dX6_tells_33 (by decide) ?_
      exact hfin _ (Option.some.inj E) _ _ _ _ hP hD hS dX6_tells_35
  refine lv_iload_n hx hb dX6_tells_0 rfl (lv_at hl 1 rfl) ?_
  obtain ⟨r8, hF, E⟩ := bn_e E
  refine callSi (wo := (wX6 a0 a1 a2 a3 a4 a5 a6 v_isKept ++ wX0 cI a1 a7 a8 a9 fr_pins fr_bars fr_names fr_lesser fr_greater ++ wX3 cI a4 a10 a11 a12 a13 a14 a15 a16 st_near st_tiedTo st_parts st_partCount st_carrying st_rank st_freedoms st_isStiff st_worstBy st_worstPins st_farEnd st_queue st_cameAlong ++ wSA cS a6 v_sa ++ wX2 cI a17 a18 sh_sort sh_size sh_items)) h0 (c_X6_isSheet l D cI cZ cS p1 r8 hF) (gS wq_524 wq_525 wq_1 wq_526) hdX6_isSheet ⟨Nat.le_of_ble_eq_true rfl, Nat.le_of_ble_eq_true rfl⟩ ⟨Nat.le_refl _, Nat.le_refl _⟩ hP hD hS hA [] rfl rfl rfl rfl hl.1 rfl (Nat.le_of_ble_eq_true rfl) dX6_tells_1 (fun H locs hP hD hS => ?_)
  refine lv_if_eq (tgt := 16) hx hb dX6_tells_4 (by decide) (fun c9 => ?_) (fun c9 => ?_)
  · have E := br_p E c9
    refine lv_bipush (v := (-2)) hx hb dX6_tells_16 (by decide) ?_
    exact hfin _ (Option.some.inj E) _ _ _ _ hP hD hS dX6_tells_18
  · have E := br_n E c9
    refine lv_iload_n hx hb dX6_tells_7 rfl (lv_at hl 2 rfl) ?_
    refine lv_if_eq (tgt := 19) hx hb dX6_tells_8 (by decide) (fun c10 => ?_) (fun c10 => ?_)
    · have E := br_p E c10
      exact J19 _ _ _ _ _ _ _ _ _ _ E hP hD hS (lv_sub hl [0, 1, 2] rfl)
    · have E := br_n E c10
      refine lv_iload_n hx hb dX6_tells_11 rfl (lv_at hl 2 rfl) ?_
      refine lv_iconst (v := 1) hx hb dX6_tells_12 (by decide) ?_
      refine lv_icmp_eq (tgt := 19) hx hb dX6_tells_13 (by decide) (fun c11 => ?_) (fun c11 => ?_)
      · have E := br_p E c11
        exact J19 _ _ _ _ _ _ _ _ _ _ E hP hD hS (lv_sub hl [0, 1, 2] rfl)
      · have E := br_n E c11
        refine lv_bipush (v := (-2)) hx hb dX6_tells_16 (by decide) ?_
        exact hfin _ (Option.some.inj E) _ _ _ _ hP hD hS dX6_tells_18
theorem hdX6_film : yX6_film.cls = RX6 ∧ yX6_film.cls ≠ "java/lang/invoke/MethodHandle" ∧ yX6_film.cls ≠ "java/lang/invoke/VarHandle" ∧ (parseMethodDescriptor yX6_film.desc).map (fun d => d.parameters.length) = some 1 := by decide +kernel
noncomputable def FX6_film_b40 (p1 fr_pins fr_bars : Int32) (fr_lesser fr_greater : Nat → Int32)  (k40 : Int32 → Int32 → Int32 → Int32 → Int32 → (Nat → Int32) → (Nat → Int32) → (Nat → Int32) → Int32 → Int32 → (Nat → Int32) → Option (Int32 × Int32 × Int32 × Int32 × Int32 × (Nat → Int32) × (Nat → Int32) × (Nat → Int32) × Int32 × Int32 × (Nat → Int32))) (l2 st_carrying st_rank st_freedoms st_isStiff : Int32) (st_farEnd st_queue st_cameAlong : Nat → Int32) (sh_sort sh_size : Int32) (sh_items : Nat → Int32) : Option (Int32 × Int32 × Int32 × Int32 × Int32 × (Nat → Int32) × (Nat → Int32) × (Nat → Int32) × Int32 × Int32 × (Nat → Int32)) := (if fr_bars ≤ l2 then (some (fr_bars, st_carrying, st_rank, st_freedoms, st_isStiff, st_farEnd, st_queue, st_cameAlong, sh_sort, sh_size, sh_items)) else (gd (vp_in p1 4) ((FX2_write l2 ((st_carrying >>> (l2 &&& 31)) &&& 1) sh_sort sh_size sh_items).bind (fun r3 => (k40 (l2 + 1) st_carrying st_rank st_freedoms st_isStiff st_farEnd st_queue st_cameAlong sh_sort sh_size r3)))))
noncomputable def FX6_film_h40 (p1 fr_pins fr_bars : Int32) (fr_lesser fr_greater : Nat → Int32)  : Nat → Int32 → Int32 → Int32 → Int32 → Int32 → (Nat → Int32) → (Nat → Int32) → (Nat → Int32) → Int32 → Int32 → (Nat → Int32) → Option (Int32 × Int32 × Int32 × Int32 × Int32 × (Nat → Int32) × (Nat → Int32) × (Nat → Int32) × Int32 × Int32 × (Nat → Int32))
  | 0 => fun _ _ _ _ _ _ _ _ _ _ _ => none
  | n + 1 => fun l2 st_carrying st_rank st_freedoms st_isStiff st_farEnd st_queue st_cameAlong sh_sort sh_size sh_items => FX6_film_b40 p1 fr_pins fr_bars fr_lesser fr_greater  (FX6_film_h40 p1 fr_pins fr_bars fr_lesser fr_greater  n) l2 st_carrying st_rank st_freedoms st_isStiff st_farEnd st_queue st_cameAlong sh_sort sh_size sh_items
noncomputable def FX6_film (p1 : Int32) (fr_pins fr_bars : Int32) (fr_lesser fr_greater : Nat → Int32) (st_carrying st_rank st_freedoms st_isStiff : Int32) (st_farEnd st_queue st_cameAlong : Nat → Int32) (sh_sort sh_size : Int32) (sh_items : Nat → Int32) : Option (Int32 × Int32 × Int32 × Int32 × Int32 × (Nat → Int32) × (Nat → Int32) × (Nat → Int32) × Int32 × Int32 × (Nat → Int32)) := ((FX6_isSheet p1).bind (fun r4 => (if r4 = 0 then (some ((-2), st_carrying, st_rank, st_freedoms, st_isStiff, st_farEnd, st_queue, st_cameAlong, sh_sort, sh_size, sh_items)) else ((FX3_settle st_carrying st_rank st_freedoms st_isStiff st_farEnd st_queue st_cameAlong fr_pins fr_bars fr_lesser fr_greater).bind (fun r6 => (gd (vp_in p1 4) ((FX2_become 0 fr_bars sh_sort sh_size sh_items).bind (fun r8 => (FX6_film_h40 p1 fr_pins fr_bars fr_lesser fr_greater  5000 0 r6.1 r6.2.1 r6.2.2.1 r6.2.2.2.1 r6.2.2.2.2.1 r6.2.2.2.2.2.1 r6.2.2.2.2.2.2 r8.1 r8.2.1 r8.2.2)))))))))
set_option maxHeartbeats 4000000 in
set_option maxRecDepth 100000 in
theorem c_X6_film (l : Launch) (D : va_G) (cI cZ cS : ClassId) (a0 a1 a2 a3 a4 a5 a6 a7 a8 a9 a10 a11 a12 a13 a14 a15 a16 a17 a18 : Nat) (v_isKept fr_pins fr_bars : Int32) (fr_names fr_lesser fr_greater st_near st_tiedTo st_parts : Nat → Int32) (st_partCount st_carrying st_rank st_freedoms st_isStiff st_worstBy st_worstPins : Int32) (st_farEnd st_queue st_cameAlong : Nat → Int32) (v_sa : Nat → Option Nat) (sh_sort sh_size : Int32) (sh_items : Nat → Int32) (p1 : Int32) (u : Int32 × Int32 × Int32 × Int32 × Int32 × (Nat → Int32) × (Nat → Int32) × (Nat → Int32) × Int32 × Int32 × (Nat → Int32)) (hF : FX6_film p1 fr_pins fr_bars fr_lesser fr_greater st_carrying st_rank st_freedoms st_isStiff st_farEnd st_queue st_cameAlong sh_sort sh_size sh_items = some u) (hq_p1 : vp_in p1 4 → v_sa p1.toNatClampNeg = some a17) : MCi l D (tyL cI cZ cS) yX6_film cX6_film 3 (some .int) 5 126 [.ref a0, .int p1] (wX6 a0 a1 a2 a3 a4 a5 a6 v_isKept ++ wX0 cI a1 a7 a8 a9 fr_pins fr_bars fr_names fr_lesser fr_greater ++ wX3 cI a4 a10 a11 a12 a13 a14 a15 a16 st_near st_tiedTo st_parts st_partCount st_carrying st_rank st_freedoms st_isStiff st_worstBy st_worstPins st_farEnd st_queue st_cameAlong ++ wSA cS a6 v_sa ++ wX2 cI a17 a18 sh_sort sh_size sh_items) (wX6 a0 a1 a2 a3 a4 a5 a6 v_isKept ++ wX0 cI a1 a7 a8 a9 fr_pins fr_bars fr_names fr_lesser fr_greater ++ wX3 cI a4 a10 a11 a12 a13 a14 a15 a16 st_near st_tiedTo st_parts st_partCount u.2.1 u.2.2.1 u.2.2.2.1 u.2.2.2.2.1 st_worstBy st_worstPins u.2.2.2.2.2.1 u.2.2.2.2.2.2.1 u.2.2.2.2.2.2.2.1 ++ wSA cS a6 v_sa ++ wX2 cI a17 a18 u.2.2.2.2.2.2.2.2.1 u.2.2.2.2.2.2.2.2.2.1 u.2.2.2.2.2.2.2.2.2.2) u.1 := by
  refine MCi.mk (by decide) (Nat.le_of_ble_eq_true rfl) ?_
  intro p e s m args below meth c A ls Q h0 hP hD hA hS hl hfin0
  have hfin : ∀ (u' : Int32 × Int32 × Int32 × Int32 × Int32 × (Nat → Int32) × (Nat → Int32) × (Nat → Int32) × Int32 × Int32 × (Nat → Int32)), u' = u → ∀ (H : Heap) (locs : List Loc) (ls : Array Slot) (pc : Nat), va_P D vwCl (wX6 a0 a1 a2 a3 a4 a5 a6 v_isKept ++ wX0 cI a1 a7 a8 a9 fr_pins fr_bars fr_names fr_lesser fr_greater ++ wX3 cI a4 a10 a11 a12 a13 a14 a15 a16 st_near st_tiedTo st_parts st_partCount u'.2.1 u'.2.2.1 u'.2.2.2.1 u'.2.2.2.2.1 st_worstBy st_worstPins u'.2.2.2.2.2.1 u'.2.2.2.2.2.2.1 u'.2.2.2.2.2.2.2.1 ++ wSA cS a6 v_sa ++ wX2 cI a17 a18 u'.2.2.2.2.2.2.2.2.1 u'.2.2.2.2.2.2.2.2.2.1 u'.2.2.2.2.2.2.2.2.2.2) H → va_D A (wX6 a0 a1 a2 a3 a4 a5 a6 v_isKept ++ wX0 cI a1 a7 a8 a9 fr_pins fr_bars fr_names fr_lesser fr_greater ++ wX3 cI a4 a10 a11 a12 a13 a14 a15 a16 st_near st_tiedTo st_parts st_partCount u'.2.1 u'.2.2.1 u'.2.2.2.1 u'.2.2.2.2.1 st_worstBy st_worstPins u'.2.2.2.2.2.1 u'.2.2.2.2.2.2.1 u'.2.2.2.2.2.2.2.1 ++ wSA cS a6 v_sa ++ wX2 cI a17 a18 u'.2.2.2.2.2.2.2.2.1 u'.2.2.2.2.2.2.2.2.2.1 u'.2.2.2.2.2.2.2.2.2.2) → va_S A s.heap H locs → decode cX6_film pc = .ok (.ireturn, 1) → W p l e (uR 5 126) s m args below meth c H locs 0 0 Q (F0 m pc ls [.int u'.1]) := by intro u' hu; subst hu; exact hfin0
  clear hfin0
  obtain ⟨hx, hb, hr, hlk, hml, hown, hts, hK⟩ := id h0
  have hl : lv_has ls 3 [(0, .ref a0), (1, .int p1)] := hl
  have E := hF
  have J40 : ∀ (n40 : Nat) (l2 st_carrying st_rank st_freedoms st_isStiff : Int32) (st_farEnd st_queue st_cameAlong : Nat → Int32) (sh_sort sh_size : Int32) (sh_items : Nat → Int32) (H : Heap) (locs : List Loc) (ls : Array Slot), FX6_film_h40 p1 fr_pins fr_bars fr_lesser fr_greater  n40 l2 st_carrying st_rank st_freedoms st_isStiff st_farEnd st_queue st_cameAlong sh_sort sh_size sh_items = some u → va_P D vwCl (wX6 a0 a1 a2 a3 a4 a5 a6 v_isKept ++ wX0 cI a1 a7 a8 a9 fr_pins fr_bars fr_names fr_lesser fr_greater ++ wX3 cI a4 a10 a11 a12 a13 a14 a15 a16 st_near st_tiedTo st_parts st_partCount st_carrying st_rank st_freedoms st_isStiff st_worstBy st_worstPins st_farEnd st_queue st_cameAlong ++ wSA cS a6 v_sa ++ wX2 cI a17 a18 sh_sort sh_size sh_items) H → va_D A (wX6 a0 a1 a2 a3 a4 a5 a6 v_isKept ++ wX0 cI a1 a7 a8 a9 fr_pins fr_bars fr_names fr_lesser fr_greater ++ wX3 cI a4 a10 a11 a12 a13 a14 a15 a16 st_near st_tiedTo st_parts st_partCount st_carrying st_rank st_freedoms st_isStiff st_worstBy st_worstPins st_farEnd st_queue st_cameAlong ++ wSA cS a6 v_sa ++ wX2 cI a17 a18 sh_sort sh_size sh_items) → va_S A s.heap H locs → lv_has ls 3 [(0, .ref a0), (1, .int p1), (2, .int l2)] → W p l e (uR 5 126) s m args below meth c H locs 0 0 Q (F0 m 40 ls []) := by
    intro n40
    induction n40 with
    | zero => intro l2 st_carrying st_rank st_freedoms st_isStiff st_farEnd st_queue st_cameAlong sh_sort sh_size sh_items H locs ls E; exact none_e E
    | succ n40 ih40 =>
      intro l2 st_carrying st_rank st_freedoms st_isStiff st_farEnd st_queue st_cameAlong sh_sort sh_size sh_items H locs ls E hP hD hS hl
      have E : FX6_film_b40 p1 fr_pins fr_bars fr_lesser fr_greater  (FX6_film_h40 p1 fr_pins fr_bars fr_lesser fr_greater  n40) l2 st_carrying st_rank st_freedoms st_isStiff st_farEnd st_queue st_cameAlong sh_sort sh_size sh_items = some u := E
      refine lv_iload_n hx hb dX6_film_40 rfl (lv_at hl 2 rfl) ?_
      refine lv_aload_n hx hb dX6_film_41 rfl (lv_at hl 0 rfl) ?_
      refine gf_X6_10 h0 hP 0 rfl rfl dX6_film_42 ?_
      refine gf_X6_98 h0 hP 1 rfl rfl dX6_film_45 ?_
      refine lv_icmp_ge (tgt := 78) hx hb dX6_film_48 (by decide) (fun c1 => ?_) (fun c1 => ?_)
      · have E := br_p E c1
        refine lv_aload_n hx hb dX6_film_78 rfl (lv_at hl 0 rfl) ?_
        refine gf_X6_10 h0 hP 0 rfl rfl dX6_film_79 ?_
        refine gf_X6_98 h0 hP 1 rfl rfl dX6_film_82 ?_
        exact hfin _ (Option.some.inj E) _ _ _ _ hP hD hS dX6_film_85
      · have E := br_n E c1
        refine lv_aload_n hx hb dX6_film_51 rfl (lv_at hl 0 rfl) ?_
        refine gf_X6_46 h0 hP 0 rfl rfl dX6_film_52 ?_
        refine lv_iload_n hx hb dX6_film_55 rfl (lv_at hl 1 rfl) ?_
        obtain ⟨g2, E⟩ := gd_e E
        refine aldr hx hb hK hP 13 rfl rfl g2 (hq_p1 g2) dX6_film_56 ?_
        refine lv_iload_n hx hb dX6_film_57 rfl (lv_at hl 2 rfl) ?_
        refine lv_aload_n hx hb dX6_film_58 rfl (lv_at hl 0 rfl) ?_
        refine gf_X6_33 h0 hP 0 rfl rfl dX6_film_59 ?_
        refine gf_X6_130 h0 hP 5 rfl rfl dX6_film_62 ?_
        refine lv_iload_n hx hb dX6_film_65 rfl (lv_at hl 2 rfl) ?_
        refine lv_ishr hx hb dX6_film_66 ?_
        refine lv_iconst (v := 1) hx hb dX6_film_67 (by decide) ?_
        refine lv_iand hx hb dX6_film_68 ?_
        obtain ⟨r3, hF, E⟩ := bn_e E
        refine callVv (wo := (wX6 a0 a1 a2 a3 a4 a5 a6 v_isKept ++ wX0 cI a1 a7 a8 a9 fr_pins fr_bars fr_names fr_lesser fr_greater ++ wX3 cI a4 a10 a11 a12 a13 a14 a15 a16 st_near st_tiedTo st_parts st_partCount st_carrying st_rank st_freedoms st_isStiff st_worstBy st_worstPins st_farEnd st_queue st_cameAlong ++ wSA cS a6 v_sa ++ wX2 cI a17 a18 sh_sort sh_size r3)) h0 (c_X2_write l D cI cZ cS a17 a18 sh_sort sh_size sh_items l2 ((st_carrying >>> (l2 &&& 31)) &&& 1) r3 hF) (gV wq_556 wq_557 wq_558 wq_7 wq_559) hdX2_write ⟨Nat.le_of_ble_eq_true rfl, Nat.le_of_ble_eq_true rfl⟩ ⟨Nat.le_refl _, Nat.le_refl _⟩ hP hD hS hA 0 2 rfl rfl rfl [14, 15] rfl rfl rfl rfl hl.1 rfl (Nat.le_of_ble_eq_true rfl) dX6_film_69 (fun H locs hP hD hS => ?_)
        refine lv_iinc (v := (l2 + 1)) (lv' := [(2, .int (l2 + 1)), (0, .ref a0), (1, .int p1)]) hx hb dX6_film_72 hl (k := 2) rfl rfl (by decide) rfl (fun ls hl => ?_)
        refine lv_goto (tgt := 40) hx hb dX6_film_75 (by decide) ?_
        exact ih40 _ _ _ _ _ _ _ _ _ _ _ _ _ _ E hP hD hS (lv_sub hl [1, 2, 0] rfl)
  refine lv_iload_n hx hb dX6_film_0 rfl (lv_at hl 1 rfl) ?_
  obtain ⟨r4, hF, E⟩ := bn_e E
  refine callSi (wo := (wX6 a0 a1 a2 a3 a4 a5 a6 v_isKept ++ wX0 cI a1 a7 a8 a9 fr_pins fr_bars fr_names fr_lesser fr_greater ++ wX3 cI a4 a10 a11 a12 a13 a14 a15 a16 st_near st_tiedTo st_parts st_partCount st_carrying st_rank st_freedoms st_isStiff st_worstBy st_worstPins st_farEnd st_queue st_cameAlong ++ wSA cS a6 v_sa ++ wX2 cI a17 a18 sh_sort sh_size sh_items)) h0 (c_X6_isSheet l D cI cZ cS p1 r4 hF) (gS wq_524 wq_525 wq_1 wq_526) hdX6_isSheet ⟨Nat.le_of_ble_eq_true rfl, Nat.le_of_ble_eq_true rfl⟩ ⟨Nat.le_refl _, Nat.le_refl _⟩ hP hD hS hA [] rfl rfl rfl rfl hl.1 rfl (Nat.le_of_ble_eq_true rfl) dX6_film_1 (fun H locs hP hD hS => ?_)
  refine lv_if_ne (tgt := 10) hx hb dX6_film_4 (by decide) (fun c5 => ?_) (fun c5 => ?_)
  · have E := br_n E c5
    refine lv_aload_n hx hb dX6_film_10 rfl (lv_at hl 0 rfl) ?_
    refine gf_X6_33 h0 hP 0 rfl rfl dX6_film_11 ?_
    refine lv_aload_n hx hb dX6_film_14 rfl (lv_at hl 0 rfl) ?_
    refine gf_X6_10 h0 hP 0 rfl rfl dX6_film_15 ?_
    obtain ⟨r6, hF, E⟩ := bn_e E
    refine callVv (wo := (wX6 a0 a1 a2 a3 a4 a5 a6 v_isKept ++ wX0 cI a1 a7 a8 a9 fr_pins fr_bars fr_names fr_lesser fr_greater ++ wX3 cI a4 a10 a11 a12 a13 a14 a15 a16 st_near st_tiedTo st_parts st_partCount r6.1 r6.2.1 r6.2.2.1 r6.2.2.2.1 st_worstBy st_worstPins r6.2.2.2.2.1 r6.2.2.2.2.2.1 r6.2.2.2.2.2.2 ++ wSA cS a6 v_sa ++ wX2 cI a17 a18 sh_sort sh_size sh_items)) h0 (c_X3_settle l D cI cZ cS a4 a10 a11 a12 a13 a14 a15 a16 a1 a7 a8 a9 st_near st_tiedTo st_parts st_partCount st_carrying st_rank st_freedoms st_isStiff st_worstBy st_worstPins st_farEnd st_queue st_cameAlong fr_pins fr_bars fr_names fr_lesser fr_greater r6 hF) (gV wq_321 wq_322 wq_323 wq_4 wq_324) hdX3_settle ⟨Nat.le_of_ble_eq_true rfl, Nat.le_of_ble_eq_true rfl⟩ ⟨Nat.le_refl _, Nat.le_refl _⟩ hP hD hS hA 0 3 rfl rfl rfl [5, 6, 7, 8, 9, 10, 11, 12, 1, 2, 3, 4] rfl rfl rfl rfl hl.1 rfl (Nat.le_of_ble_eq_true rfl) dX6_film_18 (fun H locs hP hD hS => ?_)
    refine lv_aload_n hx hb dX6_film_21 rfl (lv_at hl 0 rfl) ?_
    refine gf_X6_46 h0 hP 0 rfl rfl dX6_film_22 ?_
    refine lv_iload_n hx hb dX6_film_25 rfl (lv_at hl 1 rfl) ?_
    obtain ⟨g7, E⟩ := gd_e E
    refine aldr hx hb hK hP 13 rfl rfl g7 (hq_p1 g7) dX6_film_26 ?_
    refine lv_iconst (v := 0) hx hb dX6_film_27 (by decide) ?_
    refine lv_aload_n hx hb dX6_film_28 rfl (lv_at hl 0 rfl) ?_
    refine gf_X6_10 h0 hP 0 rfl rfl dX6_film_29 ?_
    refine gf_X6_98 h0 hP 1 rfl rfl dX6_film_32 ?_
    obtain ⟨r8, hF, E⟩ := bn_e E
    refine callVv (wo := (wX6 a0 a1 a2 a3 a4 a5 a6 v_isKept ++ wX0 cI a1 a7 a8 a9 fr_pins fr_bars fr_names fr_lesser fr_greater ++ wX3 cI a4 a10 a11 a12 a13 a14 a15 a16 st_near st_tiedTo st_parts st_partCount r6.1 r6.2.1 r6.2.2.1 r6.2.2.2.1 st_worstBy st_worstPins r6.2.2.2.2.1 r6.2.2.2.2.2.1 r6.2.2.2.2.2.2 ++ wSA cS a6 v_sa ++ wX2 cI a17 a18 r8.1 r8.2.1 r8.2.2)) h0 (c_X2_become l D cI cZ cS a17 a18 sh_sort sh_size sh_items 0 fr_bars r8 hF) (gV wq_552 wq_553 wq_554 wq_7 wq_555) hdX2_become ⟨Nat.le_of_ble_eq_true rfl, Nat.le_of_ble_eq_true rfl⟩ ⟨Nat.le_refl _, Nat.le_refl _⟩ hP hD hS hA 0 2 rfl rfl rfl [14, 15] rfl rfl rfl rfl hl.1 rfl (Nat.le_of_ble_eq_true rfl) dX6_film_35 (fun H locs hP hD hS => ?_)
    refine lv_iconst (v := 0) hx hb dX6_film_38 (by decide) ?_
    refine lv_istore_n (lv' := [(2, .int 0), (0, .ref a0), (1, .int p1)]) hx hb dX6_film_39 rfl hl (by decide) rfl (fun ls hl => ?_)
    exact J40 5000 _ _ _ _ _ _ _ _ _ _ _ _ _ _ E hP hD hS (lv_sub hl [1, 2, 0] rfl)
  · have E := br_p E c5
    refine lv_bipush (v := (-2)) hx hb dX6_film_7 (by decide) ?_
    exact hfin _ (Option.some.inj E) _ _ _ _ hP hD hS dX6_film_9
theorem hdX6_image : yX6_image.cls = RX6 ∧ yX6_image.cls ≠ "java/lang/invoke/MethodHandle" ∧ yX6_image.cls ≠ "java/lang/invoke/VarHandle" ∧ (parseMethodDescriptor yX6_image.desc).map (fun d => d.parameters.length) = some 0 := by decide +kernel
noncomputable def FX6_image (v_isKept fr_pins fr_bars : Int32) (fr_names fr_lesser fr_greater : Nat → Int32) (kp_pins kp_bars : Int32) (kp_names kp_lesser kp_greater : Nat → Int32) : Option (Int32 × Int32 × Int32 × Int32 × (Nat → Int32) × (Nat → Int32) × (Nat → Int32)) := ((FX0_takeFrom kp_pins kp_bars kp_names kp_lesser kp_greater fr_pins fr_bars fr_names fr_lesser fr_greater).bind (fun r1 => (some (fr_pins, 1, r1.1, r1.2.1, r1.2.2.1, r1.2.2.2.1, r1.2.2.2.2))))
set_option maxHeartbeats 4000000 in
set_option maxRecDepth 100000 in
theorem c_X6_image (l : Launch) (D : va_G) (cI cZ cS : ClassId) (a0 a1 a2 a3 a4 a5 a6 a7 a8 a9 a10 a11 a12 : Nat) (v_isKept fr_pins fr_bars : Int32) (fr_names fr_lesser fr_greater : Nat → Int32) (kp_pins kp_bars : Int32) (kp_names kp_lesser kp_greater : Nat → Int32)  (u : Int32 × Int32 × Int32 × Int32 × (Nat → Int32) × (Nat → Int32) × (Nat → Int32)) (hF : FX6_image v_isKept fr_pins fr_bars fr_names fr_lesser fr_greater kp_pins kp_bars kp_names kp_lesser kp_greater = some u) : MCi l D (tyL cI cZ cS) yX6_image cX6_image 1 (some .int) 2 221 [.ref a0] (wX6 a0 a1 a2 a3 a4 a5 a6 v_isKept ++ wX0 cI a1 a7 a8 a9 fr_pins fr_bars fr_names fr_lesser fr_greater ++ wX0 cI a2 a10 a11 a12 kp_pins kp_bars kp_names kp_lesser kp_greater) (wX6 a0 a1 a2 a3 a4 a5 a6 u.2.1 ++ wX0 cI a1 a7 a8 a9 fr_pins fr_bars fr_names fr_lesser fr_greater ++ wX0 cI a2 a10 a11 a12 u.2.2.1 u.2.2.2.1 u.2.2.2.2.1 u.2.2.2.2.2.1 u.2.2.2.2.2.2) u.1 := by
  refine MCi.mk (by decide) (Nat.le_of_ble_eq_true rfl) ?_
  intro p e s m args below meth c A ls Q h0 hP hD hA hS hl hfin0
  have hfin : ∀ (u' : Int32 × Int32 × Int32 × Int32 × (Nat → Int32) × (Nat → Int32) × (Nat → Int32)), u' = u → ∀ (H : Heap) (locs : List Loc) (ls : Array Slot) (pc : Nat), va_P D vwCl (wX6 a0 a1 a2 a3 a4 a5 a6 u'.2.1 ++ wX0 cI a1 a7 a8 a9 fr_pins fr_bars fr_names fr_lesser fr_greater ++ wX0 cI a2 a10 a11 a12 u'.2.2.1 u'.2.2.2.1 u'.2.2.2.2.1 u'.2.2.2.2.2.1 u'.2.2.2.2.2.2) H → va_D A (wX6 a0 a1 a2 a3 a4 a5 a6 u'.2.1 ++ wX0 cI a1 a7 a8 a9 fr_pins fr_bars fr_names fr_lesser fr_greater ++ wX0 cI a2 a10 a11 a12 u'.2.2.1 u'.2.2.2.1 u'.2.2.2.2.1 u'.2.2.2.2.2.1 u'.2.2.2.2.2.2) → va_S A s.heap H locs → decode cX6_image pc = .ok (.ireturn, 1) → W p l e (uR 2 221) s m args below meth c H locs 0 0 Q (F0 m pc ls [.int u'.1]) := by intro u' hu; subst hu; exact hfin0
  clear hfin0
  obtain ⟨hx, hb, hr, hlk, hml, hown, hts, hK⟩ := id h0
  have hl : lv_has ls 1 [(0, .ref a0)] := hl
  have E := hF
  refine lv_aload_n hx hb dX6_image_0 rfl (lv_at hl 0 rfl) ?_
  refine gf_X6_16 h0 hP 0 rfl rfl dX6_image_1 ?_
  refine lv_aload_n hx hb dX6_image_4 rfl (lv_at hl 0 rfl) ?_
  refine gf_X6_10 h0 hP 0 rfl rfl dX6_image_5 ?_
  obtain ⟨r1, hF, E⟩ := bn_e E
  refine callVv (wo := (wX6 a0 a1 a2 a3 a4 a5 a6 v_isKept ++ wX0 cI a1 a7 a8 a9 fr_pins fr_bars fr_names fr_lesser fr_greater ++ wX0 cI a2 a10 a11 a12 r1.1 r1.2.1 r1.2.2.1 r1.2.2.2.1 r1.2.2.2.2)) h0 (c_X0_takeFrom l D cI cZ cS a2 a10 a11 a12 a1 a7 a8 a9 kp_pins kp_bars kp_names kp_lesser kp_greater fr_pins fr_bars fr_names fr_lesser fr_greater r1 hF) (gV wq_564 wq_565 wq_566 wq_2 wq_567) hdX0_takeFrom ⟨Nat.le_of_ble_eq_true rfl, Nat.le_of_ble_eq_true rfl⟩ ⟨Nat.le_refl _, Nat.le_refl _⟩ hP hD hS hA 0 0 rfl rfl rfl [5, 6, 7, 8, 1, 2, 3, 4] rfl rfl rfl rfl hl.1 rfl (Nat.le_of_ble_eq_true rfl) dX6_image_8 (fun H locs hP hD hS => ?_)
  refine lv_aload_n hx hb dX6_image_11 rfl (lv_at hl 0 rfl) ?_
  refine lv_iconst (v := 1) hx hb dX6_image_12 (by decide) ?_
  refine pf_X6_19 (wo := (wX6 a0 a1 a2 a3 a4 a5 a6 1 ++ wX0 cI a1 a7 a8 a9 fr_pins fr_bars fr_names fr_lesser fr_greater ++ wX0 cI a2 a10 a11 a12 r1.1 r1.2.1 r1.2.2.1 r1.2.2.2.1 r1.2.2.2.2)) h0 hP hD hS 0 rfl (Nat.le_of_ble_eq_true rfl) (Or.inr rfl) rfl dX6_image_13 (fun H locs hP hD hS => ?_)
  refine lv_aload_n hx hb dX6_image_16 rfl (lv_at hl 0 rfl) ?_
  refine gf_X6_10 h0 hP 0 rfl rfl dX6_image_17 ?_
  refine gf_X6_95 h0 hP 1 rfl rfl dX6_image_20 ?_
  exact hfin _ (Option.some.inj E) _ _ _ _ hP hD hS dX6_image_23
theorem hdX6_back : yX6_back.cls = RX6 ∧ yX6_back.cls ≠ "java/lang/invoke/MethodHandle" ∧ yX6_back.cls ≠ "java/lang/invoke/VarHandle" ∧ (parseMethodDescriptor yX6_back.desc).map (fun d => d.parameters.length) = some 0 := by decide +kernel
noncomputable def FX6_back (v_isKept fr_pins fr_bars : Int32) (fr_names fr_lesser fr_greater : Nat → Int32) (kp_pins kp_bars : Int32) (kp_names kp_lesser kp_greater : Nat → Int32) : Option (Int32 × Int32 × Int32 × (Nat → Int32) × (Nat → Int32) × (Nat → Int32)) := (if v_isKept = 0 then (some ((-3), fr_pins, fr_bars, fr_names, fr_lesser, fr_greater)) else ((FX0_takeFrom fr_pins fr_bars fr_names fr_lesser fr_greater kp_pins kp_bars kp_names kp_lesser kp_greater).bind (fun r2 => (some (r2.1, r2.1, r2.2.1, r2.2.2.1, r2.2.2.2.1, r2.2.2.2.2)))))
set_option maxHeartbeats 4000000 in
set_option maxRecDepth 100000 in
theorem c_X6_back (l : Launch) (D : va_G) (cI cZ cS : ClassId) (a0 a1 a2 a3 a4 a5 a6 a7 a8 a9 a10 a11 a12 : Nat) (v_isKept fr_pins fr_bars : Int32) (fr_names fr_lesser fr_greater : Nat → Int32) (kp_pins kp_bars : Int32) (kp_names kp_lesser kp_greater : Nat → Int32)  (u : Int32 × Int32 × Int32 × (Nat → Int32) × (Nat → Int32) × (Nat → Int32)) (hF : FX6_back v_isKept fr_pins fr_bars fr_names fr_lesser fr_greater kp_pins kp_bars kp_names kp_lesser kp_greater = some u) : MCi l D (tyL cI cZ cS) yX6_back cX6_back 1 (some .int) 2 221 [.ref a0] (wX6 a0 a1 a2 a3 a4 a5 a6 v_isKept ++ wX0 cI a1 a7 a8 a9 fr_pins fr_bars fr_names fr_lesser fr_greater ++ wX0 cI a2 a10 a11 a12 kp_pins kp_bars kp_names kp_lesser kp_greater) (wX6 a0 a1 a2 a3 a4 a5 a6 v_isKept ++ wX0 cI a1 a7 a8 a9 u.2.1 u.2.2.1 u.2.2.2.1 u.2.2.2.2.1 u.2.2.2.2.2 ++ wX0 cI a2 a10 a11 a12 kp_pins kp_bars kp_names kp_lesser kp_greater) u.1 := by
  refine MCi.mk (by decide) (Nat.le_of_ble_eq_true rfl) ?_
  intro p e s m args below meth c A ls Q h0 hP hD hA hS hl hfin0
  have hfin : ∀ (u' : Int32 × Int32 × Int32 × (Nat → Int32) × (Nat → Int32) × (Nat → Int32)), u' = u → ∀ (H : Heap) (locs : List Loc) (ls : Array Slot) (pc : Nat), va_P D vwCl (wX6 a0 a1 a2 a3 a4 a5 a6 v_isKept ++ wX0 cI a1 a7 a8 a9 u'.2.1 u'.2.2.1 u'.2.2.2.1 u'.2.2.2.2.1 u'.2.2.2.2.2 ++ wX0 cI a2 a10 a11 a12 kp_pins kp_bars kp_names kp_lesser kp_greater) H → va_D A (wX6 a0 a1 a2 a3 a4 a5 a6 v_isKept ++ wX0 cI a1 a7 a8 a9 u'.2.1 u'.2.2.1 u'.2.2.2.1 u'.2.2.2.2.1 u'.2.2.2.2.2 ++ wX0 cI a2 a10 a11 a12 kp_pins kp_bars kp_names kp_lesser kp_greater) → va_S A s.heap H locs → decode cX6_back pc = .ok (.ireturn, 1) → W p l e (uR 2 221) s m args below meth c H locs 0 0 Q (F0 m pc ls [.int u'.1]) := by intro u' hu; subst hu; exact hfin0
  clear hfin0
  obtain ⟨hx, hb, hr, hlk, hml, hown, hts, hK⟩ := id h0
  have hl : lv_has ls 1 [(0, .ref a0)] := hl
  have E := hF
  refine lv_aload_n hx hb dX6_back_0 rfl (lv_at hl 0 rfl) ?_
  refine gf_X6_19 h0 hP 0 rfl rfl dX6_back_1 ?_
  refine lv_if_ne (tgt := 10) hx hb dX6_back_4 (by decide) (fun c1 => ?_) (fun c1 => ?_)
  · have E := br_n E c1
    refine lv_aload_n hx hb dX6_back_10 rfl (lv_at hl 0 rfl) ?_
    refine gf_X6_10 h0 hP 0 rfl rfl dX6_back_11 ?_
    refine lv_aload_n hx hb dX6_back_14 rfl (lv_at hl 0 rfl) ?_
    refine gf_X6_16 h0 hP 0 rfl rfl dX6_back_15 ?_
    obtain ⟨r2, hF, E⟩ := bn_e E
    refine callVv (wo := (wX6 a0 a1 a2 a3 a4 a5 a6 v_isKept ++ wX0 cI a1 a7 a8 a9 r2.1 r2.2.1 r2.2.2.1 r2.2.2.2.1 r2.2.2.2.2 ++ wX0 cI a2 a10 a11 a12 kp_pins kp_bars kp_names kp_lesser kp_greater)) h0 (c_X0_takeFrom l D cI cZ cS a1 a7 a8 a9 a2 a10 a11 a12 fr_pins fr_bars fr_names fr_lesser fr_greater kp_pins kp_bars kp_names kp_lesser kp_greater r2 hF) (gV wq_564 wq_565 wq_566 wq_2 wq_567) hdX0_takeFrom ⟨Nat.le_of_ble_eq_true rfl, Nat.le_of_ble_eq_true rfl⟩ ⟨Nat.le_refl _, Nat.le_refl _⟩ hP hD hS hA 0 0 rfl rfl rfl [1, 2, 3, 4, 5, 6, 7, 8] rfl rfl rfl rfl hl.1 rfl (Nat.le_of_ble_eq_true rfl) dX6_back_18 (fun H locs hP hD hS => ?_)
    refine lv_aload_n hx hb dX6_back_21 rfl (lv_at hl 0 rfl) ?_
    refine gf_X6_10 h0 hP 0 rfl rfl dX6_back_22 ?_
    refine gf_X6_95 h0 hP 1 rfl rfl dX6_back_25 ?_
    exact hfin _ (Option.some.inj E) _ _ _ _ hP hD hS dX6_back_28
  · have E := br_p E c1
    refine lv_bipush (v := (-3)) hx hb dX6_back_7 (by decide) ?_
    exact hfin _ (Option.some.inj E) _ _ _ _ hP hD hS dX6_back_9
theorem hdX6_isSort : yX6_isSort.cls ≠ "java/lang/invoke/MethodHandle" ∧ yX6_isSort.cls ≠ "java/lang/invoke/VarHandle" ∧ (parseMethodDescriptor yX6_isSort.desc).map (fun d => d.parameters.length) = some 1 := by decide +kernel
noncomputable def FX6_isSort (p0 : Int32) : Option (Int32) := (if p0 = 0 then (some 1) else (if p0 = 1 then (some 1) else (some 0)))
set_option maxHeartbeats 4000000 in
set_option maxRecDepth 100000 in
theorem c_X6_isSort (l : Launch) (D : va_G) (cI cZ cS : ClassId)   (p0 : Int32) (u : Int32) (hF : FX6_isSort p0 = some u) : MCi l D (tyL cI cZ cS) yX6_isSort cX6_isSort 1 (some .boolean) 0 0 [.int p0] ([] : va_W) ([] : va_W) u := by
  refine MCz.mk (by decide) (Nat.le_of_ble_eq_true rfl) ?_
  intro p e s m args below meth c A ls Q h0 hP hD hA hS hl hfin0
  have hfin : ∀ (u' : Int32), u' = u → ∀ (H : Heap) (locs : List Loc) (ls : Array Slot) (pc : Nat), (u' = 0 ∨ u' = 1) → va_P D vwCl ([] : va_W) H → va_D A ([] : va_W) → va_S A s.heap H locs → decode cX6_isSort pc = .ok (.ireturn, 1) → W p l e (uR 0 0) s m args below meth c H locs 0 0 Q (F0 m pc ls [.int u']) := by intro u' hu; subst hu; exact hfin0
  clear hfin0
  obtain ⟨hx, hb, hr, hlk, hml, hown, hts, hK⟩ := id h0
  have hl : lv_has ls 1 [(0, .int p0)] := hl
  have E := hF
  refine lv_iload_n hx hb dX6_isSort_0 rfl (lv_at hl 0 rfl) ?_
  refine lv_if_eq (tgt := 9) hx hb dX6_isSort_1 (by decide) (fun c1 => ?_) (fun c1 => ?_)
  · have E := br_p E c1
    refine lv_iconst (v := 1) hx hb dX6_isSort_9 (by decide) ?_
    refine lv_goto (tgt := 14) hx hb dX6_isSort_10 (by decide) ?_
    exact hfin _ (Option.some.inj E) _ _ _ _ (Or.inr rfl) hP hD hS dX6_isSort_14
  · have E := br_n E c1
    refine lv_iload_n hx hb dX6_isSort_4 rfl (lv_at hl 0 rfl) ?_
    refine lv_iconst (v := 1) hx hb dX6_isSort_5 (by decide) ?_
    refine lv_icmp_ne (tgt := 13) hx hb dX6_isSort_6 (by decide) (fun c2 => ?_) (fun c2 => ?_)
    · have E := br_n E c2
      refine lv_iconst (v := 0) hx hb dX6_isSort_13 (by decide) ?_
      exact hfin _ (Option.some.inj E) _ _ _ _ (Or.inl rfl) hP hD hS dX6_isSort_14
    · have E := br_p E c2
      refine lv_iconst (v := 1) hx hb dX6_isSort_9 (by decide) ?_
      refine lv_goto (tgt := 14) hx hb dX6_isSort_10 (by decide) ?_
      exact hfin _ (Option.some.inj E) _ _ _ _ (Or.inr rfl) hP hD hS dX6_isSort_14
theorem hdX6_sheet : yX6_sheet.cls = RX6 ∧ yX6_sheet.cls ≠ "java/lang/invoke/MethodHandle" ∧ yX6_sheet.cls ≠ "java/lang/invoke/VarHandle" ∧ (parseMethodDescriptor yX6_sheet.desc).map (fun d => d.parameters.length) = some 3 := by decide +kernel
noncomputable def FX6_sheet_b22 (p1 p2 p3 : Int32)  (sh_sort sh_size : Int32) (sh_items : Nat → Int32) : Option (Int32 × Int32 × Int32 × (Nat → Int32)) := (if p2 = (-1) then (gd (vp_in p1 4) ((FX2_become (-1) 0 sh_sort sh_size sh_items).bind (fun r7 => (some (1, r7.1, r7.2.1, r7.2.2))))) else (if p3 ≤ 40 then (if 0 ≤ p3 then (gd (vp_in p1 4) ((FX2_become p2 p3 sh_sort sh_size sh_items).bind (fun r5 => (some (1, r5.1, r5.2.1, r5.2.2))))) else (some ((-14), sh_sort, sh_size, sh_items))) else (some ((-2), sh_sort, sh_size, sh_items))))
noncomputable def FX6_sheet (p1 p2 p3 : Int32) (sh_sort sh_size : Int32) (sh_items : Nat → Int32) : Option (Int32 × Int32 × Int32 × (Nat → Int32)) := ((FX6_isSheet p1).bind (fun r8 => (if r8 = 0 then (some ((-2), sh_sort, sh_size, sh_items)) else (if p2 = (-1) then (FX6_sheet_b22 p1 p2 p3  sh_sort sh_size sh_items) else ((FX6_isSort p2).bind (fun r11 => (if r11 = 0 then (some ((-2), sh_sort, sh_size, sh_items)) else (FX6_sheet_b22 p1 p2 p3  sh_sort sh_size sh_items))))))))
set_option maxHeartbeats 4000000 in
set_option maxRecDepth 100000 in
theorem c_X6_sheet (l : Launch) (D : va_G) (cI cZ cS : ClassId) (a0 a1 a2 a3 a4 a5 a6 a7 a8 : Nat) (v_isKept : Int32) (v_sa : Nat → Option Nat) (sh_sort sh_size : Int32) (sh_items : Nat → Int32) (p1 p2 p3 : Int32) (u : Int32 × Int32 × Int32 × (Nat → Int32)) (hF : FX6_sheet p1 p2 p3 sh_sort sh_size sh_items = some u) (hq_p1 : vp_in p1 4 → v_sa p1.toNatClampNeg = some a7) : MCi l D (tyL cI cZ cS) yX6_sheet cX6_sheet 4 (some .int) 1 23 [.ref a0, .int p1, .int p2, .int p3] (wX6 a0 a1 a2 a3 a4 a5 a6 v_isKept ++ wSA cS a6 v_sa ++ wX2 cI a7 a8 sh_sort sh_size sh_items) (wX6 a0 a1 a2 a3 a4 a5 a6 v_isKept ++ wSA cS a6 v_sa ++ wX2 cI a7 a8 u.2.1 u.2.2.1 u.2.2.2) u.1 := by
  refine MCi.mk (by decide) (Nat.le_of_ble_eq_true rfl) ?_
  intro p e s m args below meth c A ls Q h0 hP hD hA hS hl hfin0
  have hfin : ∀ (u' : Int32 × Int32 × Int32 × (Nat → Int32)), u' = u → ∀ (H : Heap) (locs : List Loc) (ls : Array Slot) (pc : Nat), va_P D vwCl (wX6 a0 a1 a2 a3 a4 a5 a6 v_isKept ++ wSA cS a6 v_sa ++ wX2 cI a7 a8 u'.2.1 u'.2.2.1 u'.2.2.2) H → va_D A (wX6 a0 a1 a2 a3 a4 a5 a6 v_isKept ++ wSA cS a6 v_sa ++ wX2 cI a7 a8 u'.2.1 u'.2.2.1 u'.2.2.2) → va_S A s.heap H locs → decode cX6_sheet pc = .ok (.ireturn, 1) → W p l e (uR 1 23) s m args below meth c H locs 0 0 Q (F0 m pc ls [.int u'.1]) := by intro u' hu; subst hu; exact hfin0
  clear hfin0
  obtain ⟨hx, hb, hr, hlk, hml, hown, hts, hK⟩ := id h0
  have hl : lv_has ls 4 [(0, .ref a0), (1, .int p1), (2, .int p2), (3, .int p3)] := hl
  have E := hF
  have J22 : ∀ (sh_sort sh_size : Int32) (sh_items : Nat → Int32) (H : Heap) (locs : List Loc) (ls : Array Slot), FX6_sheet_b22 p1 p2 p3  sh_sort sh_size sh_items = some u → va_P D vwCl (wX6 a0 a1 a2 a3 a4 a5 a6 v_isKept ++ wSA cS a6 v_sa ++ wX2 cI a7 a8 sh_sort sh_size sh_items) H → va_D A (wX6 a0 a1 a2 a3 a4 a5 a6 v_isKept ++ wSA cS a6 v_sa ++ wX2 cI a7 a8 sh_sort sh_size sh_items) → va_S A s.heap H locs → lv_has ls 4 [(0, .ref a0), (1, .int p1), (2, .int p2), (3, .int p3)] → W p l e (uR 1 23) s m args below meth c H locs 0 0 Q (F0 m 22 ls []) := by
    intro sh_sort sh_size sh_items H locs ls E hP hD hS hl
    refine lv_iload_n hx hb dX6_sheet_22 rfl (lv_at hl 2 rfl) ?_
    refine lv_iconst (v := (-1)) hx hb dX6_sheet_23 (by decide) ?_
    refine lv_icmp_ne (tgt := 40) hx hb dX6_sheet_24 (by decide) (fun c1 => ?_) (fun c1 => ?_)
    · have E := br_n E c1
      refine lv_iload_n hx hb dX6_sheet_40 rfl (lv_at hl 3 rfl) ?_
      refine lv_bipush (v := 40) hx hb dX6_sheet_41 (by decide) ?_
      refine lv_icmp_le (tgt := 49) hx hb dX6_sheet_43 (by decide) (fun c2 => ?_) (fun c2 => ?_)
      · have E := br_p E c2
        refine lv_iload_n hx hb dX6_sheet_49 rfl (lv_at hl 3 rfl) ?_
        refine lv_if_ge (tgt := 56) hx hb dX6_sheet_50 (by decide) (fun c3 => ?_) (fun c3 => ?_)
        · have E := br_p E c3
          refine lv_aload_n hx hb dX6_sheet_56 rfl (lv_at hl 0 rfl) ?_
          refine gf_X6_46 h0 hP 0 rfl rfl dX6_sheet_57 ?_
          refine lv_iload_n hx hb dX6_sheet_60 rfl (lv_at hl 1 rfl) ?_
          obtain ⟨g4, E⟩ := gd_e E
          refine aldr hx hb hK hP 1 rfl rfl g4 (hq_p1 g4) dX6_sheet_61 ?_
          refine lv_iload_n hx hb dX6_sheet_62 rfl (lv_at hl 2 rfl) ?_
          refine lv_iload_n hx hb dX6_sheet_63 rfl (lv_at hl 3 rfl) ?_
          obtain ⟨r5, hF, E⟩ := bn_e E
          refine callVv (wo := (wX6 a0 a1 a2 a3 a4 a5 a6 v_isKept ++ wSA cS a6 v_sa ++ wX2 cI a7 a8 r5.1 r5.2.1 r5.2.2)) h0 (c_X2_become l D cI cZ cS a7 a8 sh_sort sh_size sh_items p2 p3 r5 hF) (gV wq_552 wq_553 wq_554 wq_7 wq_555) hdX2_become ⟨Nat.le_of_ble_eq_true rfl, Nat.le_of_ble_eq_true rfl⟩ ⟨Nat.le_refl _, Nat.le_refl _⟩ hP hD hS hA 0 2 rfl rfl rfl [2, 3] rfl rfl rfl rfl hl.1 rfl (Nat.le_of_ble_eq_true rfl) dX6_sheet_64 (fun H locs hP hD hS => ?_)
          refine lv_iconst (v := 1) hx hb dX6_sheet_67 (by decide) ?_
          exact hfin _ (Option.some.inj E) _ _ _ _ hP hD hS dX6_sheet_68
        · have E := br_n E c3
          refine lv_bipush (v := (-14)) hx hb dX6_sheet_53 (by decide) ?_
          exact hfin _ (Option.some.inj E) _ _ _ _ hP hD hS dX6_sheet_55
      · have E := br_n E c2
        refine lv_bipush (v := (-2)) hx hb dX6_sheet_46 (by decide) ?_
        exact hfin _ (Option.some.inj E) _ _ _ _ hP hD hS dX6_sheet_48
    · have E := br_p E c1
      refine lv_aload_n hx hb dX6_sheet_27 rfl (lv_at hl 0 rfl) ?_
      refine gf_X6_46 h0 hP 0 rfl rfl dX6_sheet_28 ?_
      refine lv_iload_n hx hb dX6_sheet_31 rfl (lv_at hl 1 rfl) ?_
      obtain ⟨g6, E⟩ := gd_e E
      refine aldr hx hb hK hP 1 rfl rfl g6 (hq_p1 g6) dX6_sheet_32 ?_
      refine lv_iconst (v := (-1)) hx hb dX6_sheet_33 (by decide) ?_
      refine lv_iconst (v := 0) hx hb dX6_sheet_34 (by decide) ?_
      obtain ⟨r7, hF, E⟩ := bn_e E
      refine callVv (wo := (wX6 a0 a1 a2 a3 a4 a5 a6 v_isKept ++ wSA cS a6 v_sa ++ wX2 cI a7 a8 r7.1 r7.2.1 r7.2.2)) h0 (c_X2_become l D cI cZ cS a7 a8 sh_sort sh_size sh_items (-1) 0 r7 hF) (gV wq_552 wq_553 wq_554 wq_7 wq_555) hdX2_become ⟨Nat.le_of_ble_eq_true rfl, Nat.le_of_ble_eq_true rfl⟩ ⟨Nat.le_refl _, Nat.le_refl _⟩ hP hD hS hA 0 2 rfl rfl rfl [2, 3] rfl rfl rfl rfl hl.1 rfl (Nat.le_of_ble_eq_true rfl) dX6_sheet_35 (fun H locs hP hD hS => ?_)
      refine lv_iconst (v := 1) hx hb dX6_sheet_38 (by decide) ?_
      exact hfin _ (Option.some.inj E) _ _ _ _ hP hD hS dX6_sheet_39
  refine lv_iload_n hx hb dX6_sheet_0 rfl (lv_at hl 1 rfl) ?_
  obtain ⟨r8, hF, E⟩ := bn_e E
  refine callSi (wo := (wX6 a0 a1 a2 a3 a4 a5 a6 v_isKept ++ wSA cS a6 v_sa ++ wX2 cI a7 a8 sh_sort sh_size sh_items)) h0 (c_X6_isSheet l D cI cZ cS p1 r8 hF) (gS wq_524 wq_525 wq_1 wq_526) hdX6_isSheet ⟨Nat.le_of_ble_eq_true rfl, Nat.le_of_ble_eq_true rfl⟩ ⟨Nat.le_refl _, Nat.le_refl _⟩ hP hD hS hA [] rfl rfl rfl rfl hl.1 rfl (Nat.le_of_ble_eq_true rfl) dX6_sheet_1 (fun H locs hP hD hS => ?_)
  refine lv_if_eq (tgt := 19) hx hb dX6_sheet_4 (by decide) (fun c9 => ?_) (fun c9 => ?_)
  · have E := br_p E c9
    refine lv_bipush (v := (-2)) hx hb dX6_sheet_19 (by decide) ?_
    exact hfin _ (Option.some.inj E) _ _ _ _ hP hD hS dX6_sheet_21
  · have E := br_n E c9
    refine lv_iload_n hx hb dX6_sheet_7 rfl (lv_at hl 2 rfl) ?_
    refine lv_iconst (v := (-1)) hx hb dX6_sheet_8 (by decide) ?_
    refine lv_icmp_eq (tgt := 22) hx hb dX6_sheet_9 (by decide) (fun c10 => ?_) (fun c10 => ?_)
    · have E := br_p E c10
      exact J22 _ _ _ _ _ _ E hP hD hS (lv_sub hl [0, 1, 2, 3] rfl)
    · have E := br_n E c10
      refine lv_iload_n hx hb dX6_sheet_12 rfl (lv_at hl 2 rfl) ?_
      obtain ⟨r11, hF, E⟩ := bn_e E
      refine callSi (wo := (wX6 a0 a1 a2 a3 a4 a5 a6 v_isKept ++ wSA cS a6 v_sa ++ wX2 cI a7 a8 sh_sort sh_size sh_items)) h0 (c_X6_isSort l D cI cZ cS p2 r11 hF) (gS wq_579 wq_580 wq_1 wq_581) hdX6_isSort ⟨Nat.le_of_ble_eq_true rfl, Nat.le_of_ble_eq_true rfl⟩ ⟨Nat.le_refl _, Nat.le_refl _⟩ hP hD hS hA [] rfl rfl rfl rfl hl.1 rfl (Nat.le_of_ble_eq_true rfl) dX6_sheet_13 (fun H locs hP hD hS => ?_)
      refine lv_if_ne (tgt := 22) hx hb dX6_sheet_16 (by decide) (fun c12 => ?_) (fun c12 => ?_)
      · have E := br_n E c12
        exact J22 _ _ _ _ _ _ E hP hD hS (lv_sub hl [0, 1, 2, 3] rfl)
      · have E := br_p E c12
        refine lv_bipush (v := (-2)) hx hb dX6_sheet_19 (by decide) ?_
        exact hfin _ (Option.some.inj E) _ _ _ _ hP hD hS dX6_sheet_21
theorem hdX6_put : yX6_put.cls = RX6 ∧ yX6_put.cls ≠ "java/lang/invoke/MethodHandle" ∧ yX6_put.cls ≠ "java/lang/invoke/VarHandle" ∧ (parseMethodDescriptor yX6_put.desc).map (fun d => d.parameters.length) = some 3 := by decide +kernel
noncomputable def FX6_put (p1 p2 p3 : Int32) (sh_sort sh_size : Int32) (sh_items : Nat → Int32) : Option (Int32 × (Nat → Int32)) := ((FX6_isSheet p1).bind (fun r1 => (if r1 = 0 then (some ((-2), sh_items)) else (gd (vp_in p1 4) ((FX2_isMissing sh_sort).bind (fun r4 => (if r4 = 0 then (gd (vp_in p1 4) ((FX2_has p2 sh_size).bind (fun r7 => (if r7 = 0 then (some ((-12), sh_items)) else (gd (vp_in p1 4) ((FX2_write p2 p3 sh_sort sh_size sh_items).bind (fun r10 => (some (1, r10))))))))) else (some ((-11), sh_items)))))))))
set_option maxHeartbeats 4000000 in
set_option maxRecDepth 100000 in
theorem c_X6_put (l : Launch) (D : va_G) (cI cZ cS : ClassId) (a0 a1 a2 a3 a4 a5 a6 a7 a8 : Nat) (v_isKept : Int32) (v_sa : Nat → Option Nat) (sh_sort sh_size : Int32) (sh_items : Nat → Int32) (p1 p2 p3 : Int32) (u : Int32 × (Nat → Int32)) (hF : FX6_put p1 p2 p3 sh_sort sh_size sh_items = some u) (hq_p1 : vp_in p1 4 → v_sa p1.toNatClampNeg = some a7) : MCi l D (tyL cI cZ cS) yX6_put cX6_put 4 (some .int) 2 43 [.ref a0, .int p1, .int p2, .int p3] (wX6 a0 a1 a2 a3 a4 a5 a6 v_isKept ++ wSA cS a6 v_sa ++ wX2 cI a7 a8 sh_sort sh_size sh_items) (wX6 a0 a1 a2 a3 a4 a5 a6 v_isKept ++ wSA cS a6 v_sa ++ wX2 cI a7 a8 sh_sort sh_size u.2) u.1 := by
  refine MCi.mk (by decide) (Nat.le_of_ble_eq_true rfl) ?_
  intro p e s m args below meth c A ls Q h0 hP hD hA hS hl hfin0
  have hfin : ∀ (u' : Int32 × (Nat → Int32)), u' = u → ∀ (H : Heap) (locs : List Loc) (ls : Array Slot) (pc : Nat), va_P D vwCl (wX6 a0 a1 a2 a3 a4 a5 a6 v_isKept ++ wSA cS a6 v_sa ++ wX2 cI a7 a8 sh_sort sh_size u'.2) H → va_D A (wX6 a0 a1 a2 a3 a4 a5 a6 v_isKept ++ wSA cS a6 v_sa ++ wX2 cI a7 a8 sh_sort sh_size u'.2) → va_S A s.heap H locs → decode cX6_put pc = .ok (.ireturn, 1) → W p l e (uR 2 43) s m args below meth c H locs 0 0 Q (F0 m pc ls [.int u'.1]) := by intro u' hu; subst hu; exact hfin0
  clear hfin0
  obtain ⟨hx, hb, hr, hlk, hml, hown, hts, hK⟩ := id h0
  have hl : lv_has ls 4 [(0, .ref a0), (1, .int p1), (2, .int p2), (3, .int p3)] := hl
  have E := hF
  refine lv_iload_n hx hb dX6_put_0 rfl (lv_at hl 1 rfl) ?_
  obtain ⟨r1, hF, E⟩ := bn_e E
  refine callSi (wo := (wX6 a0 a1 a2 a3 a4 a5 a6 v_isKept ++ wSA cS a6 v_sa ++ wX2 cI a7 a8 sh_sort sh_size sh_items)) h0 (c_X6_isSheet l D cI cZ cS p1 r1 hF) (gS wq_524 wq_525 wq_1 wq_526) hdX6_isSheet ⟨Nat.le_of_ble_eq_true rfl, Nat.le_of_ble_eq_true rfl⟩ ⟨Nat.le_refl _, Nat.le_refl _⟩ hP hD hS hA [] rfl rfl rfl rfl hl.1 rfl (Nat.le_of_ble_eq_true rfl) dX6_put_1 (fun H locs hP hD hS => ?_)
  refine lv_if_ne (tgt := 10) hx hb dX6_put_4 (by decide) (fun c2 => ?_) (fun c2 => ?_)
  · have E := br_n E c2
    refine lv_aload_n hx hb dX6_put_10 rfl (lv_at hl 0 rfl) ?_
    refine gf_X6_46 h0 hP 0 rfl rfl dX6_put_11 ?_
    refine lv_iload_n hx hb dX6_put_14 rfl (lv_at hl 1 rfl) ?_
    obtain ⟨g3, E⟩ := gd_e E
    refine aldr hx hb hK hP 1 rfl rfl g3 (hq_p1 g3) dX6_put_15 ?_
    obtain ⟨r4, hF, E⟩ := bn_e E
    refine callVi (wo := (wX6 a0 a1 a2 a3 a4 a5 a6 v_isKept ++ wSA cS a6 v_sa ++ wX2 cI a7 a8 sh_sort sh_size sh_items)) h0 (c_X2_isMissing l D cI cZ cS a7 a8 sh_sort sh_size sh_items r4 hF) (gV wq_527 wq_528 wq_529 wq_7 wq_530) hdX2_isMissing ⟨Nat.le_of_ble_eq_true rfl, Nat.le_of_ble_eq_true rfl⟩ ⟨Nat.le_refl _, Nat.le_refl _⟩ hP hD hS hA 0 2 rfl rfl rfl [2, 3] rfl rfl rfl rfl hl.1 rfl (Nat.le_of_ble_eq_true rfl) dX6_put_16 (fun H locs hP hD hS => ?_)
    refine lv_if_eq (tgt := 25) hx hb dX6_put_19 (by decide) (fun c5 => ?_) (fun c5 => ?_)
    · have E := br_p E c5
      refine lv_aload_n hx hb dX6_put_25 rfl (lv_at hl 0 rfl) ?_
      refine gf_X6_46 h0 hP 0 rfl rfl dX6_put_26 ?_
      refine lv_iload_n hx hb dX6_put_29 rfl (lv_at hl 1 rfl) ?_
      obtain ⟨g6, E⟩ := gd_e E
      refine aldr hx hb hK hP 1 rfl rfl g6 (hq_p1 g6) dX6_put_30 ?_
      refine lv_iload_n hx hb dX6_put_31 rfl (lv_at hl 2 rfl) ?_
      obtain ⟨r7, hF, E⟩ := bn_e E
      refine callVi (wo := (wX6 a0 a1 a2 a3 a4 a5 a6 v_isKept ++ wSA cS a6 v_sa ++ wX2 cI a7 a8 sh_sort sh_size sh_items)) h0 (c_X2_has l D cI cZ cS a7 a8 sh_sort sh_size sh_items p2 r7 hF) (gV wq_586 wq_540 wq_541 wq_7 wq_542) hdX2_has ⟨Nat.le_of_ble_eq_true rfl, Nat.le_of_ble_eq_true rfl⟩ ⟨Nat.le_refl _, Nat.le_refl _⟩ hP hD hS hA 0 2 rfl rfl rfl [2, 3] rfl rfl rfl rfl hl.1 rfl (Nat.le_of_ble_eq_true rfl) dX6_put_32 (fun H locs hP hD hS => ?_)
      refine lv_if_ne (tgt := 41) hx hb dX6_put_35 (by decide) (fun c8 => ?_) (fun c8 => ?_)
      · have E := br_n E c8
        refine lv_aload_n hx hb dX6_put_41 rfl (lv_at hl 0 rfl) ?_
        refine gf_X6_46 h0 hP 0 rfl rfl dX6_put_42 ?_
        refine lv_iload_n hx hb dX6_put_45 rfl (lv_at hl 1 rfl) ?_
        obtain ⟨g9, E⟩ := gd_e E
        refine aldr hx hb hK hP 1 rfl rfl g9 (hq_p1 g9) dX6_put_46 ?_
        refine lv_iload_n hx hb dX6_put_47 rfl (lv_at hl 2 rfl) ?_
        refine lv_iload_n hx hb dX6_put_48 rfl (lv_at hl 3 rfl) ?_
        obtain ⟨r10, hF, E⟩ := bn_e E
        refine callVv (wo := (wX6 a0 a1 a2 a3 a4 a5 a6 v_isKept ++ wSA cS a6 v_sa ++ wX2 cI a7 a8 sh_sort sh_size r10)) h0 (c_X2_write l D cI cZ cS a7 a8 sh_sort sh_size sh_items p2 p3 r10 hF) (gV wq_556 wq_557 wq_558 wq_7 wq_559) hdX2_write ⟨Nat.le_of_ble_eq_true rfl, Nat.le_of_ble_eq_true rfl⟩ ⟨Nat.le_refl _, Nat.le_refl _⟩ hP hD hS hA 0 2 rfl rfl rfl [2, 3] rfl rfl rfl rfl hl.1 rfl (Nat.le_of_ble_eq_true rfl) dX6_put_49 (fun H locs hP hD hS => ?_)
        refine lv_iconst (v := 1) hx hb dX6_put_52 (by decide) ?_
        exact hfin _ (Option.some.inj E) _ _ _ _ hP hD hS dX6_put_53
      · have E := br_p E c8
        refine lv_bipush (v := (-12)) hx hb dX6_put_38 (by decide) ?_
        exact hfin _ (Option.some.inj E) _ _ _ _ hP hD hS dX6_put_40
    · have E := br_n E c5
      refine lv_bipush (v := (-11)) hx hb dX6_put_22 (by decide) ?_
      exact hfin _ (Option.some.inj E) _ _ _ _ hP hD hS dX6_put_24
  · have E := br_p E c2
    refine lv_bipush (v := (-2)) hx hb dX6_put_7 (by decide) ?_
    exact hfin _ (Option.some.inj E) _ _ _ _ hP hD hS dX6_put_9
theorem hdX6_copy : yX6_copy.cls = RX6 ∧ yX6_copy.cls ≠ "java/lang/invoke/MethodHandle" ∧ yX6_copy.cls ≠ "java/lang/invoke/VarHandle" ∧ (parseMethodDescriptor yX6_copy.desc).map (fun d => d.parameters.length) = some 5 := by decide +kernel
noncomputable def FX6_copy (p1 p2 p3 p4 p5 : Int32) (sh_sort sh_size : Int32) (sh_items : Nat → Int32) (sg_sort sg_size : Int32) (sg_items : Nat → Int32) : Option (Int32 × (Nat → Int32)) := ((FX6_isSheet p1).bind (fun r1 => (if r1 = 0 then (some ((-2), sg_items)) else ((FX6_isSheet p3).bind (fun r3 => (if r3 = 0 then (some ((-2), sg_items)) else (gd (vp_in p1 4) (gd (vp_in p3 4) ((FX2_isMissing sh_sort).bind (fun r7 => (if r7 = 0 then ((FX2_isMissing sg_sort).bind (fun r9 => (if r9 = 0 then (if sh_sort = sg_sort then ((FX2_hasRun p2 p5 sh_size).bind (fun r12 => (if r12 = 0 then (some ((-12), sg_items)) else ((FX2_hasRun p4 p5 sg_size).bind (fun r14 => (if r14 = 0 then (some ((-12), sg_items)) else (gd (¬ p2 < 0 ∧ ¬ p4 < 0 ∧ ¬ p5 < 0 ∧ p2.toNatClampNeg + p5.toNatClampNeg ≤ 40 ∧ p4.toNatClampNeg + p5.toNatClampNeg ≤ 40) (some (p5, (va_cpy sh_items sg_items p2.toNatClampNeg p4.toNatClampNeg p5.toNatClampNeg)))))))))) else (some ((-13), sg_items))) else (some ((-11), sg_items))))) else (some ((-11), sg_items)))))))))))))
set_option maxHeartbeats 4000000 in
set_option maxRecDepth 100000 in
theorem c_X6_copy (l : Launch) (D : va_G) (cI cZ cS : ClassId) (a0 a1 a2 a3 a4 a5 a6 a7 a8 a9 a10 : Nat) (v_isKept : Int32) (v_sa : Nat → Option Nat) (sh_sort sh_size : Int32) (sh_items : Nat → Int32) (sg_sort sg_size : Int32) (sg_items : Nat → Int32) (p1 p2 p3 p4 p5 : Int32) (u : Int32 × (Nat → Int32)) (hF : FX6_copy p1 p2 p3 p4 p5 sh_sort sh_size sh_items sg_sort sg_size sg_items = some u) (hq_p1 : vp_in p1 4 → v_sa p1.toNatClampNeg = some a7) (hq_p3 : vp_in p3 4 → v_sa p3.toNatClampNeg = some a9) : MCi l D (tyL cI cZ cS) yX6_copy cX6_copy 8 (some .int) 1 200 [.ref a0, .int p1, .int p2, .int p3, .int p4, .int p5] (wX6 a0 a1 a2 a3 a4 a5 a6 v_isKept ++ wSA cS a6 v_sa ++ wX2 cI a7 a8 sh_sort sh_size sh_items ++ wX2 cI a9 a10 sg_sort sg_size sg_items) (wX6 a0 a1 a2 a3 a4 a5 a6 v_isKept ++ wSA cS a6 v_sa ++ wX2 cI a7 a8 sh_sort sh_size sh_items ++ wX2 cI a9 a10 sg_sort sg_size u.2) u.1 := by
  refine MCi.mk (by decide) (Nat.le_of_ble_eq_true rfl) ?_
  intro p e s m args below meth c A ls Q h0 hP hD hA hS hl hfin0
  have hfin : ∀ (u' : Int32 × (Nat → Int32)), u' = u → ∀ (H : Heap) (locs : List Loc) (ls : Array Slot) (pc : Nat), va_P D vwCl (wX6 a0 a1 a2 a3 a4 a5 a6 v_isKept ++ wSA cS a6 v_sa ++ wX2 cI a7 a8 sh_sort sh_size sh_items ++ wX2 cI a9 a10 sg_sort sg_size u'.2) H → va_D A (wX6 a0 a1 a2 a3 a4 a5 a6 v_isKept ++ wSA cS a6 v_sa ++ wX2 cI a7 a8 sh_sort sh_size sh_items ++ wX2 cI a9 a10 sg_sort sg_size u'.2) → va_S A s.heap H locs → decode cX6_copy pc = .ok (.ireturn, 1) → W p l e (uR 1 200) s m args below meth c H locs 0 0 Q (F0 m pc ls [.int u'.1]) := by intro u' hu; subst hu; exact hfin0
  clear hfin0
  obtain ⟨hx, hb, hr, hlk, hml, hown, hts, hK⟩ := id h0
  have hl : lv_has ls 8 [(0, .ref a0), (1, .int p1), (2, .int p2), (3, .int p3), (4, .int p4), (5, .int p5)] := hl
  have E := hF
  refine lv_iload_n hx hb dX6_copy_0 rfl (lv_at hl 1 rfl) ?_
  obtain ⟨r1, hF, E⟩ := bn_e E
  refine callSi (wo := (wX6 a0 a1 a2 a3 a4 a5 a6 v_isKept ++ wSA cS a6 v_sa ++ wX2 cI a7 a8 sh_sort sh_size sh_items ++ wX2 cI a9 a10 sg_sort sg_size sg_items)) h0 (c_X6_isSheet l D cI cZ cS p1 r1 hF) (gS wq_524 wq_525 wq_1 wq_526) hdX6_isSheet ⟨Nat.le_of_ble_eq_true rfl, Nat.le_of_ble_eq_true rfl⟩ ⟨Nat.le_refl _, Nat.le_refl _⟩ hP hD hS hA [] rfl rfl rfl rfl hl.1 rfl (Nat.le_of_ble_eq_true rfl) dX6_copy_1 (fun H locs hP hD hS => ?_)
  refine lv_if_eq (tgt := 14) hx hb dX6_copy_4 (by decide) (fun c2 => ?_) (fun c2 => ?_)
  · have E := br_p E c2
    refine lv_bipush (v := (-2)) hx hb dX6_copy_14 (by decide) ?_
    exact hfin _ (Option.some.inj E) _ _ _ _ hP hD hS dX6_copy_16
  · have E := br_n E c2
    refine lv_iload_n hx hb dX6_copy_7 rfl (lv_at hl 3 rfl) ?_
    obtain ⟨r3, hF, E⟩ := bn_e E
    refine callSi (wo := (wX6 a0 a1 a2 a3 a4 a5 a6 v_isKept ++ wSA cS a6 v_sa ++ wX2 cI a7 a8 sh_sort sh_size sh_items ++ wX2 cI a9 a10 sg_sort sg_size sg_items)) h0 (c_X6_isSheet l D cI cZ cS p3 r3 hF) (gS wq_524 wq_525 wq_1 wq_526) hdX6_isSheet ⟨Nat.le_of_ble_eq_true rfl, Nat.le_of_ble_eq_true rfl⟩ ⟨Nat.le_refl _, Nat.le_refl _⟩ hP hD hS hA [] rfl rfl rfl rfl hl.1 rfl (Nat.le_of_ble_eq_true rfl) dX6_copy_8 (fun H locs hP hD hS => ?_)
    refine lv_if_ne (tgt := 17) hx hb dX6_copy_11 (by decide) (fun c4 => ?_) (fun c4 => ?_)
    · have E := br_n E c4
      refine lv_aload_n hx hb dX6_copy_17 rfl (lv_at hl 0 rfl) ?_
      refine gf_X6_46 h0 hP 0 rfl rfl dX6_copy_18 ?_
      refine lv_iload_n hx hb dX6_copy_21 rfl (lv_at hl 1 rfl) ?_
      obtain ⟨g5, E⟩ := gd_e E
      refine aldr hx hb hK hP 1 rfl rfl g5 (hq_p1 g5) dX6_copy_22 ?_
      refine lv_astore (lv' := [(6, .ref a7), (0, .ref a0), (1, .int p1), (2, .int p2), (3, .int p3), (4, .int p4), (5, .int p5)]) hx hb dX6_copy_23 hl (by decide) rfl (fun ls hl => ?_)
      refine lv_aload_n hx hb dX6_copy_25 rfl (lv_at hl 1 rfl) ?_
      refine gf_X6_46 h0 hP 0 rfl rfl dX6_copy_26 ?_
      refine lv_iload_n hx hb dX6_copy_29 rfl (lv_at hl 4 rfl) ?_
      obtain ⟨g6, E⟩ := gd_e E
      refine aldr hx hb hK hP 1 rfl rfl g6 (hq_p3 g6) dX6_copy_30 ?_
      refine lv_astore (lv' := [(7, .ref a9), (6, .ref a7), (0, .ref a0), (1, .int p1), (2, .int p2), (3, .int p3), (4, .int p4), (5, .int p5)]) hx hb dX6_copy_31 hl (by decide) rfl (fun ls hl => ?_)
      refine lv_aload hx hb dX6_copy_33 (lv_at hl 1 rfl) ?_
      obtain ⟨r7, hF, E⟩ := bn_e E
      refine callVi (wo := (wX6 a0 a1 a2 a3 a4 a5 a6 v_isKept ++ wSA cS a6 v_sa ++ wX2 cI a7 a8 sh_sort sh_size sh_items ++ wX2 cI a9 a10 sg_sort sg_size sg_items)) h0 (c_X2_isMissing l D cI cZ cS a7 a8 sh_sort sh_size sh_items r7 hF) (gV wq_527 wq_528 wq_529 wq_7 wq_530) hdX2_isMissing ⟨Nat.le_of_ble_eq_true rfl, Nat.le_of_ble_eq_true rfl⟩ ⟨Nat.le_refl _, Nat.le_refl _⟩ hP hD hS hA 0 2 rfl rfl rfl [2, 3] rfl rfl rfl rfl hl.1 rfl (Nat.le_of_ble_eq_true rfl) dX6_copy_35 (fun H locs hP hD hS => ?_)
      refine lv_if_ne (tgt := 49) hx hb dX6_copy_38 (by decide) (fun c8 => ?_) (fun c8 => ?_)
      · have E := br_n E c8
        refine lv_bipush (v := (-11)) hx hb dX6_copy_49 (by decide) ?_
        exact hfin _ (Option.some.inj E) _ _ _ _ hP hD hS dX6_copy_51
      · have E := br_p E c8
        refine lv_aload hx hb dX6_copy_41 (lv_at hl 0 rfl) ?_
        obtain ⟨r9, hF, E⟩ := bn_e E
        refine callVi (wo := (wX6 a0 a1 a2 a3 a4 a5 a6 v_isKept ++ wSA cS a6 v_sa ++ wX2 cI a7 a8 sh_sort sh_size sh_items ++ wX2 cI a9 a10 sg_sort sg_size sg_items)) h0 (c_X2_isMissing l D cI cZ cS a9 a10 sg_sort sg_size sg_items r9 hF) (gV wq_527 wq_528 wq_529 wq_7 wq_530) hdX2_isMissing ⟨Nat.le_of_ble_eq_true rfl, Nat.le_of_ble_eq_true rfl⟩ ⟨Nat.le_refl _, Nat.le_refl _⟩ hP hD hS hA 0 2 rfl rfl rfl [4, 5] rfl rfl rfl rfl hl.1 rfl (Nat.le_of_ble_eq_true rfl) dX6_copy_43 (fun H locs hP hD hS => ?_)
        refine lv_if_eq (tgt := 52) hx hb dX6_copy_46 (by decide) (fun c10 => ?_) (fun c10 => ?_)
        · have E := br_p E c10
          refine lv_aload hx hb dX6_copy_52 (lv_at hl 1 rfl) ?_
          refine gf_X6_234 h0 hP 2 rfl rfl dX6_copy_54 ?_
          refine lv_aload hx hb dX6_copy_57 (lv_at hl 0 rfl) ?_
          refine gf_X6_234 h0 hP 4 rfl rfl dX6_copy_59 ?_
          refine lv_icmp_eq (tgt := 68) hx hb dX6_copy_62 (by decide) (fun c11 => ?_) (fun c11 => ?_)
          · have E := br_p E c11
            refine lv_aload hx hb dX6_copy_68 (lv_at hl 1 rfl) ?_
            refine lv_iload_n hx hb dX6_copy_70 rfl (lv_at hl 4 rfl) ?_
            refine lv_iload hx hb dX6_copy_71 (lv_at hl 7 rfl) ?_
            obtain ⟨r12, hF, E⟩ := bn_e E
            refine callVi (wo := (wX6 a0 a1 a2 a3 a4 a5 a6 v_isKept ++ wSA cS a6 v_sa ++ wX2 cI a7 a8 sh_sort sh_size sh_items ++ wX2 cI a9 a10 sg_sort sg_size sg_items)) h0 (c_X2_hasRun l D cI cZ cS a7 a8 sh_sort sh_size sh_items p2 p5 r12 hF) (gV wq_591 wq_592 wq_593 wq_7 wq_594) hdX2_hasRun ⟨Nat.le_of_ble_eq_true rfl, Nat.le_of_ble_eq_true rfl⟩ ⟨Nat.le_refl _, Nat.le_refl _⟩ hP hD hS hA 0 2 rfl rfl rfl [2, 3] rfl rfl rfl rfl hl.1 rfl (Nat.le_of_ble_eq_true rfl) dX6_copy_73 (fun H locs hP hD hS => ?_)
            refine lv_if_eq (tgt := 91) hx hb dX6_copy_76 (by decide) (fun c13 => ?_) (fun c13 => ?_)
            · have E := br_p E c13
              refine lv_bipush (v := (-12)) hx hb dX6_copy_91 (by decide) ?_
              exact hfin _ (Option.some.inj E) _ _ _ _ hP hD hS dX6_copy_93
            · have E := br_n E c13
              refine lv_aload hx hb dX6_copy_79 (lv_at hl 0 rfl) ?_
              refine lv_iload hx hb dX6_copy_81 (lv_at hl 6 rfl) ?_
              refine lv_iload hx hb dX6_copy_83 (lv_at hl 7 rfl) ?_
              obtain ⟨r14, hF, E⟩ := bn_e E
              refine callVi (wo := (wX6 a0 a1 a2 a3 a4 a5 a6 v_isKept ++ wSA cS a6 v_sa ++ wX2 cI a7 a8 sh_sort sh_size sh_items ++ wX2 cI a9 a10 sg_sort sg_size sg_items)) h0 (c_X2_hasRun l D cI cZ cS a9 a10 sg_sort sg_size sg_items p4 p5 r14 hF) (gV wq_591 wq_592 wq_593 wq_7 wq_594) hdX2_hasRun ⟨Nat.le_of_ble_eq_true rfl, Nat.le_of_ble_eq_true rfl⟩ ⟨Nat.le_refl _, Nat.le_refl _⟩ hP hD hS hA 0 2 rfl rfl rfl [4, 5] rfl rfl rfl rfl hl.1 rfl (Nat.le_of_ble_eq_true rfl) dX6_copy_85 (fun H locs hP hD hS => ?_)
              refine lv_if_ne (tgt := 94) hx hb dX6_copy_88 (by decide) (fun c15 => ?_) (fun c15 => ?_)
              · have E := br_n E c15
                refine lv_aload hx hb dX6_copy_94 (lv_at hl 1 rfl) ?_
                refine gf_X6_240 h0 hP 2 rfl rfl dX6_copy_96 ?_
                refine lv_iload_n hx hb dX6_copy_99 rfl (lv_at hl 4 rfl) ?_
                refine lv_aload hx hb dX6_copy_100 (lv_at hl 0 rfl) ?_
                refine gf_X6_240 h0 hP 4 rfl rfl dX6_copy_102 ?_
                refine lv_iload hx hb dX6_copy_105 (lv_at hl 6 rfl) ?_
                refine lv_iload hx hb dX6_copy_107 (lv_at hl 7 rfl) ?_
                obtain ⟨g16, E⟩ := gd_e E
                refine va_copyi hx hb (hml.trans hl.1.symm) hown (hts _ wq_595) (hts _ wq_570) (hts _ wq_569) (hts _ wq_11) hK hP hD hS 3 5 0 0 rfl rfl rfl rfl rfl g16.1 g16.2.1 g16.2.2.1 g16.2.2.2.1 g16.2.2.2.2 (fun _ _ => rfl) (Nat.le_of_ble_eq_true rfl) (Nat.le_of_ble_eq_true rfl) dX6_copy_109 (fun H locs hP hD hS => ?_)
                have hP : va_P D vwCl (wX6 a0 a1 a2 a3 a4 a5 a6 v_isKept ++ wSA cS a6 v_sa ++ wX2 cI a7 a8 sh_sort sh_size sh_items ++ wX2 cI a9 a10 sg_sort sg_size (va_cpy sh_items sg_items p2.toNatClampNeg p4.toNatClampNeg p5.toNatClampNeg)) H := hP
                have hD : va_D A (wX6 a0 a1 a2 a3 a4 a5 a6 v_isKept ++ wSA cS a6 v_sa ++ wX2 cI a7 a8 sh_sort sh_size sh_items ++ wX2 cI a9 a10 sg_sort sg_size (va_cpy sh_items sg_items p2.toNatClampNeg p4.toNatClampNeg p5.toNatClampNeg)) := hD
                refine lv_iload hx hb dX6_copy_112 (lv_at hl 7 rfl) ?_
                exact hfin _ (Option.some.inj E) _ _ _ _ hP hD hS dX6_copy_114
              · have E := br_p E c15
                refine lv_bipush (v := (-12)) hx hb dX6_copy_91 (by decide) ?_
                exact hfin _ (Option.some.inj E) _ _ _ _ hP hD hS dX6_copy_93
          · have E := br_n E c11
            refine lv_bipush (v := (-13)) hx hb dX6_copy_65 (by decide) ?_
            exact hfin _ (Option.some.inj E) _ _ _ _ hP hD hS dX6_copy_67
        · have E := br_n E c10
          refine lv_bipush (v := (-11)) hx hb dX6_copy_49 (by decide) ?_
          exact hfin _ (Option.some.inj E) _ _ _ _ hP hD hS dX6_copy_51
    · have E := br_p E c4
      refine lv_bipush (v := (-2)) hx hb dX6_copy_14 (by decide) ?_
      exact hfin _ (Option.some.inj E) _ _ _ _ hP hD hS dX6_copy_16
theorem hdX6_load : yX6_load.cls = RX6 ∧ yX6_load.cls ≠ "java/lang/invoke/MethodHandle" ∧ yX6_load.cls ≠ "java/lang/invoke/VarHandle" ∧ (parseMethodDescriptor yX6_load.desc).map (fun d => d.parameters.length) = some 4 := by decide +kernel
noncomputable def FX6_load_b123 (p1 p2 p3 p4 fr_pins sh_sort sh_size : Int32) (sh_items : Nat → Int32) (k66 : Int32 → Int32 → Int32 → (Nat → Int32) → (Nat → Int32) → Option (Int32 × Int32 × (Nat → Int32) × (Nat → Int32))) (l6 l7 fr_bars : Int32) (fr_lesser fr_greater : Nat → Int32) : Option (Int32 × Int32 × (Nat → Int32) × (Nat → Int32)) := (k66 l6 (l7 + 1) fr_bars fr_lesser fr_greater)
noncomputable def FX6_load_b66 (p1 p2 p3 p4 fr_pins sh_sort sh_size : Int32) (sh_items : Nat → Int32)  (k66 : Int32 → Int32 → Int32 → (Nat → Int32) → (Nat → Int32) → Option (Int32 × Int32 × (Nat → Int32) × (Nat → Int32))) (l6 l7 fr_bars : Int32) (fr_lesser fr_greater : Nat → Int32) : Option (Int32 × Int32 × (Nat → Int32) × (Nat → Int32)) := (if p4 ≤ l7 then (some (l6, fr_bars, fr_lesser, fr_greater)) else ((FX2_hasRun (p3 + (2 * l7)) 2 sh_size).bind (fun r2 => (if r2 = 0 then (some ((-12), fr_bars, fr_lesser, fr_greater)) else (gd (vp_in (p3 + (2 * l7)) 40) (gd (vp_in ((p3 + (2 * l7)) + 1) 40) ((FX6_bar (sh_items (p3 + (2 * l7)).toNatClampNeg) (sh_items ((p3 + (2 * l7)) + 1).toNatClampNeg) fr_pins fr_bars fr_lesser fr_greater).bind (fun r6 => (if r6.1 < 0 then (FX6_load_b123 p1 p2 p3 p4 fr_pins sh_sort sh_size sh_items k66 l6 l7 r6.2.1 r6.2.2.1 r6.2.2.2) else (FX6_load_b123 p1 p2 p3 p4 fr_pins sh_sort sh_size sh_items k66 (l6 + 1) l7 r6.2.1 r6.2.2.1 r6.2.2.2))))))))))
noncomputable def FX6_load_h66 (p1 p2 p3 p4 fr_pins sh_sort sh_size : Int32) (sh_items : Nat → Int32)  : Nat → Int32 → Int32 → Int32 → (Nat → Int32) → (Nat → Int32) → Option (Int32 × Int32 × (Nat → Int32) × (Nat → Int32))
  | 0 => fun _ _ _ _ _ => none
  | n + 1 => fun l6 l7 fr_bars fr_lesser fr_greater => FX6_load_b66 p1 p2 p3 p4 fr_pins sh_sort sh_size sh_items  (FX6_load_h66 p1 p2 p3 p4 fr_pins sh_sort sh_size sh_items  n) l6 l7 fr_bars fr_lesser fr_greater
noncomputable def FX6_load (p1 p2 p3 p4 : Int32) (fr_pins fr_bars : Int32) (fr_lesser fr_greater : Nat → Int32) (sh_sort sh_size : Int32) (sh_items : Nat → Int32) : Option (Int32 × Int32 × (Nat → Int32) × (Nat → Int32)) := ((FX6_isSheet p1).bind (fun r8 => (if r8 = 0 then (some ((-2), fr_bars, fr_lesser, fr_greater)) else ((FX6_isSort p2).bind (fun r10 => (if r10 = 0 then (some ((-2), fr_bars, fr_lesser, fr_greater)) else (if p4 < 0 then (some ((-2), fr_bars, fr_lesser, fr_greater)) else (if p4 ≤ 24 then (gd (vp_in p1 4) ((FX2_isMissing sh_sort).bind (fun r15 => (if r15 = 0 then (if sh_sort = p2 then (FX6_load_h66 p1 p2 p3 p4 fr_pins sh_sort sh_size sh_items  5000 0 0 fr_bars fr_lesser fr_greater) else (some ((-13), fr_bars, fr_lesser, fr_greater))) else (some ((-11), fr_bars, fr_lesser, fr_greater)))))) else (some ((-2), fr_bars, fr_lesser, fr_greater))))))))))
set_option maxHeartbeats 4000000 in
set_option maxRecDepth 100000 in
theorem c_X6_load (l : Launch) (D : va_G) (cI cZ cS : ClassId) (a0 a1 a2 a3 a4 a5 a6 a7 a8 a9 a10 a11 : Nat) (v_isKept fr_pins fr_bars : Int32) (fr_names fr_lesser fr_greater : Nat → Int32) (v_sa : Nat → Option Nat) (sh_sort sh_size : Int32) (sh_items : Nat → Int32) (p1 p2 p3 p4 : Int32) (u : Int32 × Int32 × (Nat → Int32) × (Nat → Int32)) (hF : FX6_load p1 p2 p3 p4 fr_pins fr_bars fr_lesser fr_greater sh_sort sh_size sh_items = some u) (hq_p1 : vp_in p1 4 → v_sa p1.toNatClampNeg = some a10) : MCi l D (tyL cI cZ cS) yX6_load cX6_load 9 (some .int) 3 68 [.ref a0, .int p1, .int p2, .int p3, .int p4] (wX6 a0 a1 a2 a3 a4 a5 a6 v_isKept ++ wX0 cI a1 a7 a8 a9 fr_pins fr_bars fr_names fr_lesser fr_greater ++ wSA cS a6 v_sa ++ wX2 cI a10 a11 sh_sort sh_size sh_items) (wX6 a0 a1 a2 a3 a4 a5 a6 v_isKept ++ wX0 cI a1 a7 a8 a9 fr_pins u.2.1 fr_names u.2.2.1 u.2.2.2 ++ wSA cS a6 v_sa ++ wX2 cI a10 a11 sh_sort sh_size sh_items) u.1 := by
  refine MCi.mk (by decide) (Nat.le_of_ble_eq_true rfl) ?_
  intro p e s m args below meth c A ls Q h0 hP hD hA hS hl hfin0
  have hfin : ∀ (u' : Int32 × Int32 × (Nat → Int32) × (Nat → Int32)), u' = u → ∀ (H : Heap) (locs : List Loc) (ls : Array Slot) (pc : Nat), va_P D vwCl (wX6 a0 a1 a2 a3 a4 a5 a6 v_isKept ++ wX0 cI a1 a7 a8 a9 fr_pins u'.2.1 fr_names u'.2.2.1 u'.2.2.2 ++ wSA cS a6 v_sa ++ wX2 cI a10 a11 sh_sort sh_size sh_items) H → va_D A (wX6 a0 a1 a2 a3 a4 a5 a6 v_isKept ++ wX0 cI a1 a7 a8 a9 fr_pins u'.2.1 fr_names u'.2.2.1 u'.2.2.2 ++ wSA cS a6 v_sa ++ wX2 cI a10 a11 sh_sort sh_size sh_items) → va_S A s.heap H locs → decode cX6_load pc = .ok (.ireturn, 1) → W p l e (uR 3 68) s m args below meth c H locs 0 0 Q (F0 m pc ls [.int u'.1]) := by intro u' hu; subst hu; exact hfin0
  clear hfin0
  obtain ⟨hx, hb, hr, hlk, hml, hown, hts, hK⟩ := id h0
  have hl : lv_has ls 9 [(0, .ref a0), (1, .int p1), (2, .int p2), (3, .int p3), (4, .int p4)] := hl
  have E := hF
  have J66 : ∀ (n66 : Nat) (l6 l7 fr_bars : Int32) (fr_lesser fr_greater : Nat → Int32) (H : Heap) (locs : List Loc) (ls : Array Slot), FX6_load_h66 p1 p2 p3 p4 fr_pins sh_sort sh_size sh_items  n66 l6 l7 fr_bars fr_lesser fr_greater = some u → va_P D vwCl (wX6 a0 a1 a2 a3 a4 a5 a6 v_isKept ++ wX0 cI a1 a7 a8 a9 fr_pins fr_bars fr_names fr_lesser fr_greater ++ wSA cS a6 v_sa ++ wX2 cI a10 a11 sh_sort sh_size sh_items) H → va_D A (wX6 a0 a1 a2 a3 a4 a5 a6 v_isKept ++ wX0 cI a1 a7 a8 a9 fr_pins fr_bars fr_names fr_lesser fr_greater ++ wSA cS a6 v_sa ++ wX2 cI a10 a11 sh_sort sh_size sh_items) → va_S A s.heap H locs → lv_has ls 9 [(0, .ref a0), (3, .int p3), (4, .int p4), (5, .ref a10), (6, .int l6), (7, .int l7)] → W p l e (uR 3 68) s m args below meth c H locs 0 0 Q (F0 m 66 ls []) := by
    intro n66
    induction n66 with
    | zero => intro l6 l7 fr_bars fr_lesser fr_greater H locs ls E; exact none_e E
    | succ n66 ih66 =>
      intro l6 l7 fr_bars fr_lesser fr_greater H locs ls E hP hD hS hl
      have E : FX6_load_b66 p1 p2 p3 p4 fr_pins sh_sort sh_size sh_items  (FX6_load_h66 p1 p2 p3 p4 fr_pins sh_sort sh_size sh_items  n66) l6 l7 fr_bars fr_lesser fr_greater = some u := E
      have J123 : ∀ (l6 l7 fr_bars : Int32) (fr_lesser fr_greater : Nat → Int32) (H : Heap) (locs : List Loc) (ls : Array Slot), FX6_load_b123 p1 p2 p3 p4 fr_pins sh_sort sh_size sh_items (FX6_load_h66 p1 p2 p3 p4 fr_pins sh_sort sh_size sh_items  n66) l6 l7 fr_bars fr_lesser fr_greater = some u → va_P D vwCl (wX6 a0 a1 a2 a3 a4 a5 a6 v_isKept ++ wX0 cI a1 a7 a8 a9 fr_pins fr_bars fr_names fr_lesser fr_greater ++ wSA cS a6 v_sa ++ wX2 cI a10 a11 sh_sort sh_size sh_items) H → va_D A (wX6 a0 a1 a2 a3 a4 a5 a6 v_isKept ++ wX0 cI a1 a7 a8 a9 fr_pins fr_bars fr_names fr_lesser fr_greater ++ wSA cS a6 v_sa ++ wX2 cI a10 a11 sh_sort sh_size sh_items) → va_S A s.heap H locs → lv_has ls 9 [(0, .ref a0), (3, .int p3), (4, .int p4), (5, .ref a10), (6, .int l6), (7, .int l7)] → W p l e (uR 3 68) s m args below meth c H locs 0 0 Q (F0 m 123 ls []) := by
        intro l6 l7 fr_bars fr_lesser fr_greater H locs ls E hP hD hS hl
        refine lv_iinc (v := (l7 + 1)) (lv' := [(7, .int (l7 + 1)), (0, .ref a0), (3, .int p3), (4, .int p4), (5, .ref a10), (6, .int l6)]) hx hb dX6_load_123 hl (k := 5) rfl rfl (by decide) rfl (fun ls hl => ?_)
        refine lv_goto (tgt := 66) hx hb dX6_load_126 (by decide) ?_
        exact ih66 _ _ _ _ _ _ _ _ E hP hD hS (lv_sub hl [1, 2, 3, 4, 5, 0] rfl)
      refine lv_iload hx hb dX6_load_66 (lv_at hl 5 rfl) ?_
      refine lv_iload hx hb dX6_load_68 (lv_at hl 2 rfl) ?_
      refine lv_icmp_ge (tgt := 129) hx hb dX6_load_70 (by decide) (fun c1 => ?_) (fun c1 => ?_)
      · have E := br_p E c1
        refine lv_iload hx hb dX6_load_129 (lv_at hl 4 rfl) ?_
        exact hfin _ (Option.some.inj E) _ _ _ _ hP hD hS dX6_load_131
      · have E := br_n E c1
        refine lv_iload_n hx hb dX6_load_73 rfl (lv_at hl 1 rfl) ?_
        refine lv_iconst (v := 2) hx hb dX6_load_74 (by decide) ?_
        refine lv_iload hx hb dX6_load_75 (lv_at hl 5 rfl) ?_
        refine lv_imul hx hb dX6_load_77 ?_
        refine lv_iadd hx hb dX6_load_78 ?_
        refine lv_istore (lv' := [(8, .int (p3 + (2 * l7))), (0, .ref a0), (3, .int p3), (4, .int p4), (5, .ref a10), (6, .int l6), (7, .int l7)]) hx hb dX6_load_79 hl (by decide) rfl (fun ls hl => ?_)
        refine lv_aload hx hb dX6_load_81 (lv_at hl 4 rfl) ?_
        refine lv_iload hx hb dX6_load_83 (lv_at hl 0 rfl) ?_
        refine lv_iconst (v := 2) hx hb dX6_load_85 (by decide) ?_
        obtain ⟨r2, hF, E⟩ := bn_e E
        refine callVi (wo := (wX6 a0 a1 a2 a3 a4 a5 a6 v_isKept ++ wX0 cI a1 a7 a8 a9 fr_pins fr_bars fr_names fr_lesser fr_greater ++ wSA cS a6 v_sa ++ wX2 cI a10 a11 sh_sort sh_size sh_items)) h0 (c_X2_hasRun l D cI cZ cS a10 a11 sh_sort sh_size sh_items (p3 + (2 * l7)) 2 r2 hF) (gV wq_591 wq_592 wq_593 wq_7 wq_594) hdX2_hasRun ⟨Nat.le_of_ble_eq_true rfl, Nat.le_of_ble_eq_true rfl⟩ ⟨Nat.le_refl _, Nat.le_refl _⟩ hP hD hS hA 0 2 rfl rfl rfl [6, 7] rfl rfl rfl rfl hl.1 rfl (Nat.le_of_ble_eq_true rfl) dX6_load_86 (fun H locs hP hD hS => ?_)
        refine lv_if_ne (tgt := 95) hx hb dX6_load_89 (by decide) (fun c3 => ?_) (fun c3 => ?_)
        · have E := br_n E c3
          refine lv_aload_n hx hb dX6_load_95 rfl (lv_at hl 1 rfl) ?_
          refine lv_aload hx hb dX6_load_96 (lv_at hl 4 rfl) ?_
          refine gf_X6_240 h0 hP 6 rfl rfl dX6_load_98 ?_
          refine lv_iload hx hb dX6_load_101 (lv_at hl 0 rfl) ?_
          obtain ⟨g4, E⟩ := gd_e E
          refine aldi hx hb hK hP 7 rfl rfl g4 dX6_load_103 ?_
          refine lv_aload hx hb dX6_load_104 (lv_at hl 4 rfl) ?_
          refine gf_X6_240 h0 hP 6 rfl rfl dX6_load_106 ?_
          refine lv_iload hx hb dX6_load_109 (lv_at hl 0 rfl) ?_
          refine lv_iconst (v := 1) hx hb dX6_load_111 (by decide) ?_
          refine lv_iadd hx hb dX6_load_112 ?_
          obtain ⟨g5, E⟩ := gd_e E
          refine aldi hx hb hK hP 7 rfl rfl g5 dX6_load_113 ?_
          obtain ⟨r6, hF, E⟩ := bn_e E
          refine callVi (wo := (wX6 a0 a1 a2 a3 a4 a5 a6 v_isKept ++ wX0 cI a1 a7 a8 a9 fr_pins r6.2.1 fr_names r6.2.2.1 r6.2.2.2 ++ wSA cS a6 v_sa ++ wX2 cI a10 a11 sh_sort sh_size sh_items)) h0 (c_X6_bar l D cI cZ cS a0 a1 a2 a3 a4 a5 a6 a7 a8 a9 v_isKept fr_pins fr_bars fr_names fr_lesser fr_greater (sh_items (p3 + (2 * l7)).toNatClampNeg) (sh_items ((p3 + (2 * l7)) + 1).toNatClampNeg) r6 hF) (gV wq_268 wq_269 wq_270 wq_1 wq_271) hdX6_bar ⟨Nat.le_of_ble_eq_true rfl, Nat.le_of_ble_eq_true rfl⟩ ⟨Nat.le_refl _, Nat.le_refl _⟩ hP hD hS hA 0 6 rfl rfl rfl [0, 1, 2, 3, 4] rfl rfl rfl rfl hl.1 rfl (Nat.le_of_ble_eq_true rfl) dX6_load_114 (fun H locs hP hD hS => ?_)
          refine lv_if_lt (tgt := 123) hx hb dX6_load_117 (by decide) (fun c7 => ?_) (fun c7 => ?_)
          · have E := br_p E c7
            exact J123 _ _ _ _ _ _ _ _ E hP hD hS (lv_sub hl [1, 2, 3, 4, 5, 6] rfl)
          · have E := br_n E c7
            refine lv_iinc (v := (l6 + 1)) (lv' := [(6, .int (l6 + 1)), (8, .int (p3 + (2 * l7))), (0, .ref a0), (3, .int p3), (4, .int p4), (5, .ref a10), (7, .int l7)]) hx hb dX6_load_120 hl (k := 5) rfl rfl (by decide) rfl (fun ls hl => ?_)
            exact J123 _ _ _ _ _ _ _ _ E hP hD hS (lv_sub hl [2, 3, 4, 5, 0, 6] rfl)
        · have E := br_p E c3
          refine lv_bipush (v := (-12)) hx hb dX6_load_92 (by decide) ?_
          exact hfin _ (Option.some.inj E) _ _ _ _ hP hD hS dX6_load_94
  refine lv_iload_n hx hb dX6_load_0 rfl (lv_at hl 1 rfl) ?_
  obtain ⟨r8, hF, E⟩ := bn_e E
  refine callSi (wo := (wX6 a0 a1 a2 a3 a4 a5 a6 v_isKept ++ wX0 cI a1 a7 a8 a9 fr_pins fr_bars fr_names fr_lesser fr_greater ++ wSA cS a6 v_sa ++ wX2 cI a10 a11 sh_sort sh_size sh_items)) h0 (c_X6_isSheet l D cI cZ cS p1 r8 hF) (gS wq_524 wq_525 wq_1 wq_526) hdX6_isSheet ⟨Nat.le_of_ble_eq_true rfl, Nat.le_of_ble_eq_true rfl⟩ ⟨Nat.le_refl _, Nat.le_refl _⟩ hP hD hS hA [] rfl rfl rfl rfl hl.1 rfl (Nat.le_of_ble_eq_true rfl) dX6_load_1 (fun H locs hP hD hS => ?_)
  refine lv_if_eq (tgt := 26) hx hb dX6_load_4 (by decide) (fun c9 => ?_) (fun c9 => ?_)
  · have E := br_p E c9
    refine lv_bipush (v := (-2)) hx hb dX6_load_26 (by decide) ?_
    exact hfin _ (Option.some.inj E) _ _ _ _ hP hD hS dX6_load_28
  · have E := br_n E c9
    refine lv_iload_n hx hb dX6_load_7 rfl (lv_at hl 2 rfl) ?_
    obtain ⟨r10, hF, E⟩ := bn_e E
    refine callSi (wo := (wX6 a0 a1 a2 a3 a4 a5 a6 v_isKept ++ wX0 cI a1 a7 a8 a9 fr_pins fr_bars fr_names fr_lesser fr_greater ++ wSA cS a6 v_sa ++ wX2 cI a10 a11 sh_sort sh_size sh_items)) h0 (c_X6_isSort l D cI cZ cS p2 r10 hF) (gS wq_579 wq_580 wq_1 wq_581) hdX6_isSort ⟨Nat.le_of_ble_eq_true rfl, Nat.le_of_ble_eq_true rfl⟩ ⟨Nat.le_refl _, Nat.le_refl _⟩ hP hD hS hA [] rfl rfl rfl rfl hl.1 rfl (Nat.le_of_ble_eq_true rfl) dX6_load_8 (fun H locs hP hD hS => ?_)
    refine lv_if_eq (tgt := 26) hx hb dX6_load_11 (by decide) (fun c11 => ?_) (fun c11 => ?_)
    · have E := br_p E c11
      refine lv_bipush (v := (-2)) hx hb dX6_load_26 (by decide) ?_
      exact hfin _ (Option.some.inj E) _ _ _ _ hP hD hS dX6_load_28
    · have E := br_n E c11
      refine lv_iload hx hb dX6_load_14 (lv_at hl 4 rfl) ?_
      refine lv_if_lt (tgt := 26) hx hb dX6_load_16 (by decide) (fun c12 => ?_) (fun c12 => ?_)
      · have E := br_p E c12
        refine lv_bipush (v := (-2)) hx hb dX6_load_26 (by decide) ?_
        exact hfin _ (Option.some.inj E) _ _ _ _ hP hD hS dX6_load_28
      · have E := br_n E c12
        refine lv_iload hx hb dX6_load_19 (lv_at hl 4 rfl) ?_
        refine lv_bipush (v := 24) hx hb dX6_load_21 (by decide) ?_
        refine lv_icmp_le (tgt := 29) hx hb dX6_load_23 (by decide) (fun c13 => ?_) (fun c13 => ?_)
        · have E := br_p E c13
          refine lv_aload_n hx hb dX6_load_29 rfl (lv_at hl 0 rfl) ?_
          refine gf_X6_46 h0 hP 0 rfl rfl dX6_load_30 ?_
          refine lv_iload_n hx hb dX6_load_33 rfl (lv_at hl 1 rfl) ?_
          obtain ⟨g14, E⟩ := gd_e E
          refine aldr hx hb hK hP 5 rfl rfl g14 (hq_p1 g14) dX6_load_34 ?_
          refine lv_astore (lv' := [(5, .ref a10), (0, .ref a0), (1, .int p1), (2, .int p2), (3, .int p3), (4, .int p4)]) hx hb dX6_load_35 hl (by decide) rfl (fun ls hl => ?_)
          refine lv_aload hx hb dX6_load_37 (lv_at hl 0 rfl) ?_
          obtain ⟨r15, hF, E⟩ := bn_e E
          refine callVi (wo := (wX6 a0 a1 a2 a3 a4 a5 a6 v_isKept ++ wX0 cI a1 a7 a8 a9 fr_pins fr_bars fr_names fr_lesser fr_greater ++ wSA cS a6 v_sa ++ wX2 cI a10 a11 sh_sort sh_size sh_items)) h0 (c_X2_isMissing l D cI cZ cS a10 a11 sh_sort sh_size sh_items r15 hF) (gV wq_527 wq_528 wq_529 wq_7 wq_530) hdX2_isMissing ⟨Nat.le_of_ble_eq_true rfl, Nat.le_of_ble_eq_true rfl⟩ ⟨Nat.le_refl _, Nat.le_refl _⟩ hP hD hS hA 0 2 rfl rfl rfl [6, 7] rfl rfl rfl rfl hl.1 rfl (Nat.le_of_ble_eq_true rfl) dX6_load_39 (fun H locs hP hD hS => ?_)
          refine lv_if_eq (tgt := 48) hx hb dX6_load_42 (by decide) (fun c16 => ?_) (fun c16 => ?_)
          · have E := br_p E c16
            refine lv_aload hx hb dX6_load_48 (lv_at hl 0 rfl) ?_
            refine gf_X6_234 h0 hP 6 rfl rfl dX6_load_50 ?_
            refine lv_iload_n hx hb dX6_load_53 rfl (lv_at hl 3 rfl) ?_
            refine lv_icmp_eq (tgt := 60) hx hb dX6_load_54 (by decide) (fun c17 => ?_) (fun c17 => ?_)
            · have E := br_p E c17
              refine lv_iconst (v := 0) hx hb dX6_load_60 (by decide) ?_
              refine lv_istore (lv' := [(6, .int 0), (5, .ref a10), (0, .ref a0), (1, .int p1), (2, .int p2), (3, .int p3), (4, .int p4)]) hx hb dX6_load_61 hl (by decide) rfl (fun ls hl => ?_)
              refine lv_iconst (v := 0) hx hb dX6_load_63 (by decide) ?_
              refine lv_istore (lv' := [(7, .int 0), (6, .int 0), (5, .ref a10), (0, .ref a0), (1, .int p1), (2, .int p2), (3, .int p3), (4, .int p4)]) hx hb dX6_load_64 hl (by decide) rfl (fun ls hl => ?_)
              exact J66 5000 _ _ _ _ _ _ _ _ E hP hD hS (lv_sub hl [3, 6, 7, 2, 1, 0] rfl)
            · have E := br_n E c17
              refine lv_bipush (v := (-13)) hx hb dX6_load_57 (by decide) ?_
              exact hfin _ (Option.some.inj E) _ _ _ _ hP hD hS dX6_load_59
          · have E := br_n E c16
            refine lv_bipush (v := (-11)) hx hb dX6_load_45 (by decide) ?_
            exact hfin _ (Option.some.inj E) _ _ _ _ hP hD hS dX6_load_47
        · have E := br_n E c13
          refine lv_bipush (v := (-2)) hx hb dX6_load_26 (by decide) ?_
          exact hfin _ (Option.some.inj E) _ _ _ _ hP hD hS dX6_load_28
noncomputable def FX6_copyS (p1 p2 p3 p4 p5 : Int32) (sh_sort sh_size : Int32) (sh_items : Nat → Int32) : Option (Int32 × (Nat → Int32)) := ((FX6_isSheet p1).bind (fun r1 => (if r1 = 0 then (some ((-2), sh_items)) else ((FX6_isSheet p3).bind (fun r3 => (if r3 = 0 then (some ((-2), sh_items)) else (gd (vp_in p1 4) (gd (vp_in p3 4) ((FX2_isMissing sh_sort).bind (fun r7 => (if r7 = 0 then ((FX2_isMissing sh_sort).bind (fun r9 => (if r9 = 0 then (if sh_sort = sh_sort then ((FX2_hasRun p2 p5 sh_size).bind (fun r12 => (if r12 = 0 then (some ((-12), sh_items)) else ((FX2_hasRun p4 p5 sh_size).bind (fun r14 => (if r14 = 0 then (some ((-12), sh_items)) else (gd (¬ p2 < 0 ∧ ¬ p4 < 0 ∧ ¬ p5 < 0 ∧ p2.toNatClampNeg + p5.toNatClampNeg ≤ 40 ∧ p4.toNatClampNeg + p5.toNatClampNeg ≤ 40) (some (p5, (va_cpy sh_items sh_items p2.toNatClampNeg p4.toNatClampNeg p5.toNatClampNeg)))))))))) else (some ((-13), sh_items))) else (some ((-11), sh_items))))) else (some ((-11), sh_items)))))))))))))
set_option maxHeartbeats 4000000 in
set_option maxRecDepth 100000 in
theorem c_X6_copyS (l : Launch) (D : va_G) (cI cZ cS : ClassId) (a0 a1 a2 a3 a4 a5 a6 a7 a8 : Nat) (v_isKept : Int32) (v_sa : Nat → Option Nat) (sh_sort sh_size : Int32) (sh_items : Nat → Int32) (p1 p2 p3 p4 p5 : Int32) (u : Int32 × (Nat → Int32)) (hF : FX6_copyS p1 p2 p3 p4 p5 sh_sort sh_size sh_items = some u) (hq_p1 : vp_in p1 4 → v_sa p1.toNatClampNeg = some a7) (hq_p3 : vp_in p3 4 → v_sa p3.toNatClampNeg = some a7) : MCi l D (tyL cI cZ cS) yX6_copy cX6_copy 8 (some .int) 1 200 [.ref a0, .int p1, .int p2, .int p3, .int p4, .int p5] (wX6 a0 a1 a2 a3 a4 a5 a6 v_isKept ++ wSA cS a6 v_sa ++ wX2 cI a7 a8 sh_sort sh_size sh_items) (wX6 a0 a1 a2 a3 a4 a5 a6 v_isKept ++ wSA cS a6 v_sa ++ wX2 cI a7 a8 sh_sort sh_size u.2) u.1 := by
  refine MCi.mk (by decide) (Nat.le_of_ble_eq_true rfl) ?_
  intro p e s m args below meth c A ls Q h0 hP hD hA hS hl hfin0
  have hfin : ∀ (u' : Int32 × (Nat → Int32)), u' = u → ∀ (H : Heap) (locs : List Loc) (ls : Array Slot) (pc : Nat), va_P D vwCl (wX6 a0 a1 a2 a3 a4 a5 a6 v_isKept ++ wSA cS a6 v_sa ++ wX2 cI a7 a8 sh_sort sh_size u'.2) H → va_D A (wX6 a0 a1 a2 a3 a4 a5 a6 v_isKept ++ wSA cS a6 v_sa ++ wX2 cI a7 a8 sh_sort sh_size u'.2) → va_S A s.heap H locs → decode cX6_copy pc = .ok (.ireturn, 1) → W p l e (uR 1 200) s m args below meth c H locs 0 0 Q (F0 m pc ls [.int u'.1]) := by intro u' hu; subst hu; exact hfin0
  clear hfin0
  obtain ⟨hx, hb, hr, hlk, hml, hown, hts, hK⟩ := id h0
  have hl : lv_has ls 8 [(0, .ref a0), (1, .int p1), (2, .int p2), (3, .int p3), (4, .int p4), (5, .int p5)] := hl
  have E := hF
  refine lv_iload_n hx hb dX6_copy_0 rfl (lv_at hl 1 rfl) ?_
  obtain ⟨r1, hF, E⟩ := bn_e E
  refine callSi (wo := (wX6 a0 a1 a2 a3 a4 a5 a6 v_isKept ++ wSA cS a6 v_sa ++ wX2 cI a7 a8 sh_sort sh_size sh_items)) h0 (c_X6_isSheet l D cI cZ cS p1 r1 hF) (gS wq_524 wq_525 wq_1 wq_526) hdX6_isSheet ⟨Nat.le_of_ble_eq_true rfl, Nat.le_of_ble_eq_true rfl⟩ ⟨Nat.le_refl _, Nat.le_refl _⟩ hP hD hS hA [] rfl rfl rfl rfl hl.1 rfl (Nat.le_of_ble_eq_true rfl) dX6_copy_1 (fun H locs hP hD hS => ?_)
  refine lv_if_eq (tgt := 14) hx hb dX6_copy_4 (by decide) (fun c2 => ?_) (fun c2 => ?_)
  · have E := br_p E c2
    refine lv_bipush (v := (-2)) hx hb dX6_copy_14 (by decide) ?_
    exact hfin _ (Option.some.inj E) _ _ _ _ hP hD hS dX6_copy_16
  · have E := br_n E c2
    refine lv_iload_n hx hb dX6_copy_7 rfl (lv_at hl 3 rfl) ?_
    obtain ⟨r3, hF, E⟩ := bn_e E
    refine callSi (wo := (wX6 a0 a1 a2 a3 a4 a5 a6 v_isKept ++ wSA cS a6 v_sa ++ wX2 cI a7 a8 sh_sort sh_size sh_items)) h0 (c_X6_isSheet l D cI cZ cS p3 r3 hF) (gS wq_524 wq_525 wq_1 wq_526) hdX6_isSheet ⟨Nat.le_of_ble_eq_true rfl, Nat.le_of_ble_eq_true rfl⟩ ⟨Nat.le_refl _, Nat.le_refl _⟩ hP hD hS hA [] rfl rfl rfl rfl hl.1 rfl (Nat.le_of_ble_eq_true rfl) dX6_copy_8 (fun H locs hP hD hS => ?_)
    refine lv_if_ne (tgt := 17) hx hb dX6_copy_11 (by decide) (fun c4 => ?_) (fun c4 => ?_)
    · have E := br_n E c4
      refine lv_aload_n hx hb dX6_copy_17 rfl (lv_at hl 0 rfl) ?_
      refine gf_X6_46 h0 hP 0 rfl rfl dX6_copy_18 ?_
      refine lv_iload_n hx hb dX6_copy_21 rfl (lv_at hl 1 rfl) ?_
      obtain ⟨g5, E⟩ := gd_e E
      refine aldr hx hb hK hP 1 rfl rfl g5 (hq_p1 g5) dX6_copy_22 ?_
      refine lv_astore (lv' := [(6, .ref a7), (0, .ref a0), (1, .int p1), (2, .int p2), (3, .int p3), (4, .int p4), (5, .int p5)]) hx hb dX6_copy_23 hl (by decide) rfl (fun ls hl => ?_)
      refine lv_aload_n hx hb dX6_copy_25 rfl (lv_at hl 1 rfl) ?_
      refine gf_X6_46 h0 hP 0 rfl rfl dX6_copy_26 ?_
      refine lv_iload_n hx hb dX6_copy_29 rfl (lv_at hl 4 rfl) ?_
      obtain ⟨g6, E⟩ := gd_e E
      refine aldr hx hb hK hP 1 rfl rfl g6 (hq_p3 g6) dX6_copy_30 ?_
      refine lv_astore (lv' := [(7, .ref a7), (6, .ref a7), (0, .ref a0), (1, .int p1), (2, .int p2), (3, .int p3), (4, .int p4), (5, .int p5)]) hx hb dX6_copy_31 hl (by decide) rfl (fun ls hl => ?_)
      refine lv_aload hx hb dX6_copy_33 (lv_at hl 1 rfl) ?_
      obtain ⟨r7, hF, E⟩ := bn_e E
      refine callVi (wo := (wX6 a0 a1 a2 a3 a4 a5 a6 v_isKept ++ wSA cS a6 v_sa ++ wX2 cI a7 a8 sh_sort sh_size sh_items)) h0 (c_X2_isMissing l D cI cZ cS a7 a8 sh_sort sh_size sh_items r7 hF) (gV wq_527 wq_528 wq_529 wq_7 wq_530) hdX2_isMissing ⟨Nat.le_of_ble_eq_true rfl, Nat.le_of_ble_eq_true rfl⟩ ⟨Nat.le_refl _, Nat.le_refl _⟩ hP hD hS hA 0 2 rfl rfl rfl [2, 3] rfl rfl rfl rfl hl.1 rfl (Nat.le_of_ble_eq_true rfl) dX6_copy_35 (fun H locs hP hD hS => ?_)
      refine lv_if_ne (tgt := 49) hx hb dX6_copy_38 (by decide) (fun c8 => ?_) (fun c8 => ?_)
      · have E := br_n E c8
        refine lv_bipush (v := (-11)) hx hb dX6_copy_49 (by decide) ?_
        exact hfin _ (Option.some.inj E) _ _ _ _ hP hD hS dX6_copy_51
      · have E := br_p E c8
        refine lv_aload hx hb dX6_copy_41 (lv_at hl 0 rfl) ?_
        obtain ⟨r9, hF, E⟩ := bn_e E
        refine callVi (wo := (wX6 a0 a1 a2 a3 a4 a5 a6 v_isKept ++ wSA cS a6 v_sa ++ wX2 cI a7 a8 sh_sort sh_size sh_items)) h0 (c_X2_isMissing l D cI cZ cS a7 a8 sh_sort sh_size sh_items r9 hF) (gV wq_527 wq_528 wq_529 wq_7 wq_530) hdX2_isMissing ⟨Nat.le_of_ble_eq_true rfl, Nat.le_of_ble_eq_true rfl⟩ ⟨Nat.le_refl _, Nat.le_refl _⟩ hP hD hS hA 0 2 rfl rfl rfl [2, 3] rfl rfl rfl rfl hl.1 rfl (Nat.le_of_ble_eq_true rfl) dX6_copy_43 (fun H locs hP hD hS => ?_)
        refine lv_if_eq (tgt := 52) hx hb dX6_copy_46 (by decide) (fun c10 => ?_) (fun c10 => ?_)
        · have E := br_p E c10
          refine lv_aload hx hb dX6_copy_52 (lv_at hl 1 rfl) ?_
          refine gf_X6_234 h0 hP 2 rfl rfl dX6_copy_54 ?_
          refine lv_aload hx hb dX6_copy_57 (lv_at hl 0 rfl) ?_
          refine gf_X6_234 h0 hP 2 rfl rfl dX6_copy_59 ?_
          refine lv_icmp_eq (tgt := 68) hx hb dX6_copy_62 (by decide) (fun c11 => ?_) (fun c11 => ?_)
          · have E := br_p E c11
            refine lv_aload hx hb dX6_copy_68 (lv_at hl 1 rfl) ?_
            refine lv_iload_n hx hb dX6_copy_70 rfl (lv_at hl 4 rfl) ?_
            refine lv_iload hx hb dX6_copy_71 (lv_at hl 7 rfl) ?_
            obtain ⟨r12, hF, E⟩ := bn_e E
            refine callVi (wo := (wX6 a0 a1 a2 a3 a4 a5 a6 v_isKept ++ wSA cS a6 v_sa ++ wX2 cI a7 a8 sh_sort sh_size sh_items)) h0 (c_X2_hasRun l D cI cZ cS a7 a8 sh_sort sh_size sh_items p2 p5 r12 hF) (gV wq_591 wq_592 wq_593 wq_7 wq_594) hdX2_hasRun ⟨Nat.le_of_ble_eq_true rfl, Nat.le_of_ble_eq_true rfl⟩ ⟨Nat.le_refl _, Nat.le_refl _⟩ hP hD hS hA 0 2 rfl rfl rfl [2, 3] rfl rfl rfl rfl hl.1 rfl (Nat.le_of_ble_eq_true rfl) dX6_copy_73 (fun H locs hP hD hS => ?_)
            refine lv_if_eq (tgt := 91) hx hb dX6_copy_76 (by decide) (fun c13 => ?_) (fun c13 => ?_)
            · have E := br_p E c13
              refine lv_bipush (v := (-12)) hx hb dX6_copy_91 (by decide) ?_
              exact hfin _ (Option.some.inj E) _ _ _ _ hP hD hS dX6_copy_93
            · have E := br_n E c13
              refine lv_aload hx hb dX6_copy_79 (lv_at hl 0 rfl) ?_
              refine lv_iload hx hb dX6_copy_81 (lv_at hl 6 rfl) ?_
              refine lv_iload hx hb dX6_copy_83 (lv_at hl 7 rfl) ?_
              obtain ⟨r14, hF, E⟩ := bn_e E
              refine callVi (wo := (wX6 a0 a1 a2 a3 a4 a5 a6 v_isKept ++ wSA cS a6 v_sa ++ wX2 cI a7 a8 sh_sort sh_size sh_items)) h0 (c_X2_hasRun l D cI cZ cS a7 a8 sh_sort sh_size sh_items p4 p5 r14 hF) (gV wq_591 wq_592 wq_593 wq_7 wq_594) hdX2_hasRun ⟨Nat.le_of_ble_eq_true rfl, Nat.le_of_ble_eq_true rfl⟩ ⟨Nat.le_refl _, Nat.le_refl _⟩ hP hD hS hA 0 2 rfl rfl rfl [2, 3] rfl rfl rfl rfl hl.1 rfl (Nat.le_of_ble_eq_true rfl) dX6_copy_85 (fun H locs hP hD hS => ?_)
              refine lv_if_ne (tgt := 94) hx hb dX6_copy_88 (by decide) (fun c15 => ?_) (fun c15 => ?_)
              · have E := br_n E c15
                refine lv_aload hx hb dX6_copy_94 (lv_at hl 1 rfl) ?_
                refine gf_X6_240 h0 hP 2 rfl rfl dX6_copy_96 ?_
                refine lv_iload_n hx hb dX6_copy_99 rfl (lv_at hl 4 rfl) ?_
                refine lv_aload hx hb dX6_copy_100 (lv_at hl 0 rfl) ?_
                refine gf_X6_240 h0 hP 2 rfl rfl dX6_copy_102 ?_
                refine lv_iload hx hb dX6_copy_105 (lv_at hl 6 rfl) ?_
                refine lv_iload hx hb dX6_copy_107 (lv_at hl 7 rfl) ?_
                obtain ⟨g16, E⟩ := gd_e E
                refine va_copyi hx hb (hml.trans hl.1.symm) hown (hts _ wq_595) (hts _ wq_570) (hts _ wq_569) (hts _ wq_11) hK hP hD hS 3 3 0 0 rfl rfl rfl rfl rfl g16.1 g16.2.1 g16.2.2.1 g16.2.2.2.1 g16.2.2.2.2 (fun _ _ => rfl) (Nat.le_of_ble_eq_true rfl) (Nat.le_of_ble_eq_true rfl) dX6_copy_109 (fun H locs hP hD hS => ?_)
                have hP : va_P D vwCl (wX6 a0 a1 a2 a3 a4 a5 a6 v_isKept ++ wSA cS a6 v_sa ++ wX2 cI a7 a8 sh_sort sh_size (va_cpy sh_items sh_items p2.toNatClampNeg p4.toNatClampNeg p5.toNatClampNeg)) H := hP
                have hD : va_D A (wX6 a0 a1 a2 a3 a4 a5 a6 v_isKept ++ wSA cS a6 v_sa ++ wX2 cI a7 a8 sh_sort sh_size (va_cpy sh_items sh_items p2.toNatClampNeg p4.toNatClampNeg p5.toNatClampNeg)) := hD
                refine lv_iload hx hb dX6_copy_112 (lv_at hl 7 rfl) ?_
                exact hfin _ (Option.some.inj E) _ _ _ _ hP hD hS dX6_copy_114
              · have E := br_p E c15
                refine lv_bipush (v := (-12)) hx hb dX6_copy_91 (by decide) ?_
                exact hfin _ (Option.some.inj E) _ _ _ _ hP hD hS dX6_copy_93
          · have E := br_n E c11
            refine lv_bipush (v := (-13)) hx hb dX6_copy_65 (by decide) ?_
            exact hfin _ (Option.some.inj E) _ _ _ _ hP hD hS dX6_copy_67
        · have E := br_n E c10
          refine lv_bipush (v := (-11)) hx hb dX6_copy_49 (by decide) ?_
          exact hfin _ (Option.some.inj E) _ _ _ _ hP hD hS dX6_copy_51
    · have E := br_p E c4
      refine lv_bipush (v := (-2)) hx hb dX6_copy_14 (by decide) ?_
      exact hfin _ (Option.some.inj E) _ _ _ _ hP hD hS dX6_copy_16
