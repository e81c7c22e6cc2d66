theorem hdJ6_bitCount : yJ6_bitCount_0f7a4.cls ≠ "java/lang/invoke/MethodHandle" ∧ yJ6_bitCount_0f7a4.cls ≠ "java/lang/invoke/VarHandle" ∧ (parseMethodDescriptor yJ6_bitCount_0f7a4.desc).map (fun d => d.parameters.length) = some 1 := by decide +kernel
noncomputable def FJ6_bitCount_b48   (l0 : Int32) : Option (Int32) := (some (l0 &&& 63))
noncomputable def FJ6_bitCount_b41   (l0 : Int32) : Option (Int32) := (FJ6_bitCount_b48   (l0 + (((l0 : Int32).toUInt32 >>> ((16 : Int32).toUInt32 &&& Int32.toUInt32 31)).toInt32)))
noncomputable def FJ6_bitCount_b34   (l0 : Int32) : Option (Int32) := (FJ6_bitCount_b41   (l0 + (((l0 : Int32).toUInt32 >>> ((8 : Int32).toUInt32 &&& Int32.toUInt32 31)).toInt32)))
noncomputable def FJ6_bitCount_b24   (l0 : Int32) : Option (Int32) := (FJ6_bitCount_b34   ((l0 + (((l0 : Int32).toUInt32 >>> ((4 : Int32).toUInt32 &&& Int32.toUInt32 31)).toInt32)) &&& 252645135))
noncomputable def FJ6_bitCount_b10   (l0 : Int32) : Option (Int32) := (FJ6_bitCount_b24   ((l0 &&& 858993459) + ((((l0 : Int32).toUInt32 >>> ((2 : Int32).toUInt32 &&& Int32.toUInt32 31)).toInt32) &&& 858993459)))
noncomputable def FJ6_bitCount (p0 : Int32) : Option (Int32) := (FJ6_bitCount_b10   (p0 - ((((p0 : Int32).toUInt32 >>> ((1 : Int32).toUInt32 &&& Int32.toUInt32 31)).toInt32) &&& 1431655765)))
set_option maxHeartbeats 4000000 in
set_option maxRecDepth 100000 in
theorem c_J6_bitCount (l : Launch) (D : va_G) (cI cZ cS : ClassId)   (p0 : Int32) (u : Int32) (hF : FJ6_bitCount p0 = some u) : MCi l D (tyL cI cZ cS) yJ6_bitCount_0f7a4 cJ6_bitCount_0f7a4 1 (some .int) 0 0 [.int p0] ([] : va_W) ([] : va_W) u := by
  refine MCi.mk (by decide) (Nat.le_of_ble_eq_true rfl) ?_
  intro p e s m args below meth c A ls Q h0 hP hD hA hS hl hfin0
  have hfin : ∀ (u' : Int32), u' = u → ∀ (H : Heap) (locs : List Loc) (ls : Array Slot) (pc : Nat), va_P D vwCl ([] : va_W) H → va_D A ([] : va_W) → va_S A s.heap H locs → decode cJ6_bitCount_0f7a4 pc = .ok (.ireturn, 1) → W p l e (uR 0 0) s m args below meth c H locs 0 0 Q (F0 m pc ls [.int u']) := by intro u' hu; subst hu; exact hfin0
  clear hfin0
  obtain ⟨hx, hb, hr, hlk, hml, hown, hts, hK⟩ := id h0
  have hl : lv_has ls 1 [(0, .int p0)] := hl
  have E := hF
  have J48 : ∀ (l0 : Int32) (H : Heap) (locs : List Loc) (ls : Array Slot), FJ6_bitCount_b48   l0 = some u → va_P D vwCl ([] : va_W) H → va_D A ([] : va_W) → va_S A s.heap H locs → lv_has ls 1 [(0, .int l0)] → W p l e (uR 0 0) s m args below meth c H locs 0 0 Q (F0 m 48 ls []) := by
    intro l0 H locs ls E hP hD hS hl
    refine lv_iload_n hx hb dJ6_bitCount_0f7a4_48 rfl (lv_at hl 0 rfl) ?_
    refine lv_bipush (v := 63) hx hb dJ6_bitCount_0f7a4_49 (by decide) ?_
    refine lv_iand hx hb dJ6_bitCount_0f7a4_51 ?_
    exact hfin _ (Option.some.inj E) _ _ _ _ hP hD hS dJ6_bitCount_0f7a4_52
  have J41 : ∀ (l0 : Int32) (H : Heap) (locs : List Loc) (ls : Array Slot), FJ6_bitCount_b41   l0 = some u → va_P D vwCl ([] : va_W) H → va_D A ([] : va_W) → va_S A s.heap H locs → lv_has ls 1 [(0, .int l0)] → W p l e (uR 0 0) s m args below meth c H locs 0 0 Q (F0 m 41 ls []) := by
    intro l0 H locs ls E hP hD hS hl
    refine lv_iload_n hx hb dJ6_bitCount_0f7a4_41 rfl (lv_at hl 0 rfl) ?_
    refine lv_iload_n hx hb dJ6_bitCount_0f7a4_42 rfl (lv_at hl 0 rfl) ?_
    refine lv_bipush (v := 16) hx hb dJ6_bitCount_0f7a4_43 (by decide) ?_
    refine lv_iushr (v := (((l0 : Int32).toUInt32 >>> ((16 : Int32).toUInt32 &&& Int32.toUInt32 31)).toInt32)) hx hb dJ6_bitCount_0f7a4_45 rfl ?_
    refine lv_iadd hx hb dJ6_bitCount_0f7a4_46 ?_
    refine lv_istore_n (lv' := [(0, .int (l0 + (((l0 : Int32).toUInt32 >>> ((16 : Int32).toUInt32 &&& Int32.toUInt32 31)).toInt32)))]) hx hb dJ6_bitCount_0f7a4_47 rfl hl (by decide) rfl (fun ls hl => ?_)
    exact J48 _ _ _ _ E hP hD hS (lv_sub hl [0] rfl)
  have J34 : ∀ (l0 : Int32) (H : Heap) (locs : List Loc) (ls : Array Slot), FJ6_bitCount_b34   l0 = some u → va_P D vwCl ([] : va_W) H → va_D A ([] : va_W) → va_S A s.heap H locs → lv_has ls 1 [(0, .int l0)] → W p l e (uR 0 0) s m args below meth c H locs 0 0 Q (F0 m 34 ls []) := by
    intro l0 H locs ls E hP hD hS hl
    refine lv_iload_n hx hb dJ6_bitCount_0f7a4_34 rfl (lv_at hl 0 rfl) ?_
    refine lv_iload_n hx hb dJ6_bitCount_0f7a4_35 rfl (lv_at hl 0 rfl) ?_
    refine lv_bipush (v := 8) hx hb dJ6_bitCount_0f7a4_36 (by decide) ?_
    refine lv_iushr (v := (((l0 : Int32).toUInt32 >>> ((8 : Int32).toUInt32 &&& Int32.toUInt32 31)).toInt32)) hx hb dJ6_bitCount_0f7a4_38 rfl ?_
    refine lv_iadd hx hb dJ6_bitCount_0f7a4_39 ?_
    refine lv_istore_n (lv' := [(0, .int (l0 + (((l0 : Int32).toUInt32 >>> ((8 : Int32).toUInt32 &&& Int32.toUInt32 31)).toInt32)))]) hx hb dJ6_bitCount_0f7a4_40 rfl hl (by decide) rfl (fun ls hl => ?_)
    exact J41 _ _ _ _ E hP hD hS (lv_sub hl [0] rfl)
  have J24 : ∀ (l0 : Int32) (H : Heap) (locs : List Loc) (ls : Array Slot), FJ6_bitCount_b24   l0 = some u → va_P D vwCl ([] : va_W) H → va_D A ([] : va_W) → va_S A s.heap H locs → lv_has ls 1 [(0, .int l0)] → W p l e (uR 0 0) s m args below meth c H locs 0 0 Q (F0 m 24 ls []) := by
    intro l0 H locs ls E hP hD hS hl
    refine lv_iload_n hx hb dJ6_bitCount_0f7a4_24 rfl (lv_at hl 0 rfl) ?_
    refine lv_iload_n hx hb dJ6_bitCount_0f7a4_25 rfl (lv_at hl 0 rfl) ?_
    refine lv_iconst (v := 4) hx hb dJ6_bitCount_0f7a4_26 (by decide) ?_
    refine lv_iushr (v := (((l0 : Int32).toUInt32 >>> ((4 : Int32).toUInt32 &&& Int32.toUInt32 31)).toInt32)) hx hb dJ6_bitCount_0f7a4_27 rfl ?_
    refine lv_iadd hx hb dJ6_bitCount_0f7a4_28 ?_
    refine lv_ldcw (v := 252645135) hx hb hown (hts _ wq_362) dJ6_bitCount_0f7a4_29 ?_
    refine lv_iand hx hb dJ6_bitCount_0f7a4_32 ?_
    refine lv_istore_n (lv' := [(0, .int ((l0 + (((l0 : Int32).toUInt32 >>> ((4 : Int32).toUInt32 &&& Int32.toUInt32 31)).toInt32)) &&& 252645135))]) hx hb dJ6_bitCount_0f7a4_33 rfl hl (by decide) rfl (fun ls hl => ?_)
    exact J34 _ _ _ _ E hP hD hS (lv_sub hl [0] rfl)
  have J10 : ∀ (l0 : Int32) (H : Heap) (locs : List Loc) (ls : Array Slot), FJ6_bitCount_b10   l0 = some u → va_P D vwCl ([] : va_W) H → va_D A ([] : va_W) → va_S A s.heap H locs → lv_has ls 1 [(0, .int l0)] → W p l e (uR 0 0) s m args below meth c H locs 0 0 Q (F0 m 10 ls []) := by
    intro l0 H locs ls E hP hD hS hl
    refine lv_iload_n hx hb dJ6_bitCount_0f7a4_10 rfl (lv_at hl 0 rfl) ?_
    refine lv_ldcw (v := 858993459) hx hb hown (hts _ wq_361) dJ6_bitCount_0f7a4_11 ?_
    refine lv_iand hx hb dJ6_bitCount_0f7a4_14 ?_
    refine lv_iload_n hx hb dJ6_bitCount_0f7a4_15 rfl (lv_at hl 0 rfl) ?_
    refine lv_iconst (v := 2) hx hb dJ6_bitCount_0f7a4_16 (by decide) ?_
    refine lv_iushr (v := (((l0 : Int32).toUInt32 >>> ((2 : Int32).toUInt32 &&& Int32.toUInt32 31)).toInt32)) hx hb dJ6_bitCount_0f7a4_17 rfl ?_
    refine lv_ldcw (v := 858993459) hx hb hown (hts _ wq_361) dJ6_bitCount_0f7a4_18 ?_
    refine lv_iand hx hb dJ6_bitCount_0f7a4_21 ?_
    refine lv_iadd hx hb dJ6_bitCount_0f7a4_22 ?_
    refine lv_istore_n (lv' := [(0, .int ((l0 &&& 858993459) + ((((l0 : Int32).toUInt32 >>> ((2 : Int32).toUInt32 &&& Int32.toUInt32 31)).toInt32) &&& 858993459)))]) hx hb dJ6_bitCount_0f7a4_23 rfl hl (by decide) rfl (fun ls hl => ?_)
    exact J24 _ _ _ _ E hP hD hS (lv_sub hl [0] rfl)
  refine lv_iload_n hx hb dJ6_bitCount_0f7a4_0 rfl (lv_at hl 0 rfl) ?_
  refine lv_iload_n hx hb dJ6_bitCount_0f7a4_1 rfl (lv_at hl 0 rfl) ?_
  refine lv_iconst (v := 1) hx hb dJ6_bitCount_0f7a4_2 (by decide) ?_
  refine lv_iushr (v := (((p0 : Int32).toUInt32 >>> ((1 : Int32).toUInt32 &&& Int32.toUInt32 31)).toInt32)) hx hb dJ6_bitCount_0f7a4_3 rfl ?_
  refine lv_ldcw (v := 1431655765) hx hb hown (hts _ wq_360) dJ6_bitCount_0f7a4_4 ?_
  refine lv_iand hx hb dJ6_bitCount_0f7a4_7 ?_
  refine lv_isub hx hb dJ6_bitCount_0f7a4_8 ?_
  refine lv_istore_n (lv' := [(0, .int (p0 - ((((p0 : Int32).toUInt32 >>> ((1 : Int32).toUInt32 &&& Int32.toUInt32 31)).toInt32) &&& 1431655765)))]) hx hb dJ6_bitCount_0f7a4_9 rfl hl (by decide) rfl (fun ls hl => ?_)
  exact J10 _ _ _ _ E hP hD hS (lv_sub hl [0] rfl)
