theorem wPerm {D : va_G} {cl : List vw_C} {A : Nat → Prop} {ws ws' : va_W} {H : Heap} (h : ws.Perm ws') (hP : va_P D cl ws H) (hD : va_D A ws) : va_P D cl ws' H ∧ va_D A ws' := by
  have hm : ∀ q ∈ ws', va_at D cl q H ∧ A q.1 := by
    intro q hq
    obtain ⟨k, hk⟩ := List.mem_iff_getElem?.mp (h.mem_iff.mpr hq)
    exact ⟨hP k q hk, hD.2 k q hk⟩
  have hn : (ws.map (fun q => q.1)).Pairwise (· ≠ ·) := by
    rw [List.pairwise_iff_getElem]
    intro i j hi hj hij he
    rw [List.length_map] at hi hj
    rw [List.getElem_map, List.getElem_map] at he
    have := hD.1 i j _ _ (List.getElem?_eq_getElem hi) (List.getElem?_eq_getElem hj) he
    omega
  have hn' : (ws'.map (fun q => q.1)).Pairwise (· ≠ ·) := (h.map _).nodup_iff.mp hn
  refine ⟨fun k q hk => (hm q (List.mem_of_getElem? hk)).1, fun i j p q hi hj hpq => ?_, fun k q hk => (hm q (List.mem_of_getElem? hk)).2⟩
  rw [List.pairwise_iff_getElem] at hn'
  obtain ⟨li, ei⟩ := List.getElem?_eq_some_iff.mp hi
  obtain ⟨lj, ej⟩ := List.getElem?_eq_some_iff.mp hj
  rcases Nat.lt_trichotomy i j with h1 | h1 | h1
  · exact absurd (by rw [List.getElem_map, List.getElem_map, ei, ej, hpq]) (hn' i j (by rw [List.length_map]; exact li) (by rw [List.length_map]; exact lj) h1)
  · exact h1
  · exact absurd (by rw [List.getElem_map, List.getElem_map, ei, ej, hpq]) (hn' j i (by rw [List.length_map]; exact lj) (by rw [List.length_map]; exact li) h1)
theorem permIx {α : Type} (d : α) (ps : List α) (is : List Nat) (h : is.Perm (List.range ps.length)) : ps.Perm (is.map (fun i => ps.getD i d)) := by
  have e : (List.range ps.length).map (fun i => ps.getD i d) = ps := by
    apply List.ext_getElem
    · simp
    · intro k h1 h2
      simp [List.getD_eq_getElem?_getD, h2]
  have := (h.map (fun i => ps.getD i d)).symm
  rw [e] at this
  exact this
section LAWB
variable {p : Program} {l : Launch} {e : Env} {R : Room} {s : State} {m : MethodId} {args : Array Value} {below : List Frame} {meth : Method} {c : Code} {H : Heap} {locs : List Loc} {cells slots : Nat} {Q : State → Prop}
variable {cc : ByteArray} {pc nL : Nat} {ret : Option FieldType} {ls : Array Slot} {rest : List Value} {D : va_G} {A : Nat → Prop} {a : Nat} {tys : List (ClassId × FieldType)} {H0 : Heap} {own : String}
/-- a call whose cells are some of the pieces of which the world is made -/
theorem callVPi {y : MethodName} {bytes : ByteArray} {maxL fr lo index : Nat} {rt : Option FieldType} {C : String} {b : Nat} {As st : List Value} {wc w1 : va_W} {ps rs cs cs' po : List va_W} {r : Int32} (h0 : Std p s m meth c args cc nL ret own D tys)
    (hM : MCi l D tys y bytes maxL rt fr lo (.ref b :: As) wc w1 r) (hG : GoodIn lw_g (wsV own index C y (Cond.code y bytes maxL rt :: lw_g)))
    (hd : y.cls = C ∧ y.cls ≠ "java/lang/invoke/MethodHandle" ∧ y.cls ≠ "java/lang/invoke/VarHandle" ∧ (parseMethodDescriptor y.desc).map (fun d => d.parameters.length) = some As.length) (hR : fr + 1 ≤ R.frames ∧ 8 + (maxL + 11) + lo ≤ R.locals) (hcs : cells ≤ R.cells ∧ slots ≤ R.slots)
    (hP : va_P D vwCl ps.flatten H) (hD : va_D A ps.flatten) (hS : va_S A H0 H locs) (hA : ∀ q, H0.size ≤ q → A q)
    (hp1 : ps.Perm (rs ++ cs)) (hc : cs.flatten = wc) (hc1 : cs'.flatten = w1) (hp2 : (rs ++ cs').Perm po)
    (q0 ci : Nat) {fs : List Value} {q : vw_C} (he : wc[q0]? = some (b, .inr (ci, fs))) (hq : vwCl[ci]? = some q) (hqC : q.1 = C)
    (hsize : ls.size = nL) (hst : st = As.reverse ++ .ref b :: rest) (hroom : (rest.map fun v => v.category).sum ≤ 8) (hdg : decode cc pc = .ok (.invokevirtual index, 3))
    (kk : ∀ (H1 : Heap) (locs1 : List Loc), va_P D vwCl po.flatten H1 → va_D A po.flatten → va_S A H0 H1 locs1 → W p l e R s m args below meth c H1 locs1 cells slots Q (F0 m (pc + 3) ls (.int r :: rest))) : W p l e R s m args below meth c H locs cells slots Q (F0 m pc ls st) := by
  obtain ⟨hx, hb, hr, hlk, hml, hown, hts, hK⟩ := h0
  obtain ⟨hP, hD⟩ := wPerm hp1.flatten hP hD
  rw [List.flatten_append, hc] at hP hD
  obtain ⟨hPc, hDc, hFc⟩ := sub1 hP hD hS hA
  subst hst
  refine va_calli (va_runV (As := As) (rest := rest) ⟨hx, hb, hml, hown, hts⟩ (hM H.size) (cwV As.length hts hG rfl rfl rfl hd hR) ⟨fun a U g mk q => by obtain ⟨q0, q1, qP, qK, qD⟩ := q; exact ⟨q0, q1, qP, va_K.moved (u := U) (U := U.calling g mk a) (Vm.Alike.refl U.vm) qK, qD⟩, hqC ▸ va_recv hK hPc hq he, fun U hU hW => ⟨rfl, by rw [hU], by rw [hU]; exact hPc, va_K.moved hW.alike hK, hDc.weaken (fun _ _ _ _ => trivial)⟩⟩ rfl rfl hsize rfl (lv_room hroom) hdg hcs) hS (fun q _ h => hFc q h) hFc (fun r_2 u t H1 locs1 ht hvm hw hB hz1 hk1 hS1 => ?_)
  obtain ⟨hP1, hK1, hD1⟩ := hB
  rw [ht] at hP1
  obtain ⟨hP2, hD2⟩ := wjoinR hP hD hk1 hFc hP1 hD1
  subst hw
  rw [← hc1, ← List.flatten_append] at hP2 hD2
  obtain ⟨hP3, hD3⟩ := wPerm hp2.flatten hP2 hD2
  exact kk H1 locs1 hP3 hD3 hS1
end LAWB
theorem fl1 {a : va_W} : [a].flatten = a := by simp
theorem fl2 {a b : va_W} : [a, b].flatten = a ++ b := by simp
theorem fl3 {a b c : va_W} : [a, b, c].flatten = a ++ b ++ c := by simp
theorem fl4 {a b c d : va_W} : [a, b, c, d].flatten = a ++ b ++ c ++ d := by simp
theorem fl5 {a b c d e : va_W} : [a, b, c, d, e].flatten = a ++ b ++ c ++ d ++ e := by simp
theorem fl6 {a b c d e f : va_W} : [a, b, c, d, e, f].flatten = a ++ b ++ c ++ d ++ e ++ f := by simp
theorem nin4 {x : Int32} (h0 : ¬ x = 0) (h1 : ¬ x = 1) (h2 : ¬ x = 2) (h3 : ¬ x = 3) : ¬ vp_in x 4 := by
  intro h
  obtain ⟨j, hj, rfl⟩ := vp_in_of h (by decide)
  match j, hj with
  | 0, _ => exact h0 rfl
  | 1, _ => exact h1 rfl
  | 2, _ => exact h2 rfl
  | 3, _ => exact h3 rfl
  | j + 4, hj => exact absurd hj (by omega)

abbrev saL (a : Nat → Nat) : Nat → Option Nat := (va_up (va_up (va_up (va_up (fun _ => none) ((0 : Int32).toNatClampNeg) (some (a 29))) ((1 : Int32).toNatClampNeg) (some (a 31))) ((2 : Int32).toNatClampNeg) (some (a 33))) ((3 : Int32).toNatClampNeg) (some (a 35)))
/-- between two calls of the law: some states of class and reference that agree -/
def Inv (D : va_G) (cI cZ cS : ClassId) (a am : Nat → Nat) (A : Nat → Prop) (H : Heap) : Prop := ∃ (v_isKept fr_pins fr_bars : Int32) (fr_names fr_lesser fr_greater : Nat → Int32) (kp_pins kp_bars : Int32) (kp_names kp_lesser kp_greater tp_bytes : Nat → Int32) (tp_size tp_start tp_behind : Int32) (st_near st_tiedTo st_parts : Nat → Int32) (st_partCount st_carrying st_rank st_freedoms st_isStiff st_worstBy st_worstPins : Int32) (st_farEnd st_queue st_cameAlong td_near : Nat → Int32) (td_steps : Int32) (td_gone td_had td_came td_farEnd td_queue td_cameAlong sS sZ : Nat → Int32) (sI : Nat → Nat → Int32) (m_pins m_bars m_taped m_lined m_at m_fault : Int32) (m_name m_low m_high m_tape m_line : Nat → Int32) (m_imagePins m_imageBars : Int32) (m_imageName m_imageLow m_imageHigh : Nat → Int32) (m_isKept : Int32) (m_to m_carries : Nat → Int32) (m_seen m_rank : Int32) (m_one m_other : Nat → Int32) (m_thought m_gone : Int32) (m_tied m_part m_lack m_down : Nat → Int32) (m_parts m_lacks m_downs : Int32) (m_sort m_items m_item m_carried : Nat → Int32) (m_first m_second : Int32), Rel fr_pins fr_bars fr_names fr_lesser fr_greater kp_pins kp_bars kp_names kp_lesser kp_greater v_isKept tp_bytes tp_size sS sZ sI m_pins m_bars m_taped m_name m_low m_high m_tape m_imagePins m_imageBars m_imageName m_imageLow m_imageHigh m_isKept m_sort m_items m_item ∧ va_P D vwCl (List.flatten [wX6 (a 0) (a 2) (a 6) (a 10) (a 12) (a 20) (a 1) v_isKept, wSA cS (a 1) (saL a), wX0 cI (a 2) (a 3) (a 4) (a 5) fr_pins fr_bars fr_names fr_lesser fr_greater, wX0 cI (a 6) (a 7) (a 8) (a 9) kp_pins kp_bars kp_names kp_lesser kp_greater, wX5 cI (a 10) (a 11) tp_bytes tp_size tp_start tp_behind, wX3 cI (a 12) (a 13) (a 14) (a 15) (a 16) (a 17) (a 18) (a 19) st_near st_tiedTo st_parts st_partCount st_carrying st_rank st_freedoms st_isStiff st_worstBy st_worstPins st_farEnd st_queue st_cameAlong, wX4 cI (a 20) (a 21) (a 22) (a 23) (a 24) (a 25) (a 26) (a 27) (a 28) td_near td_steps td_gone td_had td_came td_farEnd td_queue td_cameAlong, wX2 cI (a 29) (a 30) (sS 0) (sZ 0) (sI 0), wX2 cI (a 31) (a 32) (sS 1) (sZ 1) (sI 1), wX2 cI (a 33) (a 34) (sS 2) (sZ 2) (sI 2), wX2 cI (a 35) (a 36) (sS 3) (sZ 3) (sI 3), wX7 cI cZ am m_pins m_bars m_taped m_lined m_at m_fault m_name m_low m_high m_tape m_line m_imagePins m_imageBars m_imageName m_imageLow m_imageHigh m_isKept m_to m_carries m_seen m_rank m_one m_other m_thought m_gone m_tied m_part m_lack m_down m_parts m_lacks m_downs m_sort m_items m_item m_carried m_first m_second]) H ∧ va_D A (List.flatten [wX6 (a 0) (a 2) (a 6) (a 10) (a 12) (a 20) (a 1) v_isKept, wSA cS (a 1) (saL a), wX0 cI (a 2) (a 3) (a 4) (a 5) fr_pins fr_bars fr_names fr_lesser fr_greater, wX0 cI (a 6) (a 7) (a 8) (a 9) kp_pins kp_bars kp_names kp_lesser kp_greater, wX5 cI (a 10) (a 11) tp_bytes tp_size tp_start tp_behind, wX3 cI (a 12) (a 13) (a 14) (a 15) (a 16) (a 17) (a 18) (a 19) st_near st_tiedTo st_parts st_partCount st_carrying st_rank st_freedoms st_isStiff st_worstBy st_worstPins st_farEnd st_queue st_cameAlong, wX4 cI (a 20) (a 21) (a 22) (a 23) (a 24) (a 25) (a 26) (a 27) (a 28) td_near td_steps td_gone td_had td_came td_farEnd td_queue td_cameAlong, wX2 cI (a 29) (a 30) (sS 0) (sZ 0) (sI 0), wX2 cI (a 31) (a 32) (sS 1) (sZ 1) (sI 1), wX2 cI (a 33) (a 34) (sS 2) (sZ 2) (sI 2), wX2 cI (a 35) (a 36) (sS 3) (sZ 3) (sI 3), wX7 cI cZ am m_pins m_bars m_taped m_lined m_at m_fault m_name m_low m_high m_tape m_line m_imagePins m_imageBars m_imageName m_imageLow m_imageHigh m_isKept m_to m_carries m_seen m_rank m_one m_other m_thought m_gone m_tied m_part m_lack m_down m_parts m_lacks m_downs m_sort m_items m_item m_carried m_first m_second])
