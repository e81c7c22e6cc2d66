/-! THE CLAIM OUT OF ONE WALK OF THE LAW'S BODY. Your part is whole_start (and what it stands on); all else here is the same for every law, but numbers. -/
def R_law : String := "PebbleBarsLaw"
def lw_P (b : Addr) (xs : List Int32) (args : Array Value) (s : State) : Prop := args = #[.ref b] ∧ s.IntsAt b xs ∧ xs.length ≤ 3584 ∧ (Jvm.Cond.and given_1 narrow_1).before args s = true
def lw_Q (_ : Array Value) (s : State) (o : Outcome) (t : State) : Prop := o = .returned (some (.int 1)) ∧ Framed s o t [] 600000 7302250
def lw_Z (below : List Frame) (a : Array Value) (s : State) : State → Prop := fun t => ∃ o, t.status = .running ∧ Ended t below o ∧ lw_Q a s o t
/-- the law's own end, with 1 on the stack, nothing written that was there before, its room as the claim has it -/
theorem lw_ret {p : Program} {l : Launch} {e : Env} {s : State} {m : MethodId} {below : List Frame} {meth : Method} {c : Code} {b : Nat} (hx : p.tables.exec = Jvm.exec) (hb : c.code = code) (hr : meth.sig.returnType = ret) (hlocks : meth.locks = false) {pc : Nat} {H : Heap} {ls : Array Slot} (hdg : decode code pc = .ok (.ireturn, 1)) : W p l e room_1 s m #[Value.ref b] below meth c H [] 600000 7302250 (lw_Z below #[Value.ref b] s) (F0 m pc ls [.int 1]) := by
  intro T hT X
  obtain ⟨fs, hret, hrun, hended, hW, hframe⟩ := X.leave (v := some (.int 1)) (hlocks := hlocks) (fun h => by rw [hr] at h; cases h)
  have hmeth' : T.vm.method? m = some meth := X.method'
  refine ⟨T.setFrames fs, ?_, .returned (some (.int 1)), hrun, hended, rfl, ⟨_, rfl⟩, hW, hframe⟩
  jvm_step X.here [X.here.top, hx, hb, hdg, hmeth', hr, ret, narrow_b1]
  (try refine ⟨rfl, ?_⟩); (try refine ⟨rfl, ?_⟩)
  first | (intro acts; rw [hret _ acts rfl rfl rfl]) | rw [hret _ _ rfl rfl rfl]
  exact Steps.refl _
/-- what holds at the law's entry: the machine, the code, the tables' words (any of lw_tbl by 'hts w (by decide +kernel)'), the script of L ints xs at the cell b, what the Statement gives of the start (any of its parts by flat_of_before) -/
def lw_At (p : Program) (s : State) (m : MethodId) (meth : Method) (c : Code) (b L : Nat) (xs : Nat → Int32) : Prop :=
  p.tables.exec = Jvm.exec ∧ c.code = code ∧ meth.sig.returnType = ret ∧ c.maxLocals = 4 ∧ s.vm.findClass R_law = some m.cls ∧ (∀ w ∈ lw_tbl, w.before #[Value.ref b] s = true) ∧ va_X b L xs s s.heap ∧ b < s.heap.size ∧ meth.locks = false ∧ (Jvm.Cond.and given_1 narrow_1).before #[Value.ref b] s = true
theorem wPerm {D : va_G} {cl : List vw_C} {A : Nat → Prop} {ws ws' : va_W} {H : Heap} (h : ws.Perm ws') (hP : va_P D cl ws H) (hD : va_D A ws) : va_P D cl ws' H ∧ va_D A ws' := by
  have hm : ∀ q ∈ ws', va_at D cl q H ∧ A q.1 := by
    intro q hq
    obtain ⟨k, hk⟩ := List.mem_iff_getElem?.mp (h.mem_iff.mpr hq)
    exact ⟨hP k q hk, hD.2 k q hk⟩
  have hn : (ws.map (fun q => q.1)).Pairwise (· ≠ ·) := by
    rw [List.pairwise_iff_getElem]
    intro i j hi hj hij he
    rw [List.length_map] at hi hj
    rw [List.getElem_map, List.getElem_map] at he
    have := hD.1 i j _ _ (List.getElem?_eq_getElem hi) (List.getElem?_eq_getElem hj) he
    omega
  have hn' : (ws'.map (fun q => q.1)).Pairwise (· ≠ ·) := (h.map _).nodup_iff.mp hn
  refine ⟨fun k q hk => (hm q (List.mem_of_getElem? hk)).1, fun i j p q hi hj hpq => ?_, fun k q hk => (hm q (List.mem_of_getElem? hk)).2⟩
  rw [List.pairwise_iff_getElem] at hn'
  obtain ⟨li, ei⟩ := List.getElem?_eq_some_iff.mp hi
  obtain ⟨lj, ej⟩ := List.getElem?_eq_some_iff.mp hj
  rcases Nat.lt_trichotomy i j with h1 | h1 | h1
  · exact absurd (by rw [List.getElem_map, List.getElem_map, ei, ej, hpq]) (hn' i j (by rw [List.length_map]; exact li) (by rw [List.length_map]; exact lj) h1)
  · exact h1
  · exact absurd (by rw [List.getElem_map, List.getElem_map, ei, ej, hpq]) (hn' j i (by rw [List.length_map]; exact lj) (by rw [List.length_map]; exact li) h1)
theorem permIx {α : Type} (d : α) (ps : List α) (is : List Nat) (n : Nat) (hn : ps.length = n) (h0 : is.isPerm (List.range n) = true) : ps.Perm (is.map (fun i => ps.getD i d)) := by
  subst hn
  have h := List.isPerm_iff.mp h0
  have e : (List.range ps.length).map (fun i => ps.getD i d) = ps := by
    apply List.ext_getElem
    · simp
    · intro k h1 h2
      simp [List.getD_eq_getElem?_getD, h2]
  have := (h.map (fun i => ps.getD i d)).symm
  rw [e] at this
  exact this
section LAWB
variable {p : Program} {l : Launch} {e : Env} {R : Room} {s : State} {m : MethodId} {args : Array Value} {below : List Frame} {meth : Method} {c : Code} {H : Heap} {locs : List Loc} {cells slots : Nat} {Q : State → Prop}
variable {cc : ByteArray} {pc nL : Nat} {ret : Option FieldType} {ls : Array Slot} {rest : List Value} {D : va_G} {A : Nat → Prop} {a : Nat} {tys : List (ClassId × FieldType)} {H0 : Heap} {own : String}
/-- a call whose cells are some of the pieces of which the world is made -/
theorem callVPi {y : MethodName} {bytes : ByteArray} {maxL fr lo index : Nat} {rt : Option FieldType} {C : String} {b : Nat} {As st : List Value} {wc w1 : va_W} {ps rs cs cs' po : List va_W} {r : Int32} (h0 : Std p s m meth c args cc nL ret own D tys)
    (hM : MCi l D tys y bytes maxL rt fr lo (.ref b :: As) wc w1 r) (hG : GoodIn lw_g (wsV own index C y (Cond.code y bytes maxL rt :: lw_g)))
    (hd : y.cls = C ∧ y.cls ≠ "java/lang/invoke/MethodHandle" ∧ y.cls ≠ "java/lang/invoke/VarHandle" ∧ (parseMethodDescriptor y.desc).map (fun d => d.parameters.length) = some As.length) (hR : fr + 1 ≤ R.frames ∧ 8 + (maxL + 11) + lo ≤ R.locals) (hcs : cells ≤ R.cells ∧ slots ≤ R.slots)
    (hP : va_P D vwCl ps.flatten H) (hD : va_D A ps.flatten) (hS : va_S A H0 H locs) (hA : ∀ q, H0.size ≤ q → A q)
    (hp1 : ps.Perm (rs ++ cs)) (hc : cs.flatten = wc) (hc1 : cs'.flatten = w1) (hp2 : (rs ++ cs').Perm po)
    (q0 ci : Nat) {fs : List Value} {q : vw_C} (he : wc[q0]? = some (b, .inr (ci, fs))) (hq : vwCl[ci]? = some q) (hqC : q.1 = C)
    (hsize : ls.size = nL) (hst : st = As.reverse ++ .ref b :: rest) (hroom : (rest.map fun v => v.category).sum ≤ 8) (hdg : decode cc pc = .ok (.invokevirtual index, 3))
    (kk : ∀ (H1 : Heap) (locs1 : List Loc), va_P D vwCl po.flatten H1 → va_D A po.flatten → va_S A H0 H1 locs1 → W p l e R s m args below meth c H1 locs1 cells slots Q (F0 m (pc + 3) ls (.int r :: rest))) : W p l e R s m args below meth c H locs cells slots Q (F0 m pc ls st) := by
  obtain ⟨hx, hb, hr, hlk, hml, hown, hts, hK⟩ := h0
  obtain ⟨hP, hD⟩ := wPerm hp1.flatten hP hD
  rw [List.flatten_append, hc] at hP hD
  obtain ⟨hPc, hDc, hFc⟩ := sub1 hP hD hS hA
  subst hst
  refine va_calli (va_runV (As := As) (rest := rest) ⟨hx, hb, hml, hown, hts⟩ (hM H.size) (cwV As.length hts hG rfl rfl rfl hd hR) ⟨fun a U g mk q => by obtain ⟨q0, q1, qP, qK, qD⟩ := q; exact ⟨q0, q1, qP, va_K.moved (u := U) (U := U.calling g mk a) (Vm.Alike.refl U.vm) qK, qD⟩, hqC ▸ va_recv hK hPc hq he, fun U hU hW => ⟨rfl, by rw [hU], by rw [hU]; exact hPc, va_K.moved hW.alike hK, hDc.weaken (fun _ _ _ _ => trivial)⟩⟩ rfl rfl hsize rfl (lv_room hroom) hdg hcs) hS (fun q _ h => hFc q h) hFc (fun r_2 u t H1 locs1 ht hvm hw hB hz1 hk1 hS1 => ?_)
  obtain ⟨hP1, hK1, hD1⟩ := hB
  rw [ht] at hP1
  obtain ⟨hP2, hD2⟩ := wjoinR hP hD hk1 hFc hP1 hD1
  subst hw
  rw [← hc1, ← List.flatten_append] at hP2 hD2
  obtain ⟨hP3, hD3⟩ := wPerm hp2.flatten hP2 hD2
  exact kk H1 locs1 hP3 hD3 hS1
end LAWB
theorem fl1 {a : va_W} : [a].flatten = a := by simp
theorem fl2 {a b : va_W} : [a, b].flatten = a ++ b := by simp
theorem fl3 {a b c : va_W} : [a, b, c].flatten = a ++ b ++ c := by simp
theorem fl4 {a b c d : va_W} : [a, b, c, d].flatten = a ++ b ++ c ++ d := by simp
theorem fl5 {a b c d e : va_W} : [a, b, c, d, e].flatten = a ++ b ++ c ++ d ++ e := by simp
theorem fl6 {a b c d e f : va_W} : [a, b, c, d, e, f].flatten = a ++ b ++ c ++ d ++ e ++ f := by simp
theorem nin4 {x : Int32} (h0 : ¬ x = 0) (h1 : ¬ x = 1) (h2 : ¬ x = 2) (h3 : ¬ x = 3) : ¬ vp_in x 4 := by
  intro h
  obtain ⟨j, hj, rfl⟩ := vp_in_of h (by decide)
  match j, hj with
  | 0, _ => exact h0 rfl
  | 1, _ => exact h1 rfl
  | 2, _ => exact h2 rfl
  | 3, _ => exact h3 rfl
  | j + 4, hj => exact absurd hj (by omega)

theorem pm_0 (x0 x1 x2 x3 x4 x5 x6 x7 x8 x9 x10 x11 : va_W) : [x0, x1, x2, x3, x4, x5, x6, x7, x8, x9, x10, x11].Perm ([x1, x2, x3, x5, x6, x7, x8, x9, x10, x11] ++ [x0, x4]) := permIx [] _ [1, 2, 3, 5, 6, 7, 8, 9, 10, 11, 0, 4] 12 rfl (by decide)
theorem pb_0 (x0 x1 x2 x3 x4 x5 x6 x7 x8 x9 x10 x11 : va_W) : ([x1, x2, x3, x5, x6, x7, x8, x9, x10, x11] ++ [x0, x4]).Perm [x0, x1, x2, x3, x4, x5, x6, x7, x8, x9, x10, x11] := permIx [] _ [10, 0, 1, 2, 11, 3, 4, 5, 6, 7, 8, 9] 12 rfl (by decide)
theorem pm_1 (x0 x1 x2 x3 x4 x5 x6 x7 x8 x9 x10 x11 : va_W) : [x0, x1, x2, x3, x4, x5, x6, x7, x8, x9, x10, x11].Perm ([x0, x1, x2, x3, x4, x5, x6, x7, x8, x9, x10] ++ [x11]) := permIx [] _ [0, 1, 2, 3, 4, 5, 6, 7, 8, 9, 10, 11] 12 rfl (by decide)
theorem pb_1 (x0 x1 x2 x3 x4 x5 x6 x7 x8 x9 x10 x11 : va_W) : ([x0, x1, x2, x3, x4, x5, x6, x7, x8, x9, x10] ++ [x11]).Perm [x0, x1, x2, x3, x4, x5, x6, x7, x8, x9, x10, x11] := permIx [] _ [0, 1, 2, 3, 4, 5, 6, 7, 8, 9, 10, 11] 12 rfl (by decide)
theorem pm_2 (x0 x1 x2 x3 x4 x5 x6 x7 x8 x9 x10 x11 : va_W) : [x0, x1, x2, x3, x4, x5, x6, x7, x8, x9, x10, x11].Perm ([x1, x3, x5, x6, x7, x8, x9, x10, x11] ++ [x0, x2, x4]) := permIx [] _ [1, 3, 5, 6, 7, 8, 9, 10, 11, 0, 2, 4] 12 rfl (by decide)
theorem pb_2 (x0 x1 x2 x3 x4 x5 x6 x7 x8 x9 x10 x11 : va_W) : ([x1, x3, x5, x6, x7, x8, x9, x10, x11] ++ [x0, x2, x4]).Perm [x0, x1, x2, x3, x4, x5, x6, x7, x8, x9, x10, x11] := permIx [] _ [9, 0, 10, 1, 11, 2, 3, 4, 5, 6, 7, 8] 12 rfl (by decide)
theorem pm_3 (x0 x1 x2 x3 x4 x5 x6 x7 x8 x9 x10 x11 : va_W) : [x0, x1, x2, x3, x4, x5, x6, x7, x8, x9, x10, x11].Perm ([x1, x3, x4, x5, x6, x7, x8, x9, x10, x11] ++ [x0, x2]) := permIx [] _ [1, 3, 4, 5, 6, 7, 8, 9, 10, 11, 0, 2] 12 rfl (by decide)
theorem pb_3 (x0 x1 x2 x3 x4 x5 x6 x7 x8 x9 x10 x11 : va_W) : ([x1, x3, x4, x5, x6, x7, x8, x9, x10, x11] ++ [x0, x2]).Perm [x0, x1, x2, x3, x4, x5, x6, x7, x8, x9, x10, x11] := permIx [] _ [10, 0, 11, 1, 2, 3, 4, 5, 6, 7, 8, 9] 12 rfl (by decide)
theorem pm_4 (x0 x1 x2 x3 x4 x5 x6 x7 x8 x9 x10 x11 : va_W) : [x0, x1, x2, x3, x4, x5, x6, x7, x8, x9, x10, x11].Perm ([x1, x3, x6, x7, x8, x9, x10, x11] ++ [x0, x2, x4, x5]) := permIx [] _ [1, 3, 6, 7, 8, 9, 10, 11, 0, 2, 4, 5] 12 rfl (by decide)
theorem pb_4 (x0 x1 x2 x3 x4 x5 x6 x7 x8 x9 x10 x11 : va_W) : ([x1, x3, x6, x7, x8, x9, x10, x11] ++ [x0, x2, x4, x5]).Perm [x0, x1, x2, x3, x4, x5, x6, x7, x8, x9, x10, x11] := permIx [] _ [8, 0, 9, 1, 10, 11, 2, 3, 4, 5, 6, 7] 12 rfl (by decide)
theorem pm_5 (x0 x1 x2 x3 x4 x5 x6 x7 x8 x9 x10 x11 : va_W) : [x0, x1, x2, x3, x4, x5, x6, x7, x8, x9, x10, x11].Perm ([x1, x3, x4, x6, x7, x8, x9, x10, x11] ++ [x0, x2, x5]) := permIx [] _ [1, 3, 4, 6, 7, 8, 9, 10, 11, 0, 2, 5] 12 rfl (by decide)
theorem pb_5 (x0 x1 x2 x3 x4 x5 x6 x7 x8 x9 x10 x11 : va_W) : ([x1, x3, x4, x6, x7, x8, x9, x10, x11] ++ [x0, x2, x5]).Perm [x0, x1, x2, x3, x4, x5, x6, x7, x8, x9, x10, x11] := permIx [] _ [9, 0, 10, 1, 2, 11, 3, 4, 5, 6, 7, 8] 12 rfl (by decide)
theorem pm_6 (x0 x1 x2 x3 x4 x5 x6 x7 x8 x9 x10 x11 : va_W) : [x0, x1, x2, x3, x4, x5, x6, x7, x8, x9, x10, x11].Perm ([x1, x3, x4, x7, x8, x9, x10, x11] ++ [x0, x2, x5, x6]) := permIx [] _ [1, 3, 4, 7, 8, 9, 10, 11, 0, 2, 5, 6] 12 rfl (by decide)
theorem pb_6 (x0 x1 x2 x3 x4 x5 x6 x7 x8 x9 x10 x11 : va_W) : ([x1, x3, x4, x7, x8, x9, x10, x11] ++ [x0, x2, x5, x6]).Perm [x0, x1, x2, x3, x4, x5, x6, x7, x8, x9, x10, x11] := permIx [] _ [8, 0, 9, 1, 2, 10, 11, 3, 4, 5, 6, 7] 12 rfl (by decide)
theorem pm_7 (x0 x1 x2 x3 x4 x5 x6 x7 x8 x9 x10 x11 : va_W) : [x0, x1, x2, x3, x4, x5, x6, x7, x8, x9, x10, x11].Perm ([x3, x4, x6, x8, x9, x10, x11] ++ [x0, x2, x5, x1, x7]) := permIx [] _ [3, 4, 6, 8, 9, 10, 11, 0, 2, 5, 1, 7] 12 rfl (by decide)
theorem pb_7 (x0 x1 x2 x3 x4 x5 x6 x7 x8 x9 x10 x11 : va_W) : ([x3, x4, x6, x8, x9, x10, x11] ++ [x0, x2, x5, x1, x7]).Perm [x0, x1, x2, x3, x4, x5, x6, x7, x8, x9, x10, x11] := permIx [] _ [7, 10, 8, 0, 1, 9, 2, 11, 3, 4, 5, 6] 12 rfl (by decide)
theorem pm_8 (x0 x1 x2 x3 x4 x5 x6 x7 x8 x9 x10 x11 : va_W) : [x0, x1, x2, x3, x4, x5, x6, x7, x8, x9, x10, x11].Perm ([x3, x4, x6, x7, x9, x10, x11] ++ [x0, x2, x5, x1, x8]) := permIx [] _ [3, 4, 6, 7, 9, 10, 11, 0, 2, 5, 1, 8] 12 rfl (by decide)
theorem pb_8 (x0 x1 x2 x3 x4 x5 x6 x7 x8 x9 x10 x11 : va_W) : ([x3, x4, x6, x7, x9, x10, x11] ++ [x0, x2, x5, x1, x8]).Perm [x0, x1, x2, x3, x4, x5, x6, x7, x8, x9, x10, x11] := permIx [] _ [7, 10, 8, 0, 1, 9, 2, 3, 11, 4, 5, 6] 12 rfl (by decide)
theorem pm_9 (x0 x1 x2 x3 x4 x5 x6 x7 x8 x9 x10 x11 : va_W) : [x0, x1, x2, x3, x4, x5, x6, x7, x8, x9, x10, x11].Perm ([x3, x4, x6, x7, x8, x10, x11] ++ [x0, x2, x5, x1, x9]) := permIx [] _ [3, 4, 6, 7, 8, 10, 11, 0, 2, 5, 1, 9] 12 rfl (by decide)
theorem pb_9 (x0 x1 x2 x3 x4 x5 x6 x7 x8 x9 x10 x11 : va_W) : ([x3, x4, x6, x7, x8, x10, x11] ++ [x0, x2, x5, x1, x9]).Perm [x0, x1, x2, x3, x4, x5, x6, x7, x8, x9, x10, x11] := permIx [] _ [7, 10, 8, 0, 1, 9, 2, 3, 4, 11, 5, 6] 12 rfl (by decide)
theorem pm_10 (x0 x1 x2 x3 x4 x5 x6 x7 x8 x9 x10 x11 : va_W) : [x0, x1, x2, x3, x4, x5, x6, x7, x8, x9, x10, x11].Perm ([x3, x4, x6, x7, x8, x9, x11] ++ [x0, x2, x5, x1, x10]) := permIx [] _ [3, 4, 6, 7, 8, 9, 11, 0, 2, 5, 1, 10] 12 rfl (by decide)
theorem pb_10 (x0 x1 x2 x3 x4 x5 x6 x7 x8 x9 x10 x11 : va_W) : ([x3, x4, x6, x7, x8, x9, x11] ++ [x0, x2, x5, x1, x10]).Perm [x0, x1, x2, x3, x4, x5, x6, x7, x8, x9, x10, x11] := permIx [] _ [7, 10, 8, 0, 1, 9, 2, 3, 4, 5, 11, 6] 12 rfl (by decide)
theorem pm_11 (x0 x1 x2 x3 x4 x5 x6 x7 x8 x9 x10 x11 : va_W) : [x0, x1, x2, x3, x4, x5, x6, x7, x8, x9, x10, x11].Perm ([x1, x4, x5, x6, x7, x8, x9, x10, x11] ++ [x0, x2, x3]) := permIx [] _ [1, 4, 5, 6, 7, 8, 9, 10, 11, 0, 2, 3] 12 rfl (by decide)
theorem pb_11 (x0 x1 x2 x3 x4 x5 x6 x7 x8 x9 x10 x11 : va_W) : ([x1, x4, x5, x6, x7, x8, x9, x10, x11] ++ [x0, x2, x3]).Perm [x0, x1, x2, x3, x4, x5, x6, x7, x8, x9, x10, x11] := permIx [] _ [9, 0, 10, 11, 1, 2, 3, 4, 5, 6, 7, 8] 12 rfl (by decide)
theorem pm_12 (x0 x1 x2 x3 x4 x5 x6 x7 x8 x9 x10 x11 : va_W) : [x0, x1, x2, x3, x4, x5, x6, x7, x8, x9, x10, x11].Perm ([x2, x3, x4, x5, x6, x8, x9, x10, x11] ++ [x0, x1, x7]) := permIx [] _ [2, 3, 4, 5, 6, 8, 9, 10, 11, 0, 1, 7] 12 rfl (by decide)
theorem pb_12 (x0 x1 x2 x3 x4 x5 x6 x7 x8 x9 x10 x11 : va_W) : ([x2, x3, x4, x5, x6, x8, x9, x10, x11] ++ [x0, x1, x7]).Perm [x0, x1, x2, x3, x4, x5, x6, x7, x8, x9, x10, x11] := permIx [] _ [9, 10, 0, 1, 2, 3, 4, 11, 5, 6, 7, 8] 12 rfl (by decide)
theorem pm_13 (x0 x1 x2 x3 x4 x5 x6 x7 x8 x9 x10 x11 : va_W) : [x0, x1, x2, x3, x4, x5, x6, x7, x8, x9, x10, x11].Perm ([x2, x3, x4, x5, x6, x7, x9, x10, x11] ++ [x0, x1, x8]) := permIx [] _ [2, 3, 4, 5, 6, 7, 9, 10, 11, 0, 1, 8] 12 rfl (by decide)
theorem pb_13 (x0 x1 x2 x3 x4 x5 x6 x7 x8 x9 x10 x11 : va_W) : ([x2, x3, x4, x5, x6, x7, x9, x10, x11] ++ [x0, x1, x8]).Perm [x0, x1, x2, x3, x4, x5, x6, x7, x8, x9, x10, x11] := permIx [] _ [9, 10, 0, 1, 2, 3, 4, 5, 11, 6, 7, 8] 12 rfl (by decide)
theorem pm_14 (x0 x1 x2 x3 x4 x5 x6 x7 x8 x9 x10 x11 : va_W) : [x0, x1, x2, x3, x4, x5, x6, x7, x8, x9, x10, x11].Perm ([x2, x3, x4, x5, x6, x7, x8, x10, x11] ++ [x0, x1, x9]) := permIx [] _ [2, 3, 4, 5, 6, 7, 8, 10, 11, 0, 1, 9] 12 rfl (by decide)
theorem pb_14 (x0 x1 x2 x3 x4 x5 x6 x7 x8 x9 x10 x11 : va_W) : ([x2, x3, x4, x5, x6, x7, x8, x10, x11] ++ [x0, x1, x9]).Perm [x0, x1, x2, x3, x4, x5, x6, x7, x8, x9, x10, x11] := permIx [] _ [9, 10, 0, 1, 2, 3, 4, 5, 6, 11, 7, 8] 12 rfl (by decide)
theorem pm_15 (x0 x1 x2 x3 x4 x5 x6 x7 x8 x9 x10 x11 : va_W) : [x0, x1, x2, x3, x4, x5, x6, x7, x8, x9, x10, x11].Perm ([x2, x3, x4, x5, x6, x7, x8, x9, x11] ++ [x0, x1, x10]) := permIx [] _ [2, 3, 4, 5, 6, 7, 8, 9, 11, 0, 1, 10] 12 rfl (by decide)
theorem pb_15 (x0 x1 x2 x3 x4 x5 x6 x7 x8 x9 x10 x11 : va_W) : ([x2, x3, x4, x5, x6, x7, x8, x9, x11] ++ [x0, x1, x10]).Perm [x0, x1, x2, x3, x4, x5, x6, x7, x8, x9, x10, x11] := permIx [] _ [9, 10, 0, 1, 2, 3, 4, 5, 6, 7, 11, 8] 12 rfl (by decide)
theorem pm_16 (x0 x1 x2 x3 x4 x5 x6 x7 x8 x9 x10 x11 : va_W) : [x0, x1, x2, x3, x4, x5, x6, x7, x8, x9, x10, x11].Perm ([x2, x3, x4, x5, x6, x9, x10, x11] ++ [x0, x1, x7, x8]) := permIx [] _ [2, 3, 4, 5, 6, 9, 10, 11, 0, 1, 7, 8] 12 rfl (by decide)
theorem pb_16 (x0 x1 x2 x3 x4 x5 x6 x7 x8 x9 x10 x11 : va_W) : ([x2, x3, x4, x5, x6, x9, x10, x11] ++ [x0, x1, x7, x8]).Perm [x0, x1, x2, x3, x4, x5, x6, x7, x8, x9, x10, x11] := permIx [] _ [8, 9, 0, 1, 2, 3, 4, 10, 11, 5, 6, 7] 12 rfl (by decide)
theorem pm_17 (x0 x1 x2 x3 x4 x5 x6 x7 x8 x9 x10 x11 : va_W) : [x0, x1, x2, x3, x4, x5, x6, x7, x8, x9, x10, x11].Perm ([x2, x3, x4, x5, x6, x8, x10, x11] ++ [x0, x1, x7, x9]) := permIx [] _ [2, 3, 4, 5, 6, 8, 10, 11, 0, 1, 7, 9] 12 rfl (by decide)
theorem pb_17 (x0 x1 x2 x3 x4 x5 x6 x7 x8 x9 x10 x11 : va_W) : ([x2, x3, x4, x5, x6, x8, x10, x11] ++ [x0, x1, x7, x9]).Perm [x0, x1, x2, x3, x4, x5, x6, x7, x8, x9, x10, x11] := permIx [] _ [8, 9, 0, 1, 2, 3, 4, 10, 5, 11, 6, 7] 12 rfl (by decide)
theorem pm_18 (x0 x1 x2 x3 x4 x5 x6 x7 x8 x9 x10 x11 : va_W) : [x0, x1, x2, x3, x4, x5, x6, x7, x8, x9, x10, x11].Perm ([x2, x3, x4, x5, x6, x8, x9, x11] ++ [x0, x1, x7, x10]) := permIx [] _ [2, 3, 4, 5, 6, 8, 9, 11, 0, 1, 7, 10] 12 rfl (by decide)
theorem pb_18 (x0 x1 x2 x3 x4 x5 x6 x7 x8 x9 x10 x11 : va_W) : ([x2, x3, x4, x5, x6, x8, x9, x11] ++ [x0, x1, x7, x10]).Perm [x0, x1, x2, x3, x4, x5, x6, x7, x8, x9, x10, x11] := permIx [] _ [8, 9, 0, 1, 2, 3, 4, 10, 5, 6, 11, 7] 12 rfl (by decide)
theorem pm_19 (x0 x1 x2 x3 x4 x5 x6 x7 x8 x9 x10 x11 : va_W) : [x0, x1, x2, x3, x4, x5, x6, x7, x8, x9, x10, x11].Perm ([x2, x3, x4, x5, x6, x9, x10, x11] ++ [x0, x1, x8, x7]) := permIx [] _ [2, 3, 4, 5, 6, 9, 10, 11, 0, 1, 8, 7] 12 rfl (by decide)
theorem pb_19 (x0 x1 x2 x3 x4 x5 x6 x7 x8 x9 x10 x11 : va_W) : ([x2, x3, x4, x5, x6, x9, x10, x11] ++ [x0, x1, x8, x7]).Perm [x0, x1, x2, x3, x4, x5, x6, x7, x8, x9, x10, x11] := permIx [] _ [8, 9, 0, 1, 2, 3, 4, 11, 10, 5, 6, 7] 12 rfl (by decide)
theorem pm_20 (x0 x1 x2 x3 x4 x5 x6 x7 x8 x9 x10 x11 : va_W) : [x0, x1, x2, x3, x4, x5, x6, x7, x8, x9, x10, x11].Perm ([x2, x3, x4, x5, x6, x7, x10, x11] ++ [x0, x1, x8, x9]) := permIx [] _ [2, 3, 4, 5, 6, 7, 10, 11, 0, 1, 8, 9] 12 rfl (by decide)
theorem pb_20 (x0 x1 x2 x3 x4 x5 x6 x7 x8 x9 x10 x11 : va_W) : ([x2, x3, x4, x5, x6, x7, x10, x11] ++ [x0, x1, x8, x9]).Perm [x0, x1, x2, x3, x4, x5, x6, x7, x8, x9, x10, x11] := permIx [] _ [8, 9, 0, 1, 2, 3, 4, 5, 10, 11, 6, 7] 12 rfl (by decide)
theorem pm_21 (x0 x1 x2 x3 x4 x5 x6 x7 x8 x9 x10 x11 : va_W) : [x0, x1, x2, x3, x4, x5, x6, x7, x8, x9, x10, x11].Perm ([x2, x3, x4, x5, x6, x7, x9, x11] ++ [x0, x1, x8, x10]) := permIx [] _ [2, 3, 4, 5, 6, 7, 9, 11, 0, 1, 8, 10] 12 rfl (by decide)
theorem pb_21 (x0 x1 x2 x3 x4 x5 x6 x7 x8 x9 x10 x11 : va_W) : ([x2, x3, x4, x5, x6, x7, x9, x11] ++ [x0, x1, x8, x10]).Perm [x0, x1, x2, x3, x4, x5, x6, x7, x8, x9, x10, x11] := permIx [] _ [8, 9, 0, 1, 2, 3, 4, 5, 10, 6, 11, 7] 12 rfl (by decide)
theorem pm_22 (x0 x1 x2 x3 x4 x5 x6 x7 x8 x9 x10 x11 : va_W) : [x0, x1, x2, x3, x4, x5, x6, x7, x8, x9, x10, x11].Perm ([x2, x3, x4, x5, x6, x8, x10, x11] ++ [x0, x1, x9, x7]) := permIx [] _ [2, 3, 4, 5, 6, 8, 10, 11, 0, 1, 9, 7] 12 rfl (by decide)
theorem pb_22 (x0 x1 x2 x3 x4 x5 x6 x7 x8 x9 x10 x11 : va_W) : ([x2, x3, x4, x5, x6, x8, x10, x11] ++ [x0, x1, x9, x7]).Perm [x0, x1, x2, x3, x4, x5, x6, x7, x8, x9, x10, x11] := permIx [] _ [8, 9, 0, 1, 2, 3, 4, 11, 5, 10, 6, 7] 12 rfl (by decide)
theorem pm_23 (x0 x1 x2 x3 x4 x5 x6 x7 x8 x9 x10 x11 : va_W) : [x0, x1, x2, x3, x4, x5, x6, x7, x8, x9, x10, x11].Perm ([x2, x3, x4, x5, x6, x7, x10, x11] ++ [x0, x1, x9, x8]) := permIx [] _ [2, 3, 4, 5, 6, 7, 10, 11, 0, 1, 9, 8] 12 rfl (by decide)
theorem pb_23 (x0 x1 x2 x3 x4 x5 x6 x7 x8 x9 x10 x11 : va_W) : ([x2, x3, x4, x5, x6, x7, x10, x11] ++ [x0, x1, x9, x8]).Perm [x0, x1, x2, x3, x4, x5, x6, x7, x8, x9, x10, x11] := permIx [] _ [8, 9, 0, 1, 2, 3, 4, 5, 11, 10, 6, 7] 12 rfl (by decide)
theorem pm_24 (x0 x1 x2 x3 x4 x5 x6 x7 x8 x9 x10 x11 : va_W) : [x0, x1, x2, x3, x4, x5, x6, x7, x8, x9, x10, x11].Perm ([x2, x3, x4, x5, x6, x7, x8, x11] ++ [x0, x1, x9, x10]) := permIx [] _ [2, 3, 4, 5, 6, 7, 8, 11, 0, 1, 9, 10] 12 rfl (by decide)
theorem pb_24 (x0 x1 x2 x3 x4 x5 x6 x7 x8 x9 x10 x11 : va_W) : ([x2, x3, x4, x5, x6, x7, x8, x11] ++ [x0, x1, x9, x10]).Perm [x0, x1, x2, x3, x4, x5, x6, x7, x8, x9, x10, x11] := permIx [] _ [8, 9, 0, 1, 2, 3, 4, 5, 6, 10, 11, 7] 12 rfl (by decide)
theorem pm_25 (x0 x1 x2 x3 x4 x5 x6 x7 x8 x9 x10 x11 : va_W) : [x0, x1, x2, x3, x4, x5, x6, x7, x8, x9, x10, x11].Perm ([x2, x3, x4, x5, x6, x8, x9, x11] ++ [x0, x1, x10, x7]) := permIx [] _ [2, 3, 4, 5, 6, 8, 9, 11, 0, 1, 10, 7] 12 rfl (by decide)
theorem pb_25 (x0 x1 x2 x3 x4 x5 x6 x7 x8 x9 x10 x11 : va_W) : ([x2, x3, x4, x5, x6, x8, x9, x11] ++ [x0, x1, x10, x7]).Perm [x0, x1, x2, x3, x4, x5, x6, x7, x8, x9, x10, x11] := permIx [] _ [8, 9, 0, 1, 2, 3, 4, 11, 5, 6, 10, 7] 12 rfl (by decide)
theorem pm_26 (x0 x1 x2 x3 x4 x5 x6 x7 x8 x9 x10 x11 : va_W) : [x0, x1, x2, x3, x4, x5, x6, x7, x8, x9, x10, x11].Perm ([x2, x3, x4, x5, x6, x7, x9, x11] ++ [x0, x1, x10, x8]) := permIx [] _ [2, 3, 4, 5, 6, 7, 9, 11, 0, 1, 10, 8] 12 rfl (by decide)
theorem pb_26 (x0 x1 x2 x3 x4 x5 x6 x7 x8 x9 x10 x11 : va_W) : ([x2, x3, x4, x5, x6, x7, x9, x11] ++ [x0, x1, x10, x8]).Perm [x0, x1, x2, x3, x4, x5, x6, x7, x8, x9, x10, x11] := permIx [] _ [8, 9, 0, 1, 2, 3, 4, 5, 11, 6, 10, 7] 12 rfl (by decide)
theorem pm_27 (x0 x1 x2 x3 x4 x5 x6 x7 x8 x9 x10 x11 : va_W) : [x0, x1, x2, x3, x4, x5, x6, x7, x8, x9, x10, x11].Perm ([x2, x3, x4, x5, x6, x7, x8, x11] ++ [x0, x1, x10, x9]) := permIx [] _ [2, 3, 4, 5, 6, 7, 8, 11, 0, 1, 10, 9] 12 rfl (by decide)
theorem pb_27 (x0 x1 x2 x3 x4 x5 x6 x7 x8 x9 x10 x11 : va_W) : ([x2, x3, x4, x5, x6, x7, x8, x11] ++ [x0, x1, x10, x9]).Perm [x0, x1, x2, x3, x4, x5, x6, x7, x8, x9, x10, x11] := permIx [] _ [8, 9, 0, 1, 2, 3, 4, 5, 6, 11, 10, 7] 12 rfl (by decide)
theorem pm_28 (x0 x1 x2 x3 x4 x5 x6 x7 x8 x9 x10 x11 : va_W) : [x0, x1, x2, x3, x4, x5, x6, x7, x8, x9, x10, x11].Perm ([x3, x4, x5, x6, x8, x9, x10, x11] ++ [x0, x2, x1, x7]) := permIx [] _ [3, 4, 5, 6, 8, 9, 10, 11, 0, 2, 1, 7] 12 rfl (by decide)
theorem pb_28 (x0 x1 x2 x3 x4 x5 x6 x7 x8 x9 x10 x11 : va_W) : ([x3, x4, x5, x6, x8, x9, x10, x11] ++ [x0, x2, x1, x7]).Perm [x0, x1, x2, x3, x4, x5, x6, x7, x8, x9, x10, x11] := permIx [] _ [8, 10, 9, 0, 1, 2, 3, 11, 4, 5, 6, 7] 12 rfl (by decide)
theorem pm_29 (x0 x1 x2 x3 x4 x5 x6 x7 x8 x9 x10 x11 : va_W) : [x0, x1, x2, x3, x4, x5, x6, x7, x8, x9, x10, x11].Perm ([x3, x4, x5, x6, x7, x9, x10, x11] ++ [x0, x2, x1, x8]) := permIx [] _ [3, 4, 5, 6, 7, 9, 10, 11, 0, 2, 1, 8] 12 rfl (by decide)
theorem pb_29 (x0 x1 x2 x3 x4 x5 x6 x7 x8 x9 x10 x11 : va_W) : ([x3, x4, x5, x6, x7, x9, x10, x11] ++ [x0, x2, x1, x8]).Perm [x0, x1, x2, x3, x4, x5, x6, x7, x8, x9, x10, x11] := permIx [] _ [8, 10, 9, 0, 1, 2, 3, 4, 11, 5, 6, 7] 12 rfl (by decide)
theorem pm_30 (x0 x1 x2 x3 x4 x5 x6 x7 x8 x9 x10 x11 : va_W) : [x0, x1, x2, x3, x4, x5, x6, x7, x8, x9, x10, x11].Perm ([x3, x4, x5, x6, x7, x8, x10, x11] ++ [x0, x2, x1, x9]) := permIx [] _ [3, 4, 5, 6, 7, 8, 10, 11, 0, 2, 1, 9] 12 rfl (by decide)
theorem pb_30 (x0 x1 x2 x3 x4 x5 x6 x7 x8 x9 x10 x11 : va_W) : ([x3, x4, x5, x6, x7, x8, x10, x11] ++ [x0, x2, x1, x9]).Perm [x0, x1, x2, x3, x4, x5, x6, x7, x8, x9, x10, x11] := permIx [] _ [8, 10, 9, 0, 1, 2, 3, 4, 5, 11, 6, 7] 12 rfl (by decide)
theorem pm_31 (x0 x1 x2 x3 x4 x5 x6 x7 x8 x9 x10 x11 : va_W) : [x0, x1, x2, x3, x4, x5, x6, x7, x8, x9, x10, x11].Perm ([x3, x4, x5, x6, x7, x8, x9, x11] ++ [x0, x2, x1, x10]) := permIx [] _ [3, 4, 5, 6, 7, 8, 9, 11, 0, 2, 1, 10] 12 rfl (by decide)
theorem pb_31 (x0 x1 x2 x3 x4 x5 x6 x7 x8 x9 x10 x11 : va_W) : ([x3, x4, x5, x6, x7, x8, x9, x11] ++ [x0, x2, x1, x10]).Perm [x0, x1, x2, x3, x4, x5, x6, x7, x8, x9, x10, x11] := permIx [] _ [8, 10, 9, 0, 1, 2, 3, 4, 5, 6, 11, 7] 12 rfl (by decide)
abbrev saL (a : Nat → Nat) : Nat → Option Nat := (va_up (va_up (va_up (va_up (fun _ => none) ((0 : Int32).toNatClampNeg) (some (a 29))) ((1 : Int32).toNatClampNeg) (some (a 31))) ((2 : Int32).toNatClampNeg) (some (a 33))) ((3 : Int32).toNatClampNeg) (some (a 35)))
/-- between two calls of the law: some states of class and reference that agree -/
def Inv (D : va_G) (cI cZ cS : ClassId) (a am : Nat → Nat) (A : Nat → Prop) (H : Heap) : Prop := ∃ (CI : Nat → Int32) (CA : Nat → Nat → Int32) (sS sZ : Nat → Int32) (sI : Nat → Nat → Int32) (MI : Nat → Int32) (MA : Nat → Nat → Int32), Rel (CI 1) (CI 2) (CA 0) (CA 1) (CA 2) (CI 3) (CI 4) (CA 3) (CA 4) (CA 5) (CI 0) (CA 6) (CI 5) sS sZ sI (MI 0) (MI 1) (MI 2) (MA 0) (MA 1) (MA 2) (MA 3) (MI 6) (MI 7) (MA 5) (MA 6) (MA 7) (MI 8) (MA 16) (MA 17) (MA 18) ∧ va_P D vwCl (List.flatten [wX6 (a 0) (a 2) (a 6) (a 10) (a 12) (a 20) (a 1) (CI 0), wSA cS (a 1) (saL a), wX0 cI (a 2) (a 3) (a 4) (a 5) (CI 1) (CI 2) (CA 0) (CA 1) (CA 2), wX0 cI (a 6) (a 7) (a 8) (a 9) (CI 3) (CI 4) (CA 3) (CA 4) (CA 5), wX5 cI (a 10) (a 11) (CA 6) (CI 5) (CI 6) (CI 7), wX3 cI (a 12) (a 13) (a 14) (a 15) (a 16) (a 17) (a 18) (a 19) (CA 7) (CA 8) (CA 9) (CI 8) (CI 9) (CI 10) (CI 11) (CI 12) (CI 13) (CI 14) (CA 10) (CA 11) (CA 12), wX4 cI (a 20) (a 21) (a 22) (a 23) (a 24) (a 25) (a 26) (a 27) (a 28) (CA 13) (CI 15) (CA 14) (CA 15) (CA 16) (CA 17) (CA 18) (CA 19), wX2 cI (a 29) (a 30) (sS 0) (sZ 0) (sI 0), wX2 cI (a 31) (a 32) (sS 1) (sZ 1) (sI 1), wX2 cI (a 33) (a 34) (sS 2) (sZ 2) (sI 2), wX2 cI (a 35) (a 36) (sS 3) (sZ 3) (sI 3), wX7 cI cZ am (MI 0) (MI 1) (MI 2) (MI 3) (MI 4) (MI 5) (MA 0) (MA 1) (MA 2) (MA 3) (MA 4) (MI 6) (MI 7) (MA 5) (MA 6) (MA 7) (MI 8) (MA 8) (MA 9) (MI 9) (MI 10) (MA 10) (MA 11) (MI 11) (MI 12) (MA 12) (MA 13) (MA 14) (MA 15) (MI 13) (MI 14) (MI 15) (MA 16) (MA 17) (MA 18) (MA 19) (MI 16) (MI 17)]) H ∧ va_D A (List.flatten [wX6 (a 0) (a 2) (a 6) (a 10) (a 12) (a 20) (a 1) (CI 0), wSA cS (a 1) (saL a), wX0 cI (a 2) (a 3) (a 4) (a 5) (CI 1) (CI 2) (CA 0) (CA 1) (CA 2), wX0 cI (a 6) (a 7) (a 8) (a 9) (CI 3) (CI 4) (CA 3) (CA 4) (CA 5), wX5 cI (a 10) (a 11) (CA 6) (CI 5) (CI 6) (CI 7), wX3 cI (a 12) (a 13) (a 14) (a 15) (a 16) (a 17) (a 18) (a 19) (CA 7) (CA 8) (CA 9) (CI 8) (CI 9) (CI 10) (CI 11) (CI 12) (CI 13) (CI 14) (CA 10) (CA 11) (CA 12), wX4 cI (a 20) (a 21) (a 22) (a 23) (a 24) (a 25) (a 26) (a 27) (a 28) (CA 13) (CI 15) (CA 14) (CA 15) (CA 16) (CA 17) (CA 18) (CA 19), wX2 cI (a 29) (a 30) (sS 0) (sZ 0) (sI 0), wX2 cI (a 31) (a 32) (sS 1) (sZ 1) (sI 1), wX2 cI (a 33) (a 34) (sS 2) (sZ 2) (sI 2), wX2 cI (a 35) (a 36) (sS 3) (sZ 3) (sI 3), wX7 cI cZ am (MI 0) (MI 1) (MI 2) (MI 3) (MI 4) (MI 5) (MA 0) (MA 1) (MA 2) (MA 3) (MA 4) (MI 6) (MI 7) (MA 5) (MA 6) (MA 7) (MI 8) (MA 8) (MA 9) (MI 9) (MI 10) (MA 10) (MA 11) (MI 11) (MI 12) (MA 12) (MA 13) (MA 14) (MA 15) (MI 13) (MI 14) (MI 15) (MA 16) (MA 17) (MA 18) (MA 19) (MI 16) (MI 17)])
