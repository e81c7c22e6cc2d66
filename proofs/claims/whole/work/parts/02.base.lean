/-! The form of all contracts here: a method's answer and its cells behind it are given by a pure function (part 03 on); what that function gates holds. -/
noncomputable def gd {α : Type} (c : Prop) (X : Option α) : Option α := @ite _ c (Classical.propDecidable c) X none
theorem gd_e {α : Type} {c : Prop} {X : Option α} {r : α} (E : gd c X = some r) : c ∧ X = some r := by
  unfold gd at E
  by_cases h : c
  · rw [if_pos h] at E; exact ⟨h, E⟩
  · rw [if_neg h] at E; cases E
theorem gd_t {α : Type} {c : Prop} {X : Option α} (h : c) : gd c X = X := by unfold gd; rw [if_pos h]
theorem br_p {α : Type} {c : Prop} {d : Decidable c} {X Y : Option α} {r : Option α} (E : (@ite _ c d X Y) = r) (h : c) : X = r := by rw [if_pos h] at E; exact E
theorem br_n {α : Type} {c : Prop} {d : Decidable c} {X Y : Option α} {r : Option α} (E : (@ite _ c d X Y) = r) (h : ¬ c) : Y = r := by rw [if_neg h] at E; exact E
theorem bn_e {α β : Type} {x : Option β} {f : β → Option α} {r : α} (E : x.bind f = some r) : ∃ y, x = some y ∧ f y = some r := by
  cases x with
  | none => cases E
  | some y => exact ⟨y, rfl, E⟩
/-- the cells at the places is become xs -/
def wset : va_W → List Nat → va_W → va_W
  | ws, i :: is, x :: xs => wset (ws.set i x) is xs
  | ws, _, _ => ws
theorem wset_at : ∀ (is : List Nat) (xs ws : va_W), is.length = xs.length → ∀ (k : Nat) (q : Nat × va_E), (wset ws is xs)[k]? = some q → (k ∉ is ∧ ws[k]? = some q) ∨ ∃ j : Nat, is[j]? = some k ∧ xs[j]? = some q := by
  intro is
  induction is with
  | nil =>
    intro xs ws hl k q h
    cases xs with
    | nil => exact Or.inl ⟨List.not_mem_nil, h⟩
    | cons x xs => cases hl
  | cons i is ih =>
    intro xs ws hl k q h
    cases xs with
    | nil => cases hl
    | cons x xs =>
      rcases ih xs (ws.set i x) (Nat.succ.inj hl) k q h with ⟨h1, h2⟩ | ⟨j, h1, h2⟩
      · by_cases hk : i = k
        · subst hk
          refine Or.inr ⟨0, rfl, ?_⟩
          rw [List.getElem?_set_self'] at h2
          cases hw : ws[i]? with
          | none => rw [hw] at h2; cases h2
          | some z => rw [hw] at h2; exact h2
        · rw [List.getElem?_set_ne hk] at h2
          exact Or.inl ⟨fun hm => (List.mem_cons.mp hm).elim (fun e => hk e.symm) h1, h2⟩
      · exact Or.inr ⟨j + 1, h1, h2⟩
theorem wjoin {A0 : Nat → Prop} {D : va_G} {cl : List vw_C} {ws wc w1 : va_W} {H H1 : Heap} (hP : va_P D cl ws H) (hD : va_D A0 ws) (is : List Nat) (hC : is.map (fun i => ws[i]?) = wc.map some) (hl : is.length = w1.length)
    (hk : ∀ q : Nat, q < H.size → ¬ va_A wc H.size q → H1[q]? = H[q]?) (hF : ∀ q, va_A wc H.size q → A0 q) (hP1 : va_P D cl w1 H1) (hD1 : va_D (va_A wc H.size) w1) : va_P D cl (wset ws is w1) H1 ∧ va_D A0 (wset ws is w1) := by
  have atC : ∀ (k : Nat) (q : Nat × va_E), wc[k]? = some q → ∃ i, i ∈ is ∧ ws[i]? = some q := by
    intro k q hq
    have h1 : (is.map (fun i => ws[i]?))[k]? = some (some q) := by rw [hC, List.getElem?_map, hq]; rfl
    rw [List.getElem?_map] at h1
    cases hi : is[k]? with
    | none => rw [hi] at h1; cases h1
    | some i => rw [hi] at h1; exact ⟨i, List.mem_of_getElem? hi, Option.some.inj h1⟩
  have apart : ∀ (k : Nat) (q : Nat × va_E), k ∉ is → ws[k]? = some q → q.1 < H.size ∧ ¬ va_A wc H.size q.1 := by
    intro k q hn hq
    have hlt := (hP k q hq).lt
    refine ⟨hlt, fun h => ?_⟩
    rcases h with ⟨k2, e, h⟩ | h
    · obtain ⟨i, h3, h4⟩ := atC k2 (q.1, e) h
      exact hn (hD.1 k i q (q.1, e) hq h4 rfl ▸ h3)
    · omega
  refine ⟨fun k q hq => ?_, fun i j p q hi hj hpq => ?_, fun k q hq => ?_⟩
  · rcases wset_at is w1 ws hl k q hq with ⟨h1, h2⟩ | ⟨j, h1, h2⟩
    · obtain ⟨g1, g2⟩ := apart k q h1 h2
      exact (hP k q h2).kept (hk q.1 g1 g2)
    · exact hP1 j q h2
  · rcases wset_at is w1 ws hl i p hi with ⟨h1, h2⟩ | ⟨j1, h1, h2⟩ <;> rcases wset_at is w1 ws hl j q hj with ⟨g1, g2⟩ | ⟨j2, g1, g2⟩
    · exact hD.1 i j p q h2 g2 hpq
    · exact absurd (hpq ▸ hD1.2 j2 q g2) (apart i p h1 h2).2
    · exact absurd (hpq ▸ hD1.2 j1 p h2) (apart j q g1 g2).2
    · have := hD1.1 j1 j2 p q h2 g2 hpq
      subst this
      exact Option.some.inj (h1.symm.trans g1)
  · rcases wset_at is w1 ws hl k q hq with ⟨h1, h2⟩ | ⟨j, h1, h2⟩
    · exact hD.2 k q h2
    · exact hF q.1 (hD1.2 j q h2)
abbrev uPc (D : va_G) (tys : List (ClassId × FieldType)) (av : List Value) (ws : va_W) (sz : Nat) : Array Value → State → Prop := va_Pc av (fun U => U.heap.size = sz ∧ va_P D vwCl ws U.heap ∧ va_K D vwCl tys U ∧ va_D (fun _ => True) ws)
abbrev uB (D : va_G) (tys : List (ClassId × FieldType)) (A : Nat → Prop) (ws' : va_W) : Unit → State → Prop := fun _ t => va_P D vwCl ws' t.heap ∧ va_K D vwCl tys t ∧ va_D A ws'
abbrev uQi (D : va_G) (tys : List (ClassId × FieldType)) (A : Nat → Prop) (ws' : va_W) (r : Int32) : Array Value → State → Outcome → State → Prop := va_Qi (fun r0 (_ : Unit) => r0 = r) (uB D tys A ws') A
abbrev uQv (D : va_G) (tys : List (ClassId × FieldType)) (A : Nat → Prop) (ws' : va_W) : Array Value → State → Outcome → State → Prop := va_Qv (fun (_ : Unit) => True) (uB D tys A ws') A
abbrev uR (fr lo : Nat) : Room := { frames := fr, cells := 0, slots := 0, locals := lo }
/-- a method that answers an int: from the cells ws with the arguments av it comes to the cells ws' and answers r -/
def MCi (l : Launch) (D : va_G) (tys : List (ClassId × FieldType)) (y : MethodName) (bytes : ByteArray) (maxL : Nat) (ret : Option FieldType) (fr lo : Nat) (av : List Value) (ws ws' : va_W) (r : Int32) : Prop := ∀ sz : Nat, Met l y (Cond.code y bytes maxL ret :: lw_g) (uR fr lo) (uPc D tys av ws sz) (uQi D tys (va_A ws sz) ws' r) 0 0 (va_A ws sz)
def MCv (l : Launch) (D : va_G) (tys : List (ClassId × FieldType)) (y : MethodName) (bytes : ByteArray) (maxL : Nat) (ret : Option FieldType) (fr lo : Nat) (av : List Value) (ws ws' : va_W) : Prop := ∀ sz : Nat, Met l y (Cond.code y bytes maxL ret :: lw_g) (uR fr lo) (uPc D tys av ws sz) (uQv D tys (va_A ws sz) ws') 0 0 (va_A ws sz)
/-- what holds at a method's entry and stays -/
def Std (p : Program) (s : State) (m : MethodId) (meth : Method) (c : Code) (av : Array Value) (bytes : ByteArray) (maxL : Nat) (ret : Option FieldType) (own : String) (D : va_G) (tys : List (ClassId × FieldType)) : Prop :=
  p.tables.exec = Jvm.exec ∧ c.code = bytes ∧ meth.sig.returnType = ret ∧ meth.locks = false ∧ c.maxLocals = maxL ∧ s.vm.findClass own = some m.cls ∧ (∀ w ∈ lw_g, w.before av s = true) ∧ va_K D vwCl tys s
theorem gV {own C : String} {idx maxL : Nat} {y : MethodName} {bytes : ByteArray} {ret : Option FieldType} (h1 : Cond.methodLink own idx y ∈ lw_g) (h2 : Cond.instanceMethod y ∈ lw_g) (h3 : Cond.selects C y y ∈ lw_g) (h4 : Cond.initialized C ∈ lw_g) (h5 : Cond.code y bytes maxL ret ∈ lw_g) : GoodIn lw_g (wsV own idx C y (Cond.code y bytes maxL ret :: lw_g)) := by
  intro w hw
  have hm : w ∈ lw_g := by
    unfold wsV at hw
    rcases List.mem_append.mp hw with hw | hw
    · simp only [List.mem_cons, List.not_mem_nil, or_false] at hw
      rcases hw with rfl | rfl | rfl | rfl
      · exact h1
      · exact h2
      · exact h3
      · exact h4
    · rcases List.mem_cons.mp hw with rfl | hw
      · exact h5
      · exact hw
  exact ⟨hm, good_of_word (lw_gG w hm)⟩
theorem gS {own : String} {idx maxL : Nat} {y : MethodName} {bytes : ByteArray} {ret : Option FieldType} (h1 : Cond.methodLink own idx y ∈ lw_g) (h2 : Cond.static y ∈ lw_g) (h4 : Cond.initialized y.cls ∈ lw_g) (h5 : Cond.code y bytes maxL ret ∈ lw_g) : GoodIn lw_g (va_wsS own idx y (Cond.code y bytes maxL ret :: lw_g)) := by
  intro w hw
  have hm : w ∈ lw_g := by
    unfold va_wsS at hw
    rcases List.mem_append.mp hw with hw | hw
    · simp only [List.mem_cons, List.not_mem_nil, or_false] at hw
      rcases hw with rfl | rfl | rfl
      · exact h1
      · exact h2
      · exact h4
    · rcases List.mem_cons.mp hw with rfl | hw
      · exact h5
      · exact hw
  exact ⟨hm, good_of_word (lw_gG w hm)⟩
section BASE
variable {p : Program} {l : Launch} {e : Env} {R : Room} {s : State} {m : MethodId} {args : Array Value} {below : List Frame} {meth : Method} {c : Code} {H : Heap} {locs : List Loc} {cells slots : Nat} {Q : State → Prop}
variable {cc : ByteArray} {pc nL : Nat} {ret : Option FieldType} {ls : Array Slot} {rest : List Value} {D : va_G} {A : Nat → Prop} {a : Nat} {tys : List (ClassId × FieldType)} {ws ws' : va_W} {H0 : Heap} {own : String}
theorem iend {r : Int32} (h0 : Std p s m meth c args cc nL (some .int) own D tys) (hP : va_P D vwCl ws' H) (hD : va_D A ws') (hS : va_S A s.heap H locs) (hdg : decode cc pc = .ok (.ireturn, 1)) : W p l e R s m args below meth c H locs 0 0 (MQ below (uQi D tys A ws' r) args s 0 0 A) (F0 m pc ls [.int r]) := by
  obtain ⟨hx, hb, hr, hlk, hml, hown, hts, hK⟩ := h0
  exact W.iret hx hb hr (fun t ht hW => ⟨⟨r, (), rfl, rfl, by rw [ht]; exact hP, va_K.moved hW.alike hK, hD⟩, hS.F ht⟩) hS.2.2 hdg hlk
theorem zend {r : Int32} (h0 : Std p s m meth c args cc nL (some .boolean) own D tys) (hz : r = 0 ∨ r = 1) (hP : va_P D vwCl ws' H) (hD : va_D A ws') (hS : va_S A s.heap H locs) (hdg : decode cc pc = .ok (.ireturn, 1)) : W p l e R s m args below meth c H locs 0 0 (MQ below (uQi D tys A ws' r) args s 0 0 A) (F0 m pc ls [.int r]) := by
  obtain ⟨hx, hb, hr, hlk, hml, hown, hts, hK⟩ := h0
  exact W.zret hx hb hr (by rcases hz with rfl | rfl <;> decide) (fun t ht hW => ⟨⟨r, (), rfl, rfl, by rw [ht]; exact hP, va_K.moved hW.alike hK, hD⟩, hS.F ht⟩) hS.2.2 hdg hlk
theorem vend (h0 : Std p s m meth c args cc nL none own D tys) (hP : va_P D vwCl ws' H) (hD : va_D A ws') (hS : va_S A s.heap H locs) (hdg : decode cc pc = .ok (.return_, 1)) : W p l e R s m args below meth c H locs 0 0 (MQ below (uQv D tys A ws') args s 0 0 A) (F0 m pc ls []) := by
  obtain ⟨hx, hb, hr, hlk, hml, hown, hts, hK⟩ := h0
  exact W.vret hx hb hr (fun t ht hW => ⟨⟨(), rfl, trivial, by rw [ht]; exact hP, va_K.moved hW.alike hK, hD⟩, hS.F ht⟩) hS.2.2 hdg hlk
theorem callVi {y : MethodName} {bytes : ByteArray} {maxL fr lo index : Nat} {rt : Option FieldType} {C : String} {b : Nat} {As st : List Value} {wc w1 wo : va_W} {r : Int32} (h0 : Std p s m meth c args cc nL ret own D tys)
    (hM : MCi l D tys y bytes maxL rt fr lo (.ref b :: As) wc w1 r) (hG : GoodIn lw_g (wsV own index C y (Cond.code y bytes maxL rt :: lw_g)))
    (hd : y.cls = C ∧ y.cls ≠ "java/lang/invoke/MethodHandle" ∧ y.cls ≠ "java/lang/invoke/VarHandle" ∧ (parseMethodDescriptor y.desc).map (fun d => d.parameters.length) = some As.length) (hR : fr + 1 ≤ R.frames ∧ 8 + (maxL + 11) + lo ≤ R.locals) (hcs : cells ≤ R.cells ∧ slots ≤ R.slots)
    (hP : va_P D vwCl ws H) (hD : va_D A ws) (hS : va_S A H0 H locs) (hA : ∀ q, H0.size ≤ q → A q) (q0 ci : Nat) {fs : List Value} {q : vw_C} (he : wc[q0]? = some (b, .inr (ci, fs))) (hq : vwCl[ci]? = some q) (hqC : q.1 = C)
    (is : List Nat) (hn : va_nd is = true) (hC : is.map (fun i => ws[i]?) = wc.map some) (hl : is.length = w1.length) (ho : wset ws is w1 = wo) (hsize : ls.size = nL) (hst : st = As.reverse ++ .ref b :: rest) (hroom : (rest.map fun v => v.category).sum ≤ 8) (hdg : decode cc pc = .ok (.invokevirtual index, 3))
    (kk : ∀ (H1 : Heap) (locs1 : List Loc), va_P D vwCl wo H1 → va_D A wo → va_S A H0 H1 locs1 → W p l e R s m args below meth c H1 locs1 cells slots Q (F0 m (pc + 3) ls (.int r :: rest))) : W p l e R s m args below meth c H locs cells slots Q (F0 m pc ls st) := by
  obtain ⟨hx, hb, hr, hlk, hml, hown, hts, hK⟩ := h0
  have hPc : va_P D vwCl wc H := by
    intro k x hk
    have h1 : (is.map (fun i => ws[i]?))[k]? = some (some x) := by rw [hC, List.getElem?_map, hk]; rfl
    rw [List.getElem?_map] at h1
    cases hi : is[k]? with
    | none => rw [hi] at h1; cases h1
    | some i => rw [hi] at h1; exact hP i x (Option.some.inj h1)
  have hDc := hD.sub (ws' := wc) is hn hC
  have hFc := va_free (wc := wc) hD hS hA is hC
  subst hst
  refine va_calli (va_runV (As := As) (rest := rest) ⟨hx, hb, hml, hown, hts⟩ (hM H.size) (cwV As.length hts hG rfl rfl rfl hd hR) ⟨fun a U g mk q => by obtain ⟨q0, q1, qP, qK, qD⟩ := q; exact ⟨q0, q1, qP, va_K.moved (u := U) (U := U.calling g mk a) (Vm.Alike.refl U.vm) qK, qD⟩, hqC ▸ va_recv hK hPc hq he, fun U hU hW => ⟨rfl, by rw [hU], by rw [hU]; exact hPc, va_K.moved hW.alike hK, hDc.weaken (fun _ _ _ _ => trivial)⟩⟩ rfl rfl hsize rfl (lv_room hroom) hdg hcs) hS (fun q _ h => hFc q h) hFc (fun r_2 u t H1 locs1 ht hvm hw hB hz1 hk1 hS1 => ?_)
  obtain ⟨hP1, hK1, hD1⟩ := hB
  rw [ht] at hP1
  obtain ⟨hP2, hD2⟩ := wjoin hP hD is hC hl hk1 hFc hP1 hD1
  subst ho
  subst hw
  exact kk H1 locs1 hP2 hD2 hS1
theorem callVv {y : MethodName} {bytes : ByteArray} {maxL fr lo index : Nat} {rt : Option FieldType} {C : String} {b : Nat} {As st : List Value} {wc w1 wo : va_W} (h0 : Std p s m meth c args cc nL ret own D tys)
    (hM : MCv l D tys y bytes maxL rt fr lo (.ref b :: As) wc w1) (hG : GoodIn lw_g (wsV own index C y (Cond.code y bytes maxL rt :: lw_g)))
    (hd : y.cls = C ∧ y.cls ≠ "java/lang/invoke/MethodHandle" ∧ y.cls ≠ "java/lang/invoke/VarHandle" ∧ (parseMethodDescriptor y.desc).map (fun d => d.parameters.length) = some As.length) (hR : fr + 1 ≤ R.frames ∧ 8 + (maxL + 11) + lo ≤ R.locals) (hcs : cells ≤ R.cells ∧ slots ≤ R.slots)
    (hP : va_P D vwCl ws H) (hD : va_D A ws) (hS : va_S A H0 H locs) (hA : ∀ q, H0.size ≤ q → A q) (q0 ci : Nat) {fs : List Value} {q : vw_C} (he : wc[q0]? = some (b, .inr (ci, fs))) (hq : vwCl[ci]? = some q) (hqC : q.1 = C)
    (is : List Nat) (hn : va_nd is = true) (hC : is.map (fun i => ws[i]?) = wc.map some) (hl : is.length = w1.length) (ho : wset ws is w1 = wo) (hsize : ls.size = nL) (hst : st = As.reverse ++ .ref b :: rest) (hroom : (rest.map fun v => v.category).sum ≤ 8) (hdg : decode cc pc = .ok (.invokevirtual index, 3))
    (kk : ∀ (H1 : Heap) (locs1 : List Loc), va_P D vwCl wo H1 → va_D A wo → va_S A H0 H1 locs1 → W p l e R s m args below meth c H1 locs1 cells slots Q (F0 m (pc + 3) ls rest)) : W p l e R s m args below meth c H locs cells slots Q (F0 m pc ls st) := by
  obtain ⟨hx, hb, hr, hlk, hml, hown, hts, hK⟩ := h0
  have hPc : va_P D vwCl wc H := by
    intro k x hk
    have h1 : (is.map (fun i => ws[i]?))[k]? = some (some x) := by rw [hC, List.getElem?_map, hk]; rfl
    rw [List.getElem?_map] at h1
    cases hi : is[k]? with
    | none => rw [hi] at h1; cases h1
    | some i => rw [hi] at h1; exact hP i x (Option.some.inj h1)
  have hDc := hD.sub (ws' := wc) is hn hC
  have hFc := va_free (wc := wc) hD hS hA is hC
  subst hst
  refine va_callv (va_runV (As := As) (rest := rest) ⟨hx, hb, hml, hown, hts⟩ (hM H.size) (cwV As.length hts hG rfl rfl rfl hd hR) ⟨fun a U g mk q => by obtain ⟨q0, q1, qP, qK, qD⟩ := q; exact ⟨q0, q1, qP, va_K.moved (u := U) (U := U.calling g mk a) (Vm.Alike.refl U.vm) qK, qD⟩, hqC ▸ va_recv hK hPc hq he, fun U hU hW => ⟨rfl, by rw [hU], by rw [hU]; exact hPc, va_K.moved hW.alike hK, hDc.weaken (fun _ _ _ _ => trivial)⟩⟩ rfl rfl hsize rfl (lv_room hroom) hdg hcs) hS (fun q _ h => hFc q h) hFc (fun u t H1 locs1 ht hvm hw hB hz1 hk1 hS1 => ?_)
  obtain ⟨hP1, hK1, hD1⟩ := hB
  rw [ht] at hP1
  obtain ⟨hP2, hD2⟩ := wjoin hP hD is hC hl hk1 hFc hP1 hD1
  subst ho
  exact kk H1 locs1 hP2 hD2 hS1
theorem callSi {y : MethodName} {bytes : ByteArray} {maxL fr lo index : Nat} {rt : Option FieldType} {As st : List Value} {wc w1 wo : va_W} {r : Int32} (h0 : Std p s m meth c args cc nL ret own D tys)
    (hM : MCi l D tys y bytes maxL rt fr lo As wc w1 r) (hG : GoodIn lw_g (va_wsS own index y (Cond.code y bytes maxL rt :: lw_g)))
    (hd : y.cls ≠ "java/lang/invoke/MethodHandle" ∧ y.cls ≠ "java/lang/invoke/VarHandle" ∧ (parseMethodDescriptor y.desc).map (fun d => d.parameters.length) = some As.length) (hR : fr + 1 ≤ R.frames ∧ 8 + (maxL + 11) + lo ≤ R.locals) (hcs : cells ≤ R.cells ∧ slots ≤ R.slots)
    (hP : va_P D vwCl ws H) (hD : va_D A ws) (hS : va_S A H0 H locs) (hA : ∀ q, H0.size ≤ q → A q)
    (is : List Nat) (hn : va_nd is = true) (hC : is.map (fun i => ws[i]?) = wc.map some) (hl : is.length = w1.length) (ho : wset ws is w1 = wo) (hsize : ls.size = nL) (hst : st = As.reverse ++ rest) (hroom : (rest.map fun v => v.category).sum ≤ 8) (hdg : decode cc pc = .ok (.invokestatic index, 3))
    (kk : ∀ (H1 : Heap) (locs1 : List Loc), va_P D vwCl wo H1 → va_D A wo → va_S A H0 H1 locs1 → W p l e R s m args below meth c H1 locs1 cells slots Q (F0 m (pc + 3) ls (.int r :: rest))) : W p l e R s m args below meth c H locs cells slots Q (F0 m pc ls st) := by
  obtain ⟨hx, hb, hr, hlk, hml, hown, hts, hK⟩ := h0
  have hPc : va_P D vwCl wc H := by
    intro k x hk
    have h1 : (is.map (fun i => ws[i]?))[k]? = some (some x) := by rw [hC, List.getElem?_map, hk]; rfl
    rw [List.getElem?_map] at h1
    cases hi : is[k]? with
    | none => rw [hi] at h1; cases h1
    | some i => rw [hi] at h1; exact hP i x (Option.some.inj h1)
  have hDc := hD.sub (ws' := wc) is hn hC
  have hFc := va_free (wc := wc) hD hS hA is hC
  subst hst
  refine va_calli (va_runS (As := As) (rest := rest) ⟨hx, hb, hml, hown, hts⟩ (hM H.size) (va_cwS As.length hts hG rfl rfl rfl hd hR) ⟨fun a U g mk q => by obtain ⟨q0, q1, qP, qK, qD⟩ := q; exact ⟨q0, q1, qP, va_K.moved (u := U) (U := U.calling g mk a) (Vm.Alike.refl U.vm) qK, qD⟩, fun U hU hW => ⟨rfl, by rw [hU], by rw [hU]; exact hPc, va_K.moved hW.alike hK, hDc.weaken (fun _ _ _ _ => trivial)⟩⟩ rfl rfl hsize rfl (lv_room hroom) hdg hcs) hS (fun q _ h => hFc q h) hFc (fun r_2 u t H1 locs1 ht hvm hw hB hz1 hk1 hS1 => ?_)
  obtain ⟨hP1, hK1, hD1⟩ := hB
  rw [ht] at hP1
  obtain ⟨hP2, hD2⟩ := wjoin hP hD is hC hl hk1 hFc hP1 hD1
  subst ho
  subst hw
  exact kk H1 locs1 hP2 hD2 hS1
theorem callVfi {y : MethodName} {bytes : ByteArray} {maxL fr lo index : Nat} {rt : Option FieldType} {C : String} {b : Nat} {As st : List Value} {wo : va_W} {r : Int32} (h0 : Std p s m meth c args cc nL ret own D tys)
    (hM : MCi l D tys y bytes maxL rt fr lo (.ref b :: As) ws wo r) (hG : GoodIn lw_g (wsV own index C y (Cond.code y bytes maxL rt :: lw_g)))
    (hd : y.cls = C ∧ y.cls ≠ "java/lang/invoke/MethodHandle" ∧ y.cls ≠ "java/lang/invoke/VarHandle" ∧ (parseMethodDescriptor y.desc).map (fun d => d.parameters.length) = some As.length) (hR : fr + 1 ≤ R.frames ∧ 8 + (maxL + 11) + lo ≤ R.locals) (hcs : cells ≤ R.cells ∧ slots ≤ R.slots)
    (hP : va_P D vwCl ws H) (hD : va_D A ws) (hS : va_S A H0 H locs) (hA : ∀ q, H0.size ≤ q → A q) (q0 ci : Nat) {fs : List Value} {q : vw_C} (he : ws[q0]? = some (b, .inr (ci, fs))) (hq : vwCl[ci]? = some q) (hqC : q.1 = C)
    (hsize : ls.size = nL) (hst : st = As.reverse ++ .ref b :: rest) (hroom : (rest.map fun v => v.category).sum ≤ 8) (hdg : decode cc pc = .ok (.invokevirtual index, 3))
    (kk : ∀ (H1 : Heap) (locs1 : List Loc), va_P D vwCl wo H1 → va_D A wo → va_S A H0 H1 locs1 → W p l e R s m args below meth c H1 locs1 cells slots Q (F0 m (pc + 3) ls (.int r :: rest))) : W p l e R s m args below meth c H locs cells slots Q (F0 m pc ls st) := by
  obtain ⟨hx, hb, hr, hlk, hml, hown, hts, hK⟩ := h0
  have hFc : ∀ q, va_A ws H.size q → A q := by
    intro q hq
    rcases hq with ⟨k, e, h⟩ | h
    · exact hD.2 k _ h
    · exact hA q (Nat.le_trans hS.1 h)
  subst hst
  refine va_calli (va_runV (As := As) (rest := rest) ⟨hx, hb, hml, hown, hts⟩ (hM H.size) (cwV As.length hts hG rfl rfl rfl hd hR) ⟨fun a U g mk q => by obtain ⟨q0, q1, qP, qK, qD⟩ := q; exact ⟨q0, q1, qP, va_K.moved (u := U) (U := U.calling g mk a) (Vm.Alike.refl U.vm) qK, qD⟩, hqC ▸ va_recv hK hP hq he, fun U hU hW => ⟨rfl, by rw [hU], by rw [hU]; exact hP, va_K.moved hW.alike hK, hD.weaken (fun _ _ _ _ => trivial)⟩⟩ rfl rfl hsize rfl (lv_room hroom) hdg hcs) hS (fun q _ h => hFc q h) hFc (fun r_2 u t H1 locs1 ht hvm hw hB hz1 hk1 hS1 => ?_)
  obtain ⟨hP1, hK1, hD1⟩ := hB
  rw [ht] at hP1
  subst hw
  exact kk H1 locs1 hP1 (hD1.weaken (fun k q _ h => hFc q.1 h)) hS1
theorem callVfv {y : MethodName} {bytes : ByteArray} {maxL fr lo index : Nat} {rt : Option FieldType} {C : String} {b : Nat} {As st : List Value} {wo : va_W} (h0 : Std p s m meth c args cc nL ret own D tys)
    (hM : MCv l D tys y bytes maxL rt fr lo (.ref b :: As) ws wo) (hG : GoodIn lw_g (wsV own index C y (Cond.code y bytes maxL rt :: lw_g)))
    (hd : y.cls = C ∧ y.cls ≠ "java/lang/invoke/MethodHandle" ∧ y.cls ≠ "java/lang/invoke/VarHandle" ∧ (parseMethodDescriptor y.desc).map (fun d => d.parameters.length) = some As.length) (hR : fr + 1 ≤ R.frames ∧ 8 + (maxL + 11) + lo ≤ R.locals) (hcs : cells ≤ R.cells ∧ slots ≤ R.slots)
    (hP : va_P D vwCl ws H) (hD : va_D A ws) (hS : va_S A H0 H locs) (hA : ∀ q, H0.size ≤ q → A q) (q0 ci : Nat) {fs : List Value} {q : vw_C} (he : ws[q0]? = some (b, .inr (ci, fs))) (hq : vwCl[ci]? = some q) (hqC : q.1 = C)
    (hsize : ls.size = nL) (hst : st = As.reverse ++ .ref b :: rest) (hroom : (rest.map fun v => v.category).sum ≤ 8) (hdg : decode cc pc = .ok (.invokevirtual index, 3))
    (kk : ∀ (H1 : Heap) (locs1 : List Loc), va_P D vwCl wo H1 → va_D A wo → va_S A H0 H1 locs1 → W p l e R s m args below meth c H1 locs1 cells slots Q (F0 m (pc + 3) ls rest)) : W p l e R s m args below meth c H locs cells slots Q (F0 m pc ls st) := by
  obtain ⟨hx, hb, hr, hlk, hml, hown, hts, hK⟩ := h0
  have hFc : ∀ q, va_A ws H.size q → A q := by
    intro q hq
    rcases hq with ⟨k, e, h⟩ | h
    · exact hD.2 k _ h
    · exact hA q (Nat.le_trans hS.1 h)
  subst hst
  refine va_callv (va_runV (As := As) (rest := rest) ⟨hx, hb, hml, hown, hts⟩ (hM H.size) (cwV As.length hts hG rfl rfl rfl hd hR) ⟨fun a U g mk q => by obtain ⟨q0, q1, qP, qK, qD⟩ := q; exact ⟨q0, q1, qP, va_K.moved (u := U) (U := U.calling g mk a) (Vm.Alike.refl U.vm) qK, qD⟩, hqC ▸ va_recv hK hP hq he, fun U hU hW => ⟨rfl, by rw [hU], by rw [hU]; exact hP, va_K.moved hW.alike hK, hD.weaken (fun _ _ _ _ => trivial)⟩⟩ rfl rfl hsize rfl (lv_room hroom) hdg hcs) hS (fun q _ h => hFc q h) hFc (fun u t H1 locs1 ht hvm hw hB hz1 hk1 hS1 => ?_)
  obtain ⟨hP1, hK1, hD1⟩ := hB
  rw [ht] at hP1
  exact kk H1 locs1 hP1 (hD1.weaken (fun k q _ h => hFc q.1 h)) hS1
theorem topE {x : Int32} {P : Int32 → Prop} (E : P x) (k : ∀ y : Int32, P y → W p l e R s m args below meth c H locs cells slots Q (F0 m pc ls (.int y :: rest))) : W p l e R s m args below meth c H locs cells slots Q (F0 m pc ls (.int x :: rest)) := k x E
theorem aldi (hx : p.tables.exec = Jvm.exec) (hb : c.code = cc) (hK : va_K D vwCl tys s) (hP : va_P D vwCl ws H) (q0 : Nat) {cA : ClassId} {n : Nat} {f : Nat → Int32} (ha : ws[q0]? = some (a, .inl (cA, n, .inl f))) (ht : tys[0]? = some (cA, .int)) {i : Int32} (hin : vp_in i n) (hdg : decode cc pc = .ok (.iaload, 1))
    (kk : W p l e R s m args below meth c H locs cells slots Q (F0 m (pc + 1) ls (.int (f i.toNatClampNeg) :: rest))) : W p l e R s m args below meth c H locs cells slots Q (F0 m pc ls (.int i :: .ref a :: rest)) := va_iald hx hb hK hP q0 0 ha ht hin hdg kk
theorem asti {wo : va_W} (hx : p.tables.exec = Jvm.exec) (hb : c.code = cc) (hK : va_K D vwCl tys s) (hP : va_P D vwCl ws H) (hD : va_D A ws) (hS : va_S A H0 H locs) (q0 : Nat) {cA : ClassId} {n : Nat} {f : Nat → Int32} (ha : ws[q0]? = some (a, .inl (cA, n, .inl f))) (ht : tys[0]? = some (cA, .int)) {i : Int32} {x : Int32} (hin : vp_in i n) (ho : ws.set q0 (a, .inl (cA, n, .inl (upd f i.toNatClampNeg x))) = wo) (hdg : decode cc pc = .ok (.iastore, 1))
    (kk : ∀ (H1 : Heap) (locs1 : List Loc), va_P D vwCl wo H1 → va_D A wo → va_S A H0 H1 locs1 → W p l e R s m args below meth c H1 locs1 cells slots Q (F0 m (pc + 1) ls rest)) : W p l e R s m args below meth c H locs cells slots Q (F0 m pc ls (.int x :: .int i :: .ref a :: rest)) := by
  subst ho
  exact va_iast hx hb hK hP hD hS q0 0 ha ht hin hdg kk
theorem aldz (hx : p.tables.exec = Jvm.exec) (hb : c.code = cc) (hK : va_K D vwCl tys s) (hP : va_P D vwCl ws H) (q0 : Nat) {cA : ClassId} {n : Nat} {f : Nat → Int32} (ha : ws[q0]? = some (a, .inl (cA, n, .inl f))) (ht : tys[1]? = some (cA, .boolean)) {i : Int32} (hin : vp_in i n) (hdg : decode cc pc = .ok (.baload, 1))
    (kk : W p l e R s m args below meth c H locs cells slots Q (F0 m (pc + 1) ls (.int (f i.toNatClampNeg) :: rest))) : W p l e R s m args below meth c H locs cells slots Q (F0 m pc ls (.int i :: .ref a :: rest)) := va_zald hx hb hK hP q0 1 ha ht hin hdg kk
theorem nar_z {x : Int32} (h : x = 0 ∨ x = 1) : vp_nar .boolean x = x := by rcases h with rfl | rfl <;> decide
theorem astz {wo : va_W} (hx : p.tables.exec = Jvm.exec) (hb : c.code = cc) (hK : va_K D vwCl tys s) (hP : va_P D vwCl ws H) (hD : va_D A ws) (hS : va_S A H0 H locs) (q0 : Nat) {cA : ClassId} {n : Nat} {f : Nat → Int32} (ha : ws[q0]? = some (a, .inl (cA, n, .inl f))) (ht : tys[1]? = some (cA, .boolean)) {i : Int32} {x : Int32} (hin : vp_in i n) (hz : x = 0 ∨ x = 1) (ho : ws.set q0 (a, .inl (cA, n, .inl (upd f i.toNatClampNeg x))) = wo) (hdg : decode cc pc = .ok (.bastore, 1))
    (kk : ∀ (H1 : Heap) (locs1 : List Loc), va_P D vwCl wo H1 → va_D A wo → va_S A H0 H1 locs1 → W p l e R s m args below meth c H1 locs1 cells slots Q (F0 m (pc + 1) ls rest)) : W p l e R s m args below meth c H locs cells slots Q (F0 m pc ls (.int x :: .int i :: .ref a :: rest)) := by
  subst ho
  refine va_zast hx hb hK hP hD hS q0 1 ha ht hin hdg ?_
  rw [nar_z hz]
  exact kk
theorem aldr (hx : p.tables.exec = Jvm.exec) (hb : c.code = cc) (hK : va_K D vwCl tys s) (hP : va_P D vwCl ws H) (q0 : Nat) {cA : ClassId} {n v : Nat} {f : Nat → Option Nat} (ha : ws[q0]? = some (a, .inl (cA, n, .inr (.inr (.inr (.inr f)))))) (ht : tys[2]? = some (cA, .object "PebbleBars$Sheet")) {i : Int32} (hin : vp_in i n) (hv : f i.toNatClampNeg = some v) (hdg : decode cc pc = .ok (.aaload, 1))
    (kk : W p l e R s m args below meth c H locs cells slots Q (F0 m (pc + 1) ls (.ref v :: rest))) : W p l e R s m args below meth c H locs cells slots Q (F0 m pc ls (.int i :: .ref a :: rest)) := by
  refine va_aldq hx hb hK hP q0 2 ha ht hin hdg ?_
  rw [hv]
  exact kk
end BASE
theorem MCi.mk {l : Launch} {D : va_G} {tys : List (ClassId × FieldType)} {y : MethodName} {bytes : ByteArray} {maxL : Nat} {fr lo : Nat} {av : List Value} {ws ws' : va_W} {r : Int32} (hy : plainName y.cls = true) (hsl : (lg_sl av).length ≤ maxL)
    (body : ∀ (p : Program) (e : Env) (s : State) (m : MethodId) (args : Array Value) (below : List Frame) (meth : Method) (c : Code) (A : Nat → Prop) (ls : Array Slot) (Q : State → Prop), Std p s m meth c args bytes maxL (some .int) y.cls D tys → va_P D vwCl ws s.heap → va_D A ws → (∀ q, s.heap.size ≤ q → A q) → va_S A s.heap s.heap [] → lv_has ls maxL (lv_args 0 av) →
      (∀ (H : Heap) (locs : List Loc) (ls : Array Slot) (pc : Nat), va_P D vwCl ws' H → va_D A ws' → va_S A s.heap H locs → decode bytes pc = .ok (.ireturn, 1) → W p l e (uR fr lo) s m args below meth c H locs 0 0 Q (F0 m pc ls [.int r])) → W p l e (uR fr lo) s m args below meth c s.heap [] 0 0 Q (F0 m 0 ls [])) : MCi l D tys y bytes maxL (some .int) fr lo av ws ws' r := by
  intro sz
  refine Met.ofW (cc := bytes) (maxL := maxL) (ret := some .int) hy rfl ?_
  intro p e s m args below meth c s₁ B hml hv
  obtain ⟨rfl, hsz, hP, hK, hD0⟩ := hv
  have hts := atoms_spec (ws := Cond.code y bytes maxL (some .int) :: lw_g) B.pre
  have hown : s.vm.findClass y.cls = some m.cls := findClass_of_methodNamed B.named
  have hlocks := B.notSynchronized
  subst hsz
  have hD := hD0.self (sz := s.heap.size)
  have hl := lv_entry av (n := maxL) hsl
  rw [lg_entry_eq]
  have h0 : Std p s m meth c av.toArray bytes maxL (some .int) y.cls D tys := ⟨B.exec, B.bytes, B.returns, hlocks, hml, hown, fun w h => hts w (List.mem_cons_of_mem _ h), hK⟩
  exact body p e s m _ below meth c (va_A ws s.heap.size) _ _ h0 hP hD (fun q h => Or.inr h) va_S.rf hl (fun H locs ls pc h1 h2 h3 h4 => iend h0 h1 h2 h3 h4)
theorem MCz.mk {l : Launch} {D : va_G} {tys : List (ClassId × FieldType)} {y : MethodName} {bytes : ByteArray} {maxL : Nat} {fr lo : Nat} {av : List Value} {ws ws' : va_W} {r : Int32} (hy : plainName y.cls = true) (hsl : (lg_sl av).length ≤ maxL)
    (body : ∀ (p : Program) (e : Env) (s : State) (m : MethodId) (args : Array Value) (below : List Frame) (meth : Method) (c : Code) (A : Nat → Prop) (ls : Array Slot) (Q : State → Prop), Std p s m meth c args bytes maxL (some .boolean) y.cls D tys → va_P D vwCl ws s.heap → va_D A ws → (∀ q, s.heap.size ≤ q → A q) → va_S A s.heap s.heap [] → lv_has ls maxL (lv_args 0 av) →
      (∀ (H : Heap) (locs : List Loc) (ls : Array Slot) (pc : Nat), (r = 0 ∨ r = 1) → va_P D vwCl ws' H → va_D A ws' → va_S A s.heap H locs → decode bytes pc = .ok (.ireturn, 1) → W p l e (uR fr lo) s m args below meth c H locs 0 0 Q (F0 m pc ls [.int r])) → W p l e (uR fr lo) s m args below meth c s.heap [] 0 0 Q (F0 m 0 ls [])) : MCi l D tys y bytes maxL (some .boolean) fr lo av ws ws' r := by
  intro sz
  refine Met.ofW (cc := bytes) (maxL := maxL) (ret := some .boolean) hy rfl ?_
  intro p e s m args below meth c s₁ B hml hv
  obtain ⟨rfl, hsz, hP, hK, hD0⟩ := hv
  have hts := atoms_spec (ws := Cond.code y bytes maxL (some .boolean) :: lw_g) B.pre
  have hown : s.vm.findClass y.cls = some m.cls := findClass_of_methodNamed B.named
  have hlocks := B.notSynchronized
  subst hsz
  have hD := hD0.self (sz := s.heap.size)
  have hl := lv_entry av (n := maxL) hsl
  rw [lg_entry_eq]
  have h0 : Std p s m meth c av.toArray bytes maxL (some .boolean) y.cls D tys := ⟨B.exec, B.bytes, B.returns, hlocks, hml, hown, fun w h => hts w (List.mem_cons_of_mem _ h), hK⟩
  exact body p e s m _ below meth c (va_A ws s.heap.size) _ _ h0 hP hD (fun q h => Or.inr h) va_S.rf hl (fun H locs ls pc hz h1 h2 h3 h4 => zend h0 hz h1 h2 h3 h4)
theorem MCv.mk {l : Launch} {D : va_G} {tys : List (ClassId × FieldType)} {y : MethodName} {bytes : ByteArray} {maxL : Nat} {fr lo : Nat} {av : List Value} {ws ws' : va_W} (hy : plainName y.cls = true) (hsl : (lg_sl av).length ≤ maxL)
    (body : ∀ (p : Program) (e : Env) (s : State) (m : MethodId) (args : Array Value) (below : List Frame) (meth : Method) (c : Code) (A : Nat → Prop) (ls : Array Slot) (Q : State → Prop), Std p s m meth c args bytes maxL none y.cls D tys → va_P D vwCl ws s.heap → va_D A ws → (∀ q, s.heap.size ≤ q → A q) → va_S A s.heap s.heap [] → lv_has ls maxL (lv_args 0 av) →
      (∀ (H : Heap) (locs : List Loc) (ls : Array Slot) (pc : Nat), va_P D vwCl ws' H → va_D A ws' → va_S A s.heap H locs → decode bytes pc = .ok (.return_, 1) → W p l e (uR fr lo) s m args below meth c H locs 0 0 Q (F0 m pc ls [])) → W p l e (uR fr lo) s m args below meth c s.heap [] 0 0 Q (F0 m 0 ls [])) : MCv l D tys y bytes maxL none fr lo av ws ws' := by
  intro sz
  refine Met.ofW (cc := bytes) (maxL := maxL) (ret := none) hy rfl ?_
  intro p e s m args below meth c s₁ B hml hv
  obtain ⟨rfl, hsz, hP, hK, hD0⟩ := hv
  have hts := atoms_spec (ws := Cond.code y bytes maxL none :: lw_g) B.pre
  have hown : s.vm.findClass y.cls = some m.cls := findClass_of_methodNamed B.named
  have hlocks := B.notSynchronized
  subst hsz
  have hD := hD0.self (sz := s.heap.size)
  have hl := lv_entry av (n := maxL) hsl
  rw [lg_entry_eq]
  have h0 : Std p s m meth c av.toArray bytes maxL none y.cls D tys := ⟨B.exec, B.bytes, B.returns, hlocks, hml, hown, fun w h => hts w (List.mem_cons_of_mem _ h), hK⟩
  exact body p e s m _ below meth c (va_A ws s.heap.size) _ _ h0 hP hD (fun q h => Or.inr h) va_S.rf hl (fun H locs ls pc h1 h2 h3 h4 => vend h0 h1 h2 h3 h4)
theorem none_e {α : Type} {u : α} {P : Prop} (E : (none : Option α) = some u) : P := by cases E
theorem tsw_out {x : Int32} (n : Nat) (hn : n < 2 ^ 31) (h : ∀ k, k ≤ n → ¬ x = nI k) : x.toInt < 0 ∨ (n : Int) < x.toInt := by
  by_cases h1 : x.toInt < 0
  · exact Or.inl h1
  · refine Or.inr ?_
    obtain ⟨j, hj, rfl⟩ := nI_of (x := x) (by rw [Int32.lt_iff_toInt_lt, Int32.toInt_zero]; exact h1)
    rw [nI_toInt hj]
    by_cases h2 : j ≤ n
    · exact absurd rfl (h j h2)
    · omega
