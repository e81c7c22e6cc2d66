/-! making objects: rows and the form of a constructor's contract -/
def nestL : List (String × Nat × MethodName × String) := [("PebbleBars", 9, yX0_init, "PebbleBars"), ("PebbleBars", 25, yX5_init, "PebbleBars"), ("PebbleBars", 32, yX3_init, "PebbleBars"), ("PebbleBars$Study", 11, yX1_init, "PebbleBars"), ("PebbleBars", 39, yX4_init, "PebbleBars"), ("PebbleBars$TakeDown", 11, yX1_init, "PebbleBars"), ("PebbleBars", 50, yX2_init, "PebbleBars")]
/-- the words that aren't carried by lw_g: the links of private constructors, the class of rows of sheets -/
def Nst (U : State) : Prop := (∀ q ∈ nestL, va_Nw (.methodLinkNest q.1 q.2.1 q.2.2.1 q.2.2.2) U) ∧ va_AO "PebbleBars$Sheet" U
theorem Nst.warm {s U : State} (hW : s.WarmedH U.vm) (h : Nst s) : Nst U := ⟨fun q hq => va_Nw.warmM hW (h.1 q hq), h.2.moved hW.alike⟩
theorem Nst.same {u U : State} (hv : u.vm = U.vm) (h : Nst u) : Nst U := ⟨fun q hq => va_Nw.same rfl hv (h.1 q hq), h.2.moved (by rw [hv]; exact Vm.Alike.refl _)⟩
theorem wjoinR {A0 : Nat → Prop} {D : va_G} {cl : List vw_C} {w0 wc w1 : va_W} {H H1 : Heap} (hP : va_P D cl (w0 ++ wc) H) (hD : va_D A0 (w0 ++ wc)) (hk : ∀ q : Nat, q < H.size → ¬ va_A wc H.size q → H1[q]? = H[q]?) (hF : ∀ q, va_A wc H.size q → A0 q) (hP1 : va_P D cl w1 H1) (hD1 : va_D (va_A wc H.size) w1) : va_P D cl (w0 ++ w1) H1 ∧ va_D A0 (w0 ++ w1) := by
  have atC : ∀ (k : Nat) (q : Nat × va_E), wc[k]? = some q → (w0 ++ wc)[w0.length + k]? = some q := by
    intro k q h
    rw [List.getElem?_append_right (by omega)]
    simpa using h
  have at0 : ∀ (k : Nat) (q : Nat × va_E), w0[k]? = some q → (w0 ++ wc)[k]? = some q ∧ k < w0.length := by
    intro k q h
    have := (List.getElem?_eq_some_iff.mp h).1
    exact ⟨by rw [List.getElem?_append_left this]; exact h, this⟩
  have apart : ∀ (k : Nat) (q : Nat × va_E), w0[k]? = some q → q.1 < H.size ∧ ¬ va_A wc H.size q.1 := by
    intro k q h
    obtain ⟨h1, h2⟩ := at0 k q h
    have hlt := (hP k q h1).lt
    refine ⟨hlt, fun hh => ?_⟩
    rcases hh with ⟨k2, e, hh⟩ | hh
    · have := hD.1 k (w0.length + k2) q (q.1, e) h1 (atC k2 _ hh) rfl
      omega
    · omega
  refine ⟨va_P.app (fun k q h => ?_) hP1, va_D.app ⟨fun i j p q hi hj => hD.1 i j p q (at0 i p hi).1 (at0 j q hj).1, fun k q h => hD.2 k q (at0 k q h).1⟩ (hD1.weaken (fun k q _ h => hF q.1 h)) (fun i j x y hx hy hxy => ?_)⟩
  · exact (hP k q (at0 k q h).1).kept (hk q.1 (apart k q h).1 (apart k q h).2)
  · exact (apart i x hx).2 (by rw [hxy]; exact hD1.2 j y hy)
abbrev uN (fr lo mc ms : Nat) : Room := { frames := fr, cells := mc, slots := ms, locals := lo }
/-- a constructor: the new object's cell ws becomes the cells W' u, u the new addresses -/
def MCn (l : Launch) (D : va_G) (tys : List (ClassId × FieldType)) (y : MethodName) (bytes : ByteArray) (maxL fr lo mc ms : Nat) (b : Nat) (ws : va_W) (W' : (Nat → Nat) → va_W) : Prop := ∀ sz : Nat, Met l y (Cond.code y bytes maxL none :: lw_g) (uN fr lo mc ms) (va_Pc [.ref b] (fun U => U.heap.size = sz ∧ va_P D vwCl ws U.heap ∧ va_K D vwCl tys U ∧ va_D (fun _ => True) ws ∧ Nst U)) (va_Qv (fun (_ : Nat → Nat) => True) (fun u t => va_P D vwCl (W' u) t.heap ∧ va_K D vwCl tys t ∧ va_D (va_A ws sz) (W' u)) (va_A ws sz)) mc ms (va_A ws sz)
section MAKE
variable {p : Program} {l : Launch} {e : Env} {R : Room} {s : State} {m : MethodId} {args : Array Value} {below : List Frame} {meth : Method} {c : Code} {H : Heap} {locs : List Loc} {cells slots : Nat} {Q : State → Prop}
variable {cc : ByteArray} {pc nL : Nat} {ret : Option FieldType} {ls : Array Slot} {rest : List Value} {D : va_G} {A : Nat → Prop} {a : Nat} {tys : List (ClassId × FieldType)} {ws ws' : va_W} {H0 : Heap} {own : String}
theorem MCn.mk {y : MethodName} {bytes : ByteArray} {maxL fr lo mc ms b : Nat} {W' : (Nat → Nat) → va_W} (hy : plainName y.cls = true) (hni : y.name = "<init>") (hsl : (lg_sl [.ref b]).length ≤ maxL)
    (body : ∀ (p : Program) (e : Env) (s : State) (m : MethodId) (args : Array Value) (below : List Frame) (meth : Method) (c : Code) (A : Nat → Prop) (ls : Array Slot) (Q : State → Prop), Std p s m meth c args bytes maxL none y.cls D tys → meth.name = "<init>" → Nst s → va_P D vwCl ws s.heap → va_D A ws → (∀ q, s.heap.size ≤ q → A q) → va_S A s.heap s.heap [] → lv_has ls maxL [(0, .ref b)] →
      (∀ (u : Nat → Nat) (H : Heap) (locs : List Loc) (ls : Array Slot) (pc : Nat), va_P D vwCl (W' u) H → va_D A (W' u) → va_S A s.heap H locs → decode bytes pc = .ok (.return_, 1) → W p l e (uN fr lo mc ms) s m args below meth c H locs mc ms Q (F0 m pc ls [])) → W p l e (uN fr lo mc ms) s m args below meth c s.heap [] 0 0 Q (F0 m 0 ls [])) : MCn l D tys y bytes maxL fr lo mc ms b ws W' := by
  intro sz
  refine Met.ofW (cc := bytes) (maxL := maxL) (ret := none) hy rfl ?_
  intro p e s m args below meth c s₁ B hml hv
  obtain ⟨rfl, hsz, hP, hK, hD0, hN⟩ := hv
  have hts := atoms_spec (ws := Cond.code y bytes maxL none :: lw_g) B.pre
  have hown : s.vm.findClass y.cls = some m.cls := findClass_of_methodNamed B.named
  have hlocks := B.notSynchronized
  have hin : meth.name = "<init>" := (name_of_methodNamed B.named B.method).1.trans hni
  subst hsz
  have hD := hD0.self (sz := s.heap.size)
  have hl := lv_entry [.ref b] (n := maxL) hsl
  rw [lg_entry_eq]
  have h0 : Std p s m meth c [Value.ref b].toArray bytes maxL none y.cls D tys := ⟨B.exec, B.bytes, B.returns, hlocks, hml, hown, fun w h => hts w (List.mem_cons_of_mem _ h), hK⟩
  exact body p e s m _ below meth c (va_A ws s.heap.size) _ _ h0 hin hN hP hD (fun q h => Or.inr h) va_S.rf hl (fun u H locs ls pc h1 h2 h3 h4 => W.vret h0.1 h0.2.1 h0.2.2.1 (fun t ht hW => ⟨⟨u, rfl, trivial, by rw [ht]; exact h1, va_K.moved hW.alike hK, h2⟩, h3.F ht⟩) h3.2.2 h4 hlocks)
theorem sub1 {w0 wc : va_W} (hP : va_P D vwCl (w0 ++ wc) H) (hD : va_D A (w0 ++ wc)) (hS : va_S A H0 H locs) (hA : ∀ q, H0.size ≤ q → A q) : va_P D vwCl wc H ∧ va_D A wc ∧ ∀ q, va_A wc H.size q → A q := by
  have atC : ∀ (k : Nat) (q : Nat × va_E), wc[k]? = some q → (w0 ++ wc)[w0.length + k]? = some q := by
    intro k q h
    rw [List.getElem?_append_right (by omega)]
    simpa using h
  refine ⟨fun k q h => hP _ q (atC k q h), ⟨fun i j p q hi hj hpq => ?_, fun k q h => hD.2 _ q (atC k q h)⟩, fun q hq => ?_⟩
  · have := hD.1 _ _ p q (atC i p hi) (atC j q hj) hpq
    omega
  · rcases hq with ⟨k, e, h⟩ | h
    · exact hD.2 _ (q, e) (atC k _ h)
    · exact hA q (Nat.le_trans hS.1 h)
/-- a private constructor of a class of the same nest -/
theorem callIN {y : MethodName} {bytes : ByteArray} {maxL fr lo mc ms index b : Nat} {host : String} {w0 wc : va_W} {W' : (Nat → Nat) → va_W} {st : List Value} (h0 : Std p s m meth c args cc nL ret own D tys) (hN : Nst s)
    (hM : MCn l D tys y bytes maxL fr lo mc ms b wc W') (hcode : Cond.code y bytes maxL none ∈ lw_g) (hini : Cond.initialized y.cls ∈ lw_g) (hinst : Cond.instanceMethod y ∈ lw_g) (hni : y.name = "<init>") (hlk : (own, index, y, host) ∈ nestL)
    (hd : y.cls ≠ "java/lang/invoke/MethodHandle" ∧ y.cls ≠ "java/lang/invoke/VarHandle" ∧ (parseMethodDescriptor y.desc).map (fun d => d.parameters.length) = some 0) (hR : fr + 1 ≤ R.frames ∧ 8 + (maxL + 11) + lo ≤ R.locals) (hcs : cells + mc ≤ R.cells ∧ slots + ms ≤ R.slots)
    (hP : va_P D vwCl (w0 ++ wc) H) (hD : va_D A (w0 ++ wc)) (hS : va_S A H0 H locs) (hA : ∀ q, H0.size ≤ q → A q) (hsize : ls.size = nL) (hst : st = .ref b :: rest) (hroom : (rest.map fun v => v.category).sum ≤ 8) (hdg : decode cc pc = .ok (.invokespecial index, 3))
    (kk : ∀ (u : Nat → Nat) (H1 : Heap) (locs1 : List Loc), va_P D vwCl (w0 ++ W' u) H1 → va_D A (w0 ++ W' u) → va_S A H0 H1 locs1 → W p l e R s m args below meth c H1 locs1 (cells + mc) (slots + ms) Q (F0 m (pc + 3) ls rest)) : W p l e R s m args below meth c H locs cells slots Q (F0 m pc ls st) := by
  obtain ⟨hx, hb, hr, hlk0, hml, hown, hts, hK⟩ := h0
  obtain ⟨hPc, hDc, hFc⟩ := sub1 hP hD hS hA
  have hG : GoodIn lw_g (Cond.code y bytes maxL none :: lw_g) := fun w hw => by
    have hm : w ∈ lw_g := (List.mem_cons.mp hw).elim (fun h => h ▸ hcode) id
    exact ⟨hm, good_of_word (lw_gG w hm)⟩
  subst hst
  refine va_callv (va_runIN (As := []) (rest := rest) ⟨hx, hb, hml, hown, hts⟩ (hM H.size) ⟨va_cnB 0 hts hG rfl rfl rfl (hN.1 _ hlk) (hts _ hini) hd hR, hni, hts _ hinst⟩ ⟨fun a U g mk q => by obtain ⟨q0, q1, qP, qK, qD, qN⟩ := q; exact ⟨q0, q1, qP, va_K.moved (u := U) (U := U.calling g mk a) (Vm.Alike.refl U.vm) qK, qD, qN.same rfl⟩, fun U hU hW => ⟨rfl, by rw [hU], by rw [hU]; exact hPc, va_K.moved hW.alike hK, hDc.weaken (fun _ _ _ _ => trivial), hN.warm hW⟩⟩ rfl rfl hsize rfl (lv_room hroom) hdg hcs) hS (fun q _ h => hFc q h) hFc (fun u t H1 locs1 ht hvm hw hB hz1 hk1 hS1 => ?_)
  obtain ⟨hP1, hK1, hD1⟩ := hB
  rw [ht] at hP1
  obtain ⟨hP2, hD2⟩ := wjoinR hP hD hk1 hFc hP1 hD1
  exact kk u H1 locs1 hP2 hD2 hS1
/-- a public constructor -/
theorem callIP {y : MethodName} {bytes : ByteArray} {maxL fr lo mc ms index b : Nat} {w0 wc : va_W} {W' : (Nat → Nat) → va_W} {st : List Value} (h0 : Std p s m meth c args cc nL ret own D tys) (hN : Nst s)
    (hM : MCn l D tys y bytes maxL fr lo mc ms b wc W') (hcode : Cond.code y bytes maxL none ∈ lw_g) (hini : Cond.initialized y.cls ∈ lw_g) (hinst : Cond.instanceMethod y ∈ lw_g) (hni : y.name = "<init>") (hlk : Cond.methodLink own index y ∈ lw_g)
    (hd : y.cls ≠ "java/lang/invoke/MethodHandle" ∧ y.cls ≠ "java/lang/invoke/VarHandle" ∧ (parseMethodDescriptor y.desc).map (fun d => d.parameters.length) = some 0) (hR : fr + 1 ≤ R.frames ∧ 8 + (maxL + 11) + lo ≤ R.locals) (hcs : cells + mc ≤ R.cells ∧ slots + ms ≤ R.slots)
    (hP : va_P D vwCl (w0 ++ wc) H) (hD : va_D A (w0 ++ wc)) (hS : va_S A H0 H locs) (hA : ∀ q, H0.size ≤ q → A q) (hsize : ls.size = nL) (hst : st = .ref b :: rest) (hroom : (rest.map fun v => v.category).sum ≤ 8) (hdg : decode cc pc = .ok (.invokespecial index, 3))
    (kk : ∀ (u : Nat → Nat) (H1 : Heap) (locs1 : List Loc), va_P D vwCl (w0 ++ W' u) H1 → va_D A (w0 ++ W' u) → va_S A H0 H1 locs1 → W p l e R s m args below meth c H1 locs1 (cells + mc) (slots + ms) Q (F0 m (pc + 3) ls rest)) : W p l e R s m args below meth c H locs cells slots Q (F0 m pc ls st) := by
  obtain ⟨hx, hb, hr, hlk0, hml, hown, hts, hK⟩ := h0
  obtain ⟨hPc, hDc, hFc⟩ := sub1 hP hD hS hA
  have hG : GoodIn lw_g (Cond.code y bytes maxL none :: lw_g) := fun w hw => by
    have hm : w ∈ lw_g := (List.mem_cons.mp hw).elim (fun h => h ▸ hcode) id
    exact ⟨hm, good_of_word (lw_gG w hm)⟩
  subst hst
  refine va_callv (va_runI (As := []) (rest := rest) ⟨hx, hb, hml, hown, hts⟩ (hM H.size) (cwI 0 hts hG rfl rfl rfl (hts _ hini) (hts _ hlk) (hts _ hinst) hni hd hR) ⟨fun a U g mk q => by obtain ⟨q0, q1, qP, qK, qD, qN⟩ := q; exact ⟨q0, q1, qP, va_K.moved (u := U) (U := U.calling g mk a) (Vm.Alike.refl U.vm) qK, qD, qN.same rfl⟩, fun U hU hW => ⟨rfl, by rw [hU], by rw [hU]; exact hPc, va_K.moved hW.alike hK, hDc.weaken (fun _ _ _ _ => trivial), hN.warm hW⟩⟩ rfl rfl hsize rfl (lv_room hroom) hdg hcs) hS (fun q _ h => hFc q h) hFc (fun u t H1 locs1 ht hvm hw hB hz1 hk1 hS1 => ?_)
  obtain ⟨hP1, hK1, hD1⟩ := hB
  rw [ht] at hP1
  obtain ⟨hP2, hD2⟩ := wjoinR hP hD hk1 hFc hP1 hD1
  exact kk u H1 locs1 hP2 hD2 hS1
theorem newI {cI : ClassId} (h0 : Std p s m meth c args cc nL ret own D tys) (ht : tys[0]? = some (cI, .int)) (hP : va_P D vwCl ws H) (hD : va_D A ws) (hS : va_S A H0 H locs) (hA : ∀ q, H0.size ≤ q → A q) {n : Int32} {N : Nat} (hn : ¬ n < 0) (hN : n.toNatClampNeg = N) (hby : N * 4 ≤ 536870912) (hcells : cells + 1 ≤ R.cells) (hslots : slots + N ≤ R.slots) (hdg : decode cc pc = .ok (.newarray .int, 2))
    (kk : ∀ (q : Nat) (H1 : Heap), va_P D vwCl (ws ++ [(q, .inl (cI, N, .inl (fun _ => 0)))]) H1 → va_D A (ws ++ [(q, .inl (cI, N, .inl (fun _ => 0)))]) → va_S A H0 H1 locs → W p l e R s m args below meth c H1 locs (cells + 1) (slots + N) Q (F0 m (pc + 2) ls (.ref q :: rest))) : W p l e R s m args below meth c H locs cells slots Q (F0 m pc ls (.int n :: rest)) := by
  obtain ⟨hx, hb, hr, hlk0, hml, hown, hts, hK⟩ := h0
  refine va_newa (atype := .int) (ty := .int) (a0 := (N, .inl (fun _ => 0))) hx hb (hts _ wq_51) rfl hK hP hD hS hA (fun cA => rfl) hn hN hby hcells hslots hdg (fun q cA H1 hK1 hP1 hD1 hS1 => ?_)
  have h1 : s.vm.findClass ("[" ++ FieldType.int.toString) = some cI := (hK.2 0 _ ht).2
  have h2 : s.vm.findClass ("[" ++ FieldType.int.toString) = some cA := (hK1.2 tys.length (cA, .int) (by simp)).2
  have : cA = cI := Option.some.inj (h2.symm.trans h1)
  subst this
  exact kk q H1 hP1 hD1 hS1
theorem newZ {cZ : ClassId} (h0 : Std p s m meth c args cc nL ret own D tys) (hw : (Cond.arrayClass .boolean).before args s = true) (ht : tys[1]? = some (cZ, .boolean)) (hP : va_P D vwCl ws H) (hD : va_D A ws) (hS : va_S A H0 H locs) (hA : ∀ q, H0.size ≤ q → A q) {n : Int32} {N : Nat} (hn : ¬ n < 0) (hN : n.toNatClampNeg = N) (hby : N * 1 ≤ 536870912) (hcells : cells + 1 ≤ R.cells) (hslots : slots + N ≤ R.slots) (hdg : decode cc pc = .ok (.newarray .boolean, 2))
    (kk : ∀ (q : Nat) (H1 : Heap), va_P D vwCl (ws ++ [(q, .inl (cZ, N, .inl (fun _ => 0)))]) H1 → va_D A (ws ++ [(q, .inl (cZ, N, .inl (fun _ => 0)))]) → va_S A H0 H1 locs → W p l e R s m args below meth c H1 locs (cells + 1) (slots + N) Q (F0 m (pc + 2) ls (.ref q :: rest))) : W p l e R s m args below meth c H locs cells slots Q (F0 m pc ls (.int n :: rest)) := by
  obtain ⟨hx, hb, hr, hlk0, hml, hown, hts, hK⟩ := h0
  refine va_newa (atype := .boolean) (ty := .boolean) (a0 := (N, .inl (fun _ => 0))) hx hb hw rfl hK hP hD hS hA (fun cA => rfl) hn hN hby hcells hslots hdg (fun q cA H1 hK1 hP1 hD1 hS1 => ?_)
  have h1 : s.vm.findClass ("[" ++ FieldType.boolean.toString) = some cZ := (hK.2 1 _ ht).2
  have h2 : s.vm.findClass ("[" ++ FieldType.boolean.toString) = some cA := (hK1.2 tys.length (cA, .boolean) (by simp)).2
  have : cA = cZ := Option.some.inj (h2.symm.trans h1)
  subst this
  exact kk q H1 hP1 hD1 hS1
theorem newS {cS : ClassId} {index : Nat} (h0 : Std p s m meth c args cc nL ret own D tys) (hN0 : Nst s) (hcl : Cond.classLink own index "PebbleBars$Sheet" ∈ lw_g) (ht : tys[2]? = some (cS, .object "PebbleBars$Sheet")) (hP : va_P D vwCl ws H) (hD : va_D A ws) (hS : va_S A H0 H locs) (hA : ∀ q, H0.size ≤ q → A q) {n : Int32} {N : Nat} (hn : ¬ n < 0) (hN : n.toNatClampNeg = N) (hby : N * 4 ≤ 536870912) (hcells : cells + 1 ≤ R.cells) (hslots : slots + N ≤ R.slots) (hdg : decode cc pc = .ok (.anewarray index, 3))
    (kk : ∀ (q : Nat) (H1 : Heap), va_P D vwCl (ws ++ [(q, .inl (cS, N, .inr (.inr (.inr (.inr (fun _ => none))))))]) H1 → va_D A (ws ++ [(q, .inl (cS, N, .inr (.inr (.inr (.inr (fun _ => none))))))]) → va_S A H0 H1 locs → W p l e R s m args below meth c H1 locs (cells + 1) (slots + N) Q (F0 m (pc + 3) ls (.ref q :: rest))) : W p l e R s m args below meth c H locs cells slots Q (F0 m pc ls (.int n :: rest)) := by
  obtain ⟨hx, hb, hr, hlk0, hml, hown, hts, hK⟩ := h0
  refine va_newq hx hb hown (hts _ hcl) hN0.2 hK hP hD hS hA hn hN hby hcells hslots hdg (fun q cA H1 hK1 hP1 hD1 hS1 => ?_)
  obtain ⟨_, _, _, _, _, h1⟩ : va_RA s cS (.object "PebbleBars$Sheet") := (hK.2 2 _ ht).2
  obtain ⟨_, _, _, _, _, h2⟩ : va_RA s cA (.object "PebbleBars$Sheet") := (hK1.2 tys.length (cA, .object "PebbleBars$Sheet") (by simp)).2
  have : cA = cS := Option.some.inj (h2.symm.trans h1)
  subst this
  exact kk q H1 hP1 hD1 hS1
theorem newO {C : String} {T : u_T} {N ci index : Nat} {fs : List Value} (h0 : Std p s m meth c args cc nL ret own D tys) (hin : ∀ w ∈ u_ws C T N, w ∈ lw_g) (ty : Nat → FieldType) (hty : ∀ k, k < N → parseFieldDescriptor (T k).2.2.1 = some (ty k)) (hcl : Cond.classLink own index C ∈ lw_g) (hinst : Cond.instantiable C N ∈ lw_g) (hini : Cond.initialized C ∈ lw_g)
    (hP : va_P D vwCl ws H) (hD : va_D A ws) (hS : va_S A H0 H locs) (hA : ∀ q, H0.size ≤ q → A q) (hc : vwCl[ci]? = some (C, T, N)) (hfs : ∀ j, j < N → defaultValue (ty j) = vp_V fs j) (hcells : cells + 1 ≤ R.cells) (hslots : slots + N ≤ R.slots) (hdg : decode cc pc = .ok (.new index, 3))
    (kk : ∀ (q : Nat) (H1 : Heap), va_P D vwCl (ws ++ [(q, .inr (ci, fs))]) H1 → va_D A (ws ++ [(q, .inr (ci, fs))]) → va_S A H0 H1 locs → W p l e R s m args below meth c H1 locs (cells + 1) (slots + N) Q (F0 m (pc + 3) ls (.ref q :: rest))) : W p l e R s m args below meth c H locs cells slots Q (F0 m pc ls rest) := by
  obtain ⟨hx, hb, hr, hlk0, hml, hown, hts, hK⟩ := h0
  exact va_new hx hb hts hin ty hty hown (hts _ hcl) (hts _ hinst) (hts _ hini) hK hP hD hS hA hc hfs hcells hslots hdg kk
theorem objI {idx : Nat} {b : Nat} (h0 : Std p s m meth c args cc nL ret own D tys) (hlk : Cond.methodLink own idx Lib.objectInit ∈ lw_g) (hsize : ls.size = nL) (hroom : (rest.map fun v => v.category).sum ≤ 8) (hdg : decode cc pc = .ok (.invokespecial idx, 3)) (hframes : 1 ≤ R.frames) (hlocals : 8 + 12 ≤ R.locals)
    (kk : W p l e R s m args below meth c H locs cells slots Q (F0 m (pc + 3) ls rest)) : W p l e R s m args below meth c H locs cells slots Q (F0 m pc ls (.ref b :: rest)) := by
  obtain ⟨hx, hb, hr, hlk0, hml, hown, hts, hK⟩ := h0
  refine W.objInit hx hb hown (hts _ hlk) (hts _ wq_18) (hts _ wq_19) rfl (by rw [hml]; exact hsize) rfl hdg hframes ?_ ?_
  · have := lv_room (m := m) (pc := pc) (ls := ls) (rest := .ref b :: rest) hroom
    omega
  · exact kk
end MAKE
