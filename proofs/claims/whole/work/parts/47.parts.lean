/-! parts -/
theorem and_not0 (x y : Int32) : (x &&& y) &&& (y ^^^ (-1)) = 0 := by
  apply Int32.toBitVec_inj.mp
  rw [Int32.toBitVec_and, Int32.toBitVec_and, Int32.toBitVec_xor]
  apply BitVec.eq_of_getLsbD_eq
  intro i hi
  have e1 : (-1 : Int32).toBitVec = BitVec.allOnes 32 := by decide
  have e2 : (0 : Int32).toBitVec = 0#32 := by decide
  rw [e1, e2]
  simp only [BitVec.getLsbD_and, BitVec.getLsbD_xor, BitVec.getLsbD_allOnes, BitVec.getLsbD_zero, hi, decide_true]
  cases x.toBitVec.getLsbD i <;> cases y.toBitVec.getLsbD i <;> rfl
theorem sub_not0 {a b : Nat} (ha : a < 2 ^ 31) (hb : b < 2 ^ 31) (h : ∀ i, a.testBit i = true → b.testBit i = true) : nI a &&& (nI b ^^^ (-1)) = 0 := by
  have e : a &&& b = a := by
    apply Nat.eq_of_testBit_eq
    intro i
    rw [Nat.testBit_and]
    cases hx : a.testBit i
    · rfl
    · rw [h i hx]; rfl
  have e2 : nI a = nI a &&& nI b := by rw [andI ha hb, e]
  rw [e2]
  exact and_not0 _ _
/-- whose bits the ties of a pin are -/
noncomputable def tm (es : List (Nat × Nat)) (n v : Nat) : Nat := bw (fun w => decide (w ≠ v) && tb es v w) n
theorem tm_bit (es : List (Nat × Nat)) (n v w : Nat) : (tm es n v).testBit w = (decide (w < n) && (decide (w ≠ v) && tb es v w)) := bw_bit _ n w
theorem tm_lt (es : List (Nat × Nat)) {n : Nat} (hn : n ≤ 12) (v : Nat) : tm es n v < 2 ^ 12 := Nat.lt_of_lt_of_le (bw_lt _ n) (Nat.pow_le_pow_right (by decide) hn)
theorem TT.eq {es : List (Nat × Nat)} {n : Nat} {t : Nat → Int32} (h : TT es n t) {v : Nat} (hv : v < n) : t v = nI (tm es n v) := by
  obtain ⟨m, _, e, hm⟩ := h v hv
  rw [e]
  congr 1
  apply Nat.eq_of_testBit_eq
  intro w
  rw [tm_bit]
  have := hm w
  cases hx : m.testBit w
  · symm
    cases hy : (decide (w < n) && (decide (w ≠ v) && tb es v w))
    · rfl
    · simp only [Bool.and_eq_true, decide_eq_true_eq] at hy
      rw [this.mpr ⟨hy.1, hy.2.1, hy.2.2⟩] at hx
      cases hx
  · obtain ⟨a, b, c⟩ := this.mp hx
    simp [a, b, c]
/-- the part of two tied pins -/
noncomputable def pm (es : List (Nat × Nat)) (n p q : Nat) : Nat := (tm es n p &&& tm es n q) ||| (2 ^ p ||| 2 ^ q)
theorem pm_bit (es : List (Nat × Nat)) (n p q w : Nat) : (pm es n p q).testBit w = (((tm es n p).testBit w && (tm es n q).testBit w) || (decide (p = w) || decide (q = w))) := by
  unfold pm
  rw [Nat.testBit_or, Nat.testBit_and, Nat.testBit_or, Nat.testBit_two_pow, Nat.testBit_two_pow]
theorem p12 {p n : Nat} (hn : n ≤ 12) (hp : p < n) : 2 ^ p < 2 ^ 12 := Nat.pow_lt_pow_right (by decide) (by omega)
theorem pm_lt (es : List (Nat × Nat)) {n p q : Nat} (hn : n ≤ 12) (hp : p < n) (hq : q < n) : pm es n p q < 2 ^ 12 := by
  unfold pm
  refine Nat.or_lt_two_pow (Nat.lt_of_le_of_lt Nat.and_le_left (tm_lt es hn p)) (Nat.or_lt_two_pow (p12 hn hp) (p12 hn hq))
/-- v is in the part of p, q -/
def inP (es : List (Nat × Nat)) (n p q v : Nat) : Prop := v = p ∨ v = q ∨ (v < n ∧ v ≠ p ∧ v ≠ q ∧ TE es p v ∧ TE es q v)
theorem pm_in {es : List (Nat × Nat)} {n p q v : Nat} : (pm es n p q).testBit v = true ↔ inP es n p q v := by
  rw [pm_bit, tm_bit, tm_bit]
  unfold inP
  simp only [Bool.or_eq_true, Bool.and_eq_true, decide_eq_true_eq, tb_t]
  constructor
  · rintro (⟨⟨a, b, c⟩, _, d, e⟩ | h | h)
    · exact Or.inr (Or.inr ⟨a, b, d, c, e⟩)
    · exact Or.inl h.symm
    · exact Or.inr (Or.inl h.symm)
  · rintro (h | h | ⟨a, b, c, d, e⟩)
    · exact Or.inr (Or.inl h.symm)
    · exact Or.inr (Or.inr h.symm)
    · exact Or.inl ⟨⟨a, b, d⟩, a, c, e⟩
/-- p, q are the least two of their part -/
def LPr (es : List (Nat × Nat)) (n p q : Nat) : Prop := p < q ∧ q < n ∧ TE es p q ∧ ∀ v, v < q → inP es n p q v → v = p
theorem inP.lt {es : List (Nat × Nat)} {n p q v : Nat} (hp : p < n) (hq : q < n) (h : inP es n p q v) : v < n := by
  rcases h with rfl | rfl | h
  · exact hp
  · exact hq
  · exact h.1
/-- two of a part are tied -/
theorem inP.te {es : List (Nat × Nat)} (hw : WL es) (hs : SP es) {n p q : Nat} (hn : n ≤ 12) (hp : p < n) (hq : q < n) (hpq : p ≠ q) (ht : TE es p q) {a b : Nat} (ha : inP es n p q a) (hb : inP es n p q b) (hab : a ≠ b) : TE es a b := by
  rcases ha with rfl | rfl | ⟨a1, a2, a3, a4, a5⟩
  · rcases hb with rfl | rfl | ⟨b1, b2, b3, b4, b5⟩
    · exact absurd rfl hab
    · exact ht
    · exact b4
  · rcases hb with rfl | rfl | ⟨b1, b2, b3, b4, b5⟩
    · exact ht.symm
    · exact absurd rfl hab
    · exact b5
  · rcases hb with rfl | rfl | ⟨b1, b2, b3, b4, b5⟩
    · exact a4.symm
    · exact a5.symm
    · exact te_close hw hs (by omega) (by omega) (by omega) (by omega) hpq (fun e => a2 e.symm) (fun e => b2 e.symm) ht a4 a5 b4 b5
/-- a part is known by two of its pins -/
theorem inP.sub {es : List (Nat × Nat)} (hw : WL es) (hs : SP es) {n p q p' q' : Nat} (hn : n ≤ 12) (hp : p < n) (hq : q < n) (hpq : p ≠ q) (ht : TE es p q) (hp' : p' < n) (hq' : q' < n) (hpq' : p' ≠ q') (ht' : TE es p' q') {a b v : Nat} (hab : a ≠ b) (ha : inP es n p q a) (hb : inP es n p q b) (ha' : inP es n p' q' a) (hb' : inP es n p' q' b) (hv : inP es n p q v) : inP es n p' q' v := by
  by_cases e1 : v = p'
  · exact Or.inl e1
  · by_cases e2 : v = q'
    · exact Or.inr (Or.inl e2)
    · by_cases e3 : v = a
      · rw [e3]; exact ha'
      · by_cases e4 : v = b
        · rw [e4]; exact hb'
        · have tab := inP.te hw hs hn hp hq hpq ht ha hb hab
          have tav := inP.te hw hs hn hp hq hpq ht ha hv (fun e => e3 e.symm)
          have tbv := inP.te hw hs hn hp hq hpq ht hb hv (fun e => e4 e.symm)
          have la := ha.lt hp hq
          have lb := hb.lt hp hq
          have lv := hv.lt hp hq
          have go : ∀ w, w < n → w ≠ v → inP es n p' q' w → TE es w v := by
            intro w lw hwv hw'
            by_cases wa : w = a
            · rw [wa]; exact tav
            · by_cases wb : w = b
              · rw [wb]; exact tbv
              · have t1 := inP.te hw hs hn hp' hq' hpq' ht' ha' hw' (fun e => wa e.symm)
                have t2 := inP.te hw hs hn hp' hq' hpq' ht' hb' hw' (fun e => wb e.symm)
                exact te_close hw hs (by omega) (by omega) (by omega) (by omega) hab (fun e => wa e.symm) (fun e => e3 e.symm) tab t1 t2 tav tbv
          exact Or.inr (Or.inr ⟨lv, e1, e2, go p' hp' (fun e => e1 e.symm) (Or.inl rfl), go q' hq' (fun e => e2 e.symm) (Or.inr (Or.inl rfl))⟩)
/-- two parts that share two pins have the same least ones -/
theorem LPr.uniq {es : List (Nat × Nat)} (hw : WL es) (hs : SP es) {n p q p' q' : Nat} (hn : n ≤ 12) (h : LPr es n p q) (h' : LPr es n p' q') {a b : Nat} (hab : a ≠ b) (ha : inP es n p q a) (hb : inP es n p q b) (ha' : inP es n p' q' a) (hb' : inP es n p' q' b) : p = p' ∧ q = q' := by
  obtain ⟨x1, x2, x3, x4⟩ := h
  obtain ⟨y1, y2, y3, y4⟩ := h'
  have s1 : ∀ v, inP es n p q v → inP es n p' q' v := fun v hv => inP.sub hw hs hn (by omega) x2 (by omega) x3 (by omega) y2 (by omega) y3 hab ha hb ha' hb' hv
  have s2 : ∀ v, inP es n p' q' v → inP es n p q v := fun v hv => inP.sub hw hs hn (by omega) y2 (by omega) y3 (by omega) x2 (by omega) x3 hab ha' hb' ha hb hv
  have a1 := s1 p (Or.inl rfl)
  have a2 := s1 q (Or.inr (Or.inl rfl))
  have b1 := s2 p' (Or.inl rfl)
  have b2 := s2 q' (Or.inr (Or.inl rfl))
  have c1 : q' < q → q' = p := fun h => x4 q' h b2
  have c2 : p' < q → p' = p := fun h => x4 p' h b1
  have c3 : q < q' → q = p' := fun h => y4 q h a2
  have c4 : p < q' → p = p' := fun h => y4 p h a1
  omega
/-- a part has a bar -/
theorem LPr.bar {es : List (Nat × Nat)} (hw : WL es) {n p q : Nat} (hn : n ≤ 12) (hes : ∀ e, e ∈ es → e.1 < n ∧ e.2 < n) (h : LPr es n p q) : ∃ e, e ∈ es ∧ inP es n p q e.1 ∧ inP es n p q e.2 := by
  obtain ⟨x1, x2, ⟨X, xp, xq, x3⟩, x4⟩ := h
  have s := sz_two (X := X) (p := p) (q := q) (by omega) (by omega) (by omega) xp xq
  have c : 0 < ic es X := by omega
  obtain ⟨e, he, e1, e2⟩ := ic_pos.mp c
  have go : ∀ v, v < n → X v = true → inP es n p q v := by
    intro v hv xv
    by_cases h1 : v = p
    · exact Or.inl h1
    · by_cases h2 : v = q
      · exact Or.inr (Or.inl h2)
      · exact Or.inr (Or.inr ⟨hv, h1, h2, ⟨X, xp, xv, x3⟩, ⟨X, xq, xv, x3⟩⟩)
  exact ⟨e, he, go _ (hes e he).1 e1, go _ (hes e he).2 e2⟩
/-- the pairs p, q on are still to be found; so many bars are left for them -/
def Left (es : List (Nat × Nat)) (n p q k : Nat) : Prop := ∃ R : List (Nat × Nat), R.length + k ≤ 24 ∧ ∀ p' q', (p < p' ∨ p = p' ∧ q ≤ q') → LPr es n p' q' → ∀ e, e ∈ es → inP es n p' q' e.1 → inP es n p' q' e.2 → e ∈ R
theorem Left.skip {es : List (Nat × Nat)} {n p q k : Nat} (h : Left es n p q k) : Left es n p (q + 1) k := by
  obtain ⟨R, a, b⟩ := h
  exact ⟨R, a, fun p' q' c => b p' q' (by omega)⟩
theorem Left.row {es : List (Nat × Nat)} {n p q k : Nat} (h : Left es n p q k) (hq : n ≤ q) : Left es n (p + 1) (p + 2) k := by
  obtain ⟨R, a, b⟩ := h
  exact ⟨R, a, fun p' q' c => b p' q' (by omega)⟩
theorem filter_lt {l : List (Nat × Nat)} {e : Nat × Nat} {f : Nat × Nat → Bool} (he : e ∈ l) (hf : f e = false) : (l.filter f).length < l.length := by
  have := len_split (fun x => !f x) l
  have c : 0 < l.countP (fun x => !f x) := List.countP_pos_iff.mpr ⟨e, he, by rw [hf]; rfl⟩
  simp only [Bool.not_not] at this
  have eta : (fun e => f e) = f := rfl
  rw [eta] at this
  omega
theorem Left.take {es : List (Nat × Nat)} (hw : WL es) (hs : SP es) {n p q k : Nat} (hn : n ≤ 12) (hes : ∀ e, e ∈ es → e.1 < n ∧ e.2 < n) (h : Left es n p q k) (hl : LPr es n p q) : k < 24 ∧ Left es n p (q + 1) (k + 1) := by
  obtain ⟨R, a, b⟩ := h
  obtain ⟨e, he, e1, e2⟩ := hl.bar hw hn hes
  have m := b p q (by omega) hl e he e1 e2
  have f := filter_lt (f := fun x => !((pm es n p q).testBit x.1 && (pm es n p q).testBit x.2)) m (by rw [pm_in.mpr e1, pm_in.mpr e2]; rfl)
  refine ⟨by omega, R.filter (fun x => !((pm es n p q).testBit x.1 && (pm es n p q).testBit x.2)), by omega, fun p' q' c hl' x hx x1 x2 => ?_⟩
  refine List.mem_filter.mpr ⟨b p' q' (by omega) hl' x hx x1 x2, ?_⟩
  cases h1 : (pm es n p q).testBit x.1
  · rfl
  · cases h2 : (pm es n p q).testBit x.2
    · rfl
    · have := LPr.uniq hw hs hn hl hl' (hw x hx).1 (pm_in.mp h1) (pm_in.mp h2) x1 x2
      omega
