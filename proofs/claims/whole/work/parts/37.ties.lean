/-! which pins are tied, as both sides write it down -/
theorem TE.symm {es : List (Nat × Nat)} {p q : Nat} (h : TE es p q) : TE es q p := by
  obtain ⟨X, a, b, c⟩ := h
  exact ⟨X, b, a, c⟩
theorem tb_symm (es : List (Nat × Nat)) (p q : Nat) : tb es p q = tb es q p := by
  cases h : tb es q p
  · rw [tb_f] at h ⊢; exact fun t => h t.symm
  · rw [tb_t] at h ⊢; exact h.symm
/-- the pairs gone through, ahead of p, q -/
def Pr (n p q v w : Nat) : Prop := (v < w ∧ w < n ∧ (v < p ∨ v = p ∧ w < q)) ∨ (w < v ∧ v < n ∧ (w < p ∨ w = p ∧ v < q))
def TI (es : List (Nat × Nat)) (n p q : Nat) (t : Nat → Int32) : Prop := ∀ v, v < n → ∃ m : Nat, m < 4096 ∧ t v = nI m ∧ ∀ w, m.testBit w = true ↔ Pr n p q v w ∧ tb es v w = true
theorem TI.no {es : List (Nat × Nat)} {n p q : Nat} {t : Nat → Int32} (h : TI es n p q t) (hb : tb es p q = false) : TI es n p (q + 1) t := by
  intro v hv
  obtain ⟨m, a, b, c⟩ := h v hv
  refine ⟨m, a, b, fun w => ?_⟩
  rw [c w]
  constructor
  · rintro ⟨x, y⟩
    refine ⟨?_, y⟩
    unfold Pr at x ⊢
    omega
  · rintro ⟨x, y⟩
    refine ⟨?_, y⟩
    have n1 : ¬ (v = p ∧ w = q) := fun ⟨e1, e2⟩ => by subst e1 e2; rw [hb] at y; cases y
    have n2 : ¬ (w = p ∧ v = q) := fun ⟨e1, e2⟩ => by subst e1 e2; rw [tb_symm, hb] at y; cases y
    unfold Pr at x ⊢
    omega
theorem TI.yes {es : List (Nat × Nat)} {n p q : Nat} {t : Nat → Int32} (hn : n ≤ 12) (hpq : p < q) (hq : q < n) (h : TI es n p q t) (hb : tb es p q = true) : TI es n p (q + 1) (upd (upd t p (t p ||| ((1 : Int32) <<< (nI q &&& 31)))) q (((upd t p (t p ||| ((1 : Int32) <<< (nI q &&& 31)))) q) ||| ((1 : Int32) <<< (nI p &&& 31)))) := by
  have pw : ∀ k, k < 12 → 2 ^ k < 2 ^ 12 := fun k hk => Nat.pow_lt_pow_right (by decide) hk
  have big : (2 : Nat) ^ 12 < 2 ^ 31 := by decide
  rw [updN (show q ≠ p by omega), shl1 (by omega), shl1 (by omega)]
  intro v hv
  obtain ⟨m, a, b, c⟩ := h v hv
  by_cases e1 : v = q
  · subst e1
    rw [updS]
    refine ⟨m ||| 2 ^ p, Nat.or_lt_two_pow (n := 12) a (pw p (by omega)), by rw [b, orI (by omega) (Nat.lt_trans (pw p (by omega)) big)], fun w => ?_⟩
    rw [tb_or, Bool.or_eq_true, c w, decide_eq_true_eq]
    constructor
    · rintro (⟨x, y⟩ | rfl)
      · exact ⟨by unfold Pr at x ⊢; omega, y⟩
      · exact ⟨by unfold Pr; omega, by rw [tb_symm]; exact hb⟩
    · rintro ⟨x, y⟩
      by_cases e : p = w
      · exact Or.inr e
      · exact Or.inl ⟨by unfold Pr at x ⊢; omega, y⟩
  · rw [updN e1]
    by_cases e2 : v = p
    · subst e2
      rw [updS]
      refine ⟨m ||| 2 ^ q, Nat.or_lt_two_pow (n := 12) a (pw q (by omega)), by rw [b, orI (by omega) (Nat.lt_trans (pw q (by omega)) big)], fun w => ?_⟩
      rw [tb_or, Bool.or_eq_true, c w, decide_eq_true_eq]
      constructor
      · rintro (⟨x, y⟩ | rfl)
        · exact ⟨by unfold Pr at x ⊢; omega, y⟩
        · exact ⟨by unfold Pr; omega, hb⟩
      · rintro ⟨x, y⟩
        by_cases e : q = w
        · exact Or.inr e
        · exact Or.inl ⟨by unfold Pr at x ⊢; omega, y⟩
    · rw [updN e2]
      refine ⟨m, a, b, fun w => ?_⟩
      rw [c w]
      constructor
      · rintro ⟨x, y⟩; exact ⟨by unfold Pr at x ⊢; omega, y⟩
      · rintro ⟨x, y⟩; exact ⟨by unfold Pr at x ⊢; omega, y⟩
theorem TI.row {es : List (Nat × Nat)} {n p : Nat} {t : Nat → Int32} {q : Nat} (hq : n ≤ q) (h : TI es n p q t) : TI es n (p + 1) (p + 2) t := by
  intro v hv
  obtain ⟨m, a, b, c⟩ := h v hv
  refine ⟨m, a, b, fun w => ?_⟩
  rw [c w]
  constructor
  · rintro ⟨x, y⟩; exact ⟨by unfold Pr at x ⊢; omega, y⟩
  · rintro ⟨x, y⟩; exact ⟨by unfold Pr at x ⊢; omega, y⟩
/-- all ties -/
def TT (es : List (Nat × Nat)) (n : Nat) (t : Nat → Int32) : Prop := ∀ v, v < n → ∃ m : Nat, m < 4096 ∧ t v = nI m ∧ ∀ w, m.testBit w = true ↔ (w < n ∧ w ≠ v ∧ tb es v w = true)
theorem TI.all {es : List (Nat × Nat)} {n p q : Nat} {t : Nat → Int32} (hp : n ≤ p) (h : TI es n p q t) : TT es n t := by
  intro v hv
  obtain ⟨m, a, b, c⟩ := h v hv
  refine ⟨m, a, b, fun w => ?_⟩
  rw [c w]
  constructor
  · rintro ⟨x, y⟩; unfold Pr at x; exact ⟨by omega, by omega, y⟩
  · rintro ⟨x, z, y⟩; exact ⟨by unfold Pr; omega, y⟩
/-- the class -/
theorem ft31 {n : Nat} (hn : n ≤ 12) {es : List (Nat × Nat)} {p : Nat} (hp : p < n) {k22 : Int32 → (Nat → Int32) → (Nat → Int32) → (Nat → Int32) → (Nat → Int32) → Option ((Nat → Int32) × (Nat → Int32) × (Nat → Int32) × (Nat → Int32))}
    (hk : ∀ t f qu ca, TI es n (p + 1) (p + 2) t → Lay f es → ∃ t' f' qu' ca', k22 (nI (p + 1)) t f qu ca = some (t', f', qu', ca') ∧ TT es n t' ∧ Lay f' es) :
    ∀ (fu q : Nat) (t f qu ca : Nat → Int32), p < q → q ≤ n → n - q < fu → TI es n p q t → Lay f es → ∃ t' f' qu' ca', FX3_findTies_h31 (nI n) k22 fu (nI p) (nI q) t f qu ca = some (t', f', qu', ca') ∧ TT es n t' ∧ Lay f' es := by
  intro fu
  induction fu with
  | zero => intro q _ _ _ _ _ _ h; omega
  | succ fu ih =>
    intro q t f qu ca hpq hq hf hT hL
    show ∃ t' f' qu' ca', FX3_findTies_b31 (nI n) k22 (FX3_findTies_h31 (nI n) k22 fu) (nI p) (nI q) t f qu ca = _ ∧ _
    unfold FX3_findTies_b31 FX3_findTies_b72
    by_cases h : n ≤ q
    · rw [if_pos (nI_le h (by omega)), nI_1]
      exact hk t f qu ca (hT.row h) hL
    · rw [if_neg (nI_ge (by omega) (by omega))]
      obtain ⟨f1, qu1, ca1, e1, l1, _⟩ := cL6 hL (p := p) (q := q) (by omega) (by omega) (by omega) qu ca
      rw [e1]
      simp only [Option.bind_some]
      rw [gi (show p < 12 by omega) (by decide), gi (show p < 12 by omega) (by decide), gi (show q < 12 by omega) (by decide), gi (show q < 12 by omega) (by decide), clp (show p < 2 ^ 31 by omega), clp (show q < 2 ^ 31 by omega), nI_1]
      cases hb : tb es p q
      · simp only [Bool.false_eq_true, if_false, if_neg (show ¬ (1 : Int32) = 0 by decide)]
        exact ih (q + 1) t f1 qu1 ca1 (by omega) (by omega) (by omega) (hT.no hb) l1
      · rw [if_pos rfl, if_pos rfl]
        exact ih (q + 1) _ f1 qu1 ca1 (by omega) (by omega) (by omega) (TI.yes hn hpq (by omega) hT hb) l1
theorem ft22 {n : Nat} (hn : n ≤ 12) {es : List (Nat × Nat)} : ∀ (fu p : Nat) (t f qu ca : Nat → Int32), p ≤ n → n - p < fu → TI es n p (p + 1) t → Lay f es → ∃ t' f' qu' ca', FX3_findTies_h22 (nI n) fu (nI p) t f qu ca = some (t', f', qu', ca') ∧ TT es n t' ∧ Lay f' es := by
  intro fu
  induction fu with
  | zero => intro p _ _ _ _ _ h; omega
  | succ fu ih =>
    intro p t f qu ca hp hf hT hL
    show ∃ t' f' qu' ca', FX3_findTies_b22 (nI n) (FX3_findTies_h22 (nI n) fu) (nI p) t f qu ca = _ ∧ _
    unfold FX3_findTies_b22
    by_cases h : n ≤ p
    · rw [if_pos (nI_le h (by omega))]
      exact ⟨t, f, qu, ca, rfl, hT.all h, hL⟩
    · rw [if_neg (nI_ge (by omega) (by omega)), nI_1]
      exact ft31 hn (by omega) (fun t f qu ca hT2 hL2 => ih (p + 1) t f qu ca (by omega) (by omega) hT2 hL2) 5000 (p + 1) t f qu ca (by omega) (by omega) (by omega) hT hL
theorem ft2 {n : Nat} (hn : n ≤ 12) {es : List (Nat × Nat)} : ∀ (fu i : Nat) (t f qu ca : Nat → Int32), i ≤ n → n - i < fu → (∀ v, v < i → t v = 0) → Lay f es → ∃ t' f' qu' ca', FX3_findTies_h2 (nI n) fu (nI i) t f qu ca = some (t', f', qu', ca') ∧ TT es n t' ∧ Lay f' es := by
  intro fu
  induction fu with
  | zero => intro i _ _ _ _ _ h; omega
  | succ fu ih =>
    intro i t f qu ca hi hf h0 hL
    show ∃ t' f' qu' ca', FX3_findTies_b2 (nI n) (FX3_findTies_h2 (nI n) fu) (nI i) t f qu ca = _ ∧ _
    unfold FX3_findTies_b2
    by_cases h : n ≤ i
    · rw [if_pos (nI_le h (by omega))]
      refine ft22 hn 5000 0 t f qu ca (Nat.zero_le _) (by omega) (fun v hv => ⟨0, by decide, h0 v (by omega), fun w => ?_⟩) hL
      simp
      intro x
      unfold Pr at x
      omega
    · rw [if_neg (nI_ge (by omega) (by omega)), gi (by omega) (by decide), clp (by omega), nI_1]
      refine ih (i + 1) _ f qu ca (by omega) (by omega) (fun v hv => ?_) hL
      by_cases e : v = i
      · subst e; exact updS
      · rw [updN e]; exact h0 v (by omega)
theorem findTies_v {n : Nat} (hn : n ≤ 12) {es : List (Nat × Nat)} (t : Nat → Int32) {f : Nat → Int32} (hL : Lay f es) (qu ca : Nat → Int32) : ∃ t' f' qu' ca', FX3_findTies (nI n) t f qu ca = some (t', f', qu', ca') ∧ TT es n t' ∧ Lay f' es :=
  ft2 hn 5000 0 t f qu ca (Nat.zero_le _) (by omega) (fun v h => by omega) hL
