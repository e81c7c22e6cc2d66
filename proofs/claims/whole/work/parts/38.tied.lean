/-! the reference's ties -/
theorem mt41 {n : Nat} (hn : n ≤ 12) {es : List (Nat × Nat)} {p : Nat} (hp : p < n) (nb : Int32) (low high car : Nat → Int32) (rk : Int32) {k29 : Int32 → (Nat → Int32) → (Nat → Int32) → Int32 → Int32 → (Nat → Int32) → Option ((Nat → Int32) × (Nat → Int32) × Int32 × Int32 × (Nat → Int32))}
    (hk : ∀ t f sn, TI es n (p + 1) (p + 2) t → Lay f es → ∃ t' f' sn', k29 (nI (p + 1)) f car sn rk t = some (f', car, sn', rk, t') ∧ TT es n t' ∧ Lay f' es) :
    ∀ (fu q : Nat) (t f : Nat → Int32) (sn : Int32), p < q → q ≤ n → n - q < fu → TI es n p q t → Lay f es → ∃ t' f' sn', FX7_ties_h41 (nI n) nb low high k29 fu (nI p) (nI q) f car sn rk t = some (f', car, sn', rk, t') ∧ TT es n t' ∧ Lay f' es := by
  intro fu
  induction fu with
  | zero => intro q _ _ _ _ _ h; omega
  | succ fu ih =>
    intro q t f sn hpq hq hf hT hL
    show ∃ t' f' sn', FX7_ties_b41 (nI n) nb low high k29 (FX7_ties_h41 (nI n) nb low high k29 fu) (nI p) (nI q) f car sn rk t = _ ∧ _
    unfold FX7_ties_b41 FX7_ties_b85
    by_cases h : n ≤ q
    · rw [if_pos (nI_le h (by omega)), nI_1]
      exact hk t f sn (hT.row h) hL
    · rw [if_neg (nI_ge (by omega) (by omega))]
      obtain ⟨f1, sn1, e1, l1, _⟩ := bL7 hL (p := p) (q := q) (by omega) (by omega) (by omega) sn
      rw [e1]
      simp only [Option.bind_some]
      rw [gi (show p < 12 by omega) (by decide), gi (show p < 12 by omega) (by decide), gi (show q < 12 by omega) (by decide), gi (show q < 12 by omega) (by decide), clp (show p < 2 ^ 31 by omega), clp (show q < 2 ^ 31 by omega), nI_1]
      cases hb : tb es p q
      · simp only [Bool.false_eq_true, if_false, if_neg (show ¬ (1 : Int32) = 0 by decide)]
        exact ih (q + 1) t f1 sn1 (by omega) (by omega) (by omega) (hT.no hb) l1
      · rw [if_pos rfl, if_pos rfl]
        exact ih (q + 1) _ f1 sn1 (by omega) (by omega) (by omega) (TI.yes hn hpq (by omega) hT hb) l1
theorem mt29 {n : Nat} (hn : n ≤ 12) {es : List (Nat × Nat)} (nb : Int32) (low high car : Nat → Int32) (rk : Int32) : ∀ (fu p : Nat) (t f : Nat → Int32) (sn : Int32), p ≤ n → n - p < fu → TI es n p (p + 1) t → Lay f es → ∃ t' f' sn', FX7_ties_h29 (nI n) nb low high fu (nI p) f car sn rk t = some (f', car, sn', rk, t') ∧ TT es n t' ∧ Lay f' es := by
  intro fu
  induction fu with
  | zero => intro p _ _ _ _ h; omega
  | succ fu ih =>
    intro p t f sn hp hf hT hL
    show ∃ t' f' sn', FX7_ties_b29 (nI n) nb low high (FX7_ties_h29 (nI n) nb low high fu) (nI p) f car sn rk t = _ ∧ _
    unfold FX7_ties_b29
    by_cases h : n ≤ p
    · rw [if_pos (nI_le h (by omega))]
      exact ⟨t, f, sn, rfl, hT.all h, hL⟩
    · rw [if_neg (nI_ge (by omega) (by omega)), nI_1]
      exact mt41 hn (by omega) nb low high car rk (fun t f sn hT2 hL2 => ih (p + 1) t f sn (by omega) (by omega) hT2 hL2) 5000 (p + 1) t f sn (by omega) (by omega) (by omega) hT hL
theorem mt6 {n : Nat} (hn : n ≤ 12) {es : List (Nat × Nat)} (nb : Int32) (low high car : Nat → Int32) (rk : Int32) : ∀ (fu i : Nat) (t f : Nat → Int32) (sn : Int32), i ≤ n → n - i < fu → (∀ v, v < i → t v = 0) → Lay f es → ∃ t' f' sn', FX7_ties_h6 (nI n) nb low high fu (nI i) f car sn rk t = some (f', car, sn', rk, t') ∧ TT es n t' ∧ Lay f' es := by
  intro fu
  induction fu with
  | zero => intro i _ _ _ _ h; omega
  | succ fu ih =>
    intro i t f sn hi hf h0 hL
    show ∃ t' f' sn', FX7_ties_b6 (nI n) nb low high (FX7_ties_h6 (nI n) nb low high fu) (nI i) f car sn rk t = _ ∧ _
    unfold FX7_ties_b6
    by_cases h : n ≤ i
    · rw [if_pos (nI_le h (by omega))]
      refine mt29 hn nb low high car rk 5000 0 t f sn (Nat.zero_le _) (by omega) (fun v hv => ⟨0, by decide, h0 v (by omega), fun w => ?_⟩) hL
      simp
      intro x
      unfold Pr at x
      omega
    · rw [if_neg (nI_ge (by omega) (by omega)), gi (by omega) (by decide), clp (by omega), nI_1]
      refine ih (i + 1) _ f sn (by omega) (by omega) (fun v hv => ?_) hL
      by_cases e : v = i
      · subst e; exact updS
      · rw [updN e]; exact h0 v (by omega)
theorem ties_v {n nb : Nat} {br : Nat → Nat × Nat} {low high : Nat → Int32} (hB : Br n nb br low high) (f car : Nat → Int32) (sn rk : Int32) (t : Nat → Int32) : ∃ t' f' car' sn', FX7_ties (nI n) (nI nb) low high f car sn rk t = some (f', car', sn', nI (GE br nb).length, t') ∧ TT (GE br nb) n t' ∧ Lay f' (GE br nb) ∧ ∀ i, i < nb → car' i = if gb br i then 1 else 0 := by
  unfold FX7_ties
  obtain ⟨f1, car1, sn1, e1, l1, hc⟩ := call_v hB f car sn rk
  rw [e1]
  simp only [Option.bind_some]
  have h12 := hB.1
  obtain ⟨t', f', sn', e, a, b⟩ := mt6 h12 (nI nb) low high car1 (nI (GE br nb).length) 5000 0 t f1 sn1 (Nat.zero_le _) (by omega) (fun v h => by omega) l1
  exact ⟨t', f', car1, sn', e, a, b, hc⟩
theorem tied_core (p q : Int32) {n nb : Nat} {pins bars : Int32} {names les gre : Nat → Int32} {mpins mbars : Int32} {mname mlow mhigh : Nat → Int32} (h : FrR n nb pins bars names les gre mpins mbars mname mlow mhigh) (a b c d : Int32) (f qu ca g car : Nat → Int32) (sn rk : Int32) (t : Nat → Int32) :
    ∃ (u : Int32 × Int32 × Int32 × Int32 × Int32 × (Nat → Int32) × (Nat → Int32) × (Nat → Int32)) (v : Int32 × (Nat → Int32) × (Nat → Int32) × Int32 × Int32 × (Nat → Int32)), FX6_tied p q pins bars les gre a b c d f qu ca = some u ∧ FX7_tied p q mpins mbars mlow mhigh g car sn rk t = some v ∧ u.1 = v.1 := by
  obtain ⟨br, hB6, hB7, _⟩ := h.br
  obtain ⟨h1, h2, rfl, rfl, rfl, rfl, h7, h8, h9⟩ := h
  unfold FX6_tied FX7_tied
  rcases two_cases p q (n := n) (by omega) with ⟨e1, e2⟩ | ⟨i, j, hi, hj, hij, rfl, rfl, e1, e2⟩
  · rw [e1, e2]
    exact ⟨_, _, rfl, rfl, rfl⟩
  · rw [e1, e2]
    simp only [Option.bind_some, if_neg (show ¬ (1 : Int32) = 0 by decide)]
    obtain ⟨f1, qu1, ca1, s1, l1⟩ := settle_v hB6 a b c d f qu ca
    obtain ⟨t1, g1, car1, sn1, s2, hT, l2, _⟩ := ties_v hB7 g car sn rk t
    rw [s1, s2]
    simp only [Option.bind_some]
    unfold FX3_isTied
    obtain ⟨f2, qu2, ca2, e3, _, _⟩ := cL6 l1 (p := i) (q := j) (by omega) (by omega) hij qu1 ca1
    obtain ⟨m, hm, e4, e5⟩ := hT i hi
    have hb := e5 j
    rw [gi (show i < 12 by omega) (by decide), clp (show i < 2 ^ 31 by omega), e3, e4, bitI (by omega) (by omega)]
    simp only [Option.bind_some]
    cases ht : tb (GE br nb) i j
    · have : m.testBit j = false := by
        cases hx : m.testBit j
        · rfl
        · have := (hb.mp hx).2.2; rw [ht] at this; cases this
      rw [this]
      exact ⟨_, _, rfl, rfl, rfl⟩
    · have : m.testBit j = true := hb.mpr ⟨hj, fun e => hij e.symm, ht⟩
      rw [this]
      exact ⟨_, _, rfl, rfl, rfl⟩
