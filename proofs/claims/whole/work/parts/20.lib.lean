/-! small numbers in Int32, gates, rows -/
theorem leR {a n : Nat} (ha : a < 2 ^ 31) (hn : n < 2 ^ 31) : nI a ≤ (OfNat.ofNat n : Int32) ↔ a ≤ n := nI_leI ha hn
theorem leL {a n : Nat} (ha : a < 2 ^ 31) (hn : n < 2 ^ 31) : (OfNat.ofNat n : Int32) ≤ nI a ↔ n ≤ a := nI_leI hn ha
theorem ltR {a n : Nat} (ha : a < 2 ^ 31) (hn : n < 2 ^ 31) : nI a < (OfNat.ofNat n : Int32) ↔ a < n := nI_ltI ha hn
theorem ltL {a n : Nat} (ha : a < 2 ^ 31) (hn : n < 2 ^ 31) : (OfNat.ofNat n : Int32) < nI a ↔ n < a := nI_ltI hn ha
theorem eqR {a n : Nat} (ha : a < 2 ^ 31) (hn : n < 2 ^ 31) : nI a = (OfNat.ofNat n : Int32) ↔ a = n := nI_eq ha hn
theorem nI_nm1 {a : Nat} (ha : a < 2 ^ 31) : ¬ nI a = -1 := by
  intro h
  have := nI_toInt ha
  rw [h] at this
  have h2 : (-1 : Int32).toInt = -1 := by decide
  omega
theorem vin {i N : Nat} (h : i < N) (hN : N < 2 ^ 31) : vp_in (nI i) N := vp_in_nI h hN
theorem gi {α : Type} {i N : Nat} {X : Option α} (h : i < N) (hN : N < 2 ^ 31) : gd (vp_in (nI i) N) X = X := gd_t (vin h hN)
theorem clp {n : Nat} (h : n < 2 ^ 31) : (nI n).toNatClampNeg = n := nI_clamp h
theorem updS {f : Nat → Int32} {k : Nat} {x : Int32} : upd f k x k = x := pk_us
theorem updN {f : Nat → Int32} {k j : Nat} {x : Int32} (h : j ≠ k) : upd f k x j = f j := pk_un h
theorem updE (f : Nat → Int32) (k : Nat) (x : Int32) (j : Nat) : upd f k x j = if j = k then x else f j := rfl
/-- the tests of one number -/
theorem isIn_v (x a b : Int32) : FX7_isIn x a b = some (if x < a then 0 else if b < x then 0 else 1) := by
  unfold FX7_isIn
  split
  · rfl
  · split <;> rfl
theorem isB01 (x a b : Int32) : (if x < a then (0 : Int32) else if b < x then 0 else 1) = 0 ∨ (if x < a then (0 : Int32) else if b < x then 0 else 1) = 1 := by
  split
  · exact Or.inl rfl
  · split
    · exact Or.inl rfl
    · exact Or.inr rfl
/-- x is a number below n, or it is none -/
theorem cases_lt (x : Int32) {n : Nat} (hn : n < 2 ^ 31) : (∃ j : Nat, j < n ∧ x = nI j) ∨ (∀ j : Nat, j < n → ¬ x = nI j) := by
  by_cases h : ∃ j : Nat, j < n ∧ x = nI j
  · exact Or.inl h
  · exact Or.inr (fun j hj e => h ⟨j, hj, e⟩)
theorem isPin6_t {j n : Nat} (hj : j < n) (hn : n < 2 ^ 31) : FX6_isPin (nI j) (nI n) = some 1 := by
  unfold FX6_isPin
  rw [if_neg (nI_pos (by omega)), if_neg (nI_ge hj hn)]
theorem isPin6_f {x : Int32} {n : Nat} (hn : n < 2 ^ 31) (h : ∀ j : Nat, j < n → ¬ x = nI j) : FX6_isPin x (nI n) = some 0 := by
  unfold FX6_isPin
  by_cases h0 : x < 0
  · rw [if_pos h0]
  · rw [if_neg h0]
    obtain ⟨j, hj, rfl⟩ := nI_of h0
    by_cases h1 : n ≤ j
    · rw [if_pos (nI_le h1 hj)]
    · exact absurd rfl (h j (by omega))
theorem sub1I {n : Nat} (hn : 0 < n) : nI n - 1 = nI (n - 1) := by
  have := nI_pred (n - 1)
  rwa [show n - 1 + 1 = n by omega] at this
theorem isPin7_t {j n : Nat} (hj : j < n) (hn : n < 2 ^ 31) : FX7_isPin (nI j) (nI n) = some 1 := by
  unfold FX7_isPin
  rw [isIn_v, sub1I (by omega), if_neg (nI_pos (by omega)), if_neg (nI_nlt (by omega) (by omega))]
  show gd ((1 : Int32) = 0 ∨ (1 : Int32) = 1) (some 1) = some 1
  exact gd_t (Or.inr rfl)
theorem isPin7_f {x : Int32} {n : Nat} (hn : n < 2 ^ 31) (h : ∀ j : Nat, j < n → ¬ x = nI j) : FX7_isPin x (nI n) = some 0 := by
  unfold FX7_isPin
  rw [isIn_v]
  have e : (if x < 0 then (0 : Int32) else if nI n - 1 < x then 0 else 1) = 0 := by
    by_cases h0 : x < 0
    · rw [if_pos h0]
    · rw [if_neg h0]
      obtain ⟨j, hj, rfl⟩ := nI_of h0
      by_cases h1 : n ≤ j
      · rw [if_pos]
        rw [Int32.lt_iff_toInt_lt, nI_toInt hj]
        have : (nI n - 1 : Int32).toInt = (n : Int) - 1 := by
          rcases Nat.eq_zero_or_pos n with rfl | hp
          · decide
          · rw [sub1I hp, nI_toInt (by omega)]; omega
        omega
      · exact absurd rfl (h j (by omega))
  rw [e]
  show gd ((0 : Int32) = 0 ∨ (0 : Int32) = 1) (some 0) = some 0
  exact gd_t (Or.inl rfl)
/-- two unlike pins, or not: both sides say the same -/
theorem two_cases (p q : Int32) {n : Nat} (hn : n < 2 ^ 31) : (FX6_areUnlikePins p q (nI n) = some 0 ∧ FX7_areTwo p q (nI n) = some 0) ∨ (∃ i j : Nat, i < n ∧ j < n ∧ i ≠ j ∧ p = nI i ∧ q = nI j ∧ FX6_areUnlikePins p q (nI n) = some 1 ∧ FX7_areTwo p q (nI n) = some 1) := by
  unfold FX6_areUnlikePins FX7_areTwo
  rcases cases_lt p hn with ⟨i, hi, rfl⟩ | hp
  · rw [isPin6_t hi hn, isPin7_t hi hn]
    rcases cases_lt q hn with ⟨j, hj, rfl⟩ | hq
    · rw [isPin6_t hj hn, isPin7_t hj hn]
      by_cases hij : i = j
      · subst hij
        exact Or.inl ⟨rfl.trans (by simp), by simp⟩
      · refine Or.inr ⟨i, j, hi, hj, hij, rfl, rfl, ?_, ?_⟩ <;> simp [nI_eq (show i < 2 ^ 31 by omega) (show j < 2 ^ 31 by omega), hij]
    · rw [isPin6_f hn hq, isPin7_f hn hq]
      exact Or.inl ⟨by simp, by simp⟩
  · rw [isPin6_f hn hp, isPin7_f hn hp]
    exact Or.inl ⟨by simp, by simp⟩
/-- the place of a bar: both sides find the same -/
theorem place_h (p q : Int32) {nb : Nat} (hb : nb ≤ 24) {les gre low high : Nat → Int32} (hl : ∀ b, b < nb → low b = les b ∧ high b = gre b) : ∀ (f i : Nat), i ≤ nb → nb - i < f → ∃ r, FX0_placeOf_h16 p q (nI nb) les gre f (if q < p then q else p) (if p < q then q else p) (nI i) = some r ∧ FX7_placeOf_h2 p q (nI nb) low high f (nI i) = some r ∧ ((r = -1 ∧ ∀ b, i ≤ b → b < nb → ¬ (les b = (if q < p then q else p) ∧ gre b = (if p < q then q else p))) ∨ ∃ b, i ≤ b ∧ b < nb ∧ r = nI b ∧ les b = (if q < p then q else p) ∧ gre b = (if p < q then q else p)) := by
  intro f
  induction f with
  | zero => intro i _ h; omega
  | succ f ih =>
    intro i hi hf
    show ∃ r, FX0_placeOf_b16 p q (nI nb) les gre (FX0_placeOf_h16 p q (nI nb) les gre f) _ _ (nI i) = some r ∧ FX7_placeOf_b2 p q (nI nb) low high (FX7_placeOf_h2 p q (nI nb) low high f) (nI i) = some r ∧ _
    unfold FX0_placeOf_b16 FX7_placeOf_b2 FX0_placeOf_b51 FX7_placeOf_b40
    by_cases h : nb ≤ i
    · rw [if_pos (nI_le h (by omega)), if_pos (nI_le h (by omega))]
      exact ⟨-1, rfl, rfl, Or.inl ⟨rfl, fun b h1 h2 => by omega⟩⟩
    · have hlt : i < nb := by omega
      rw [if_neg (nI_ge hlt (by omega)), if_neg (nI_ge hlt (by omega)), gi (by omega) (by decide), gi (by omega) (by decide), gi (by omega) (by decide), gi (by omega) (by decide), clp (by omega), (hl i hlt).1, (hl i hlt).2, nI_1]
      by_cases h1 : les i = (if q < p then q else p)
      · rw [if_pos h1, if_pos h1]
        by_cases h2 : gre i = (if p < q then q else p)
        · rw [if_pos h2, if_pos h2]
          exact ⟨nI i, rfl, rfl, Or.inr ⟨i, Nat.le_refl _, hlt, rfl, h1, h2⟩⟩
        · rw [if_neg h2, if_neg h2]
          obtain ⟨r, a1, a2, a3⟩ := ih (i + 1) hlt (by omega)
          refine ⟨r, a1, a2, ?_⟩
          rcases a3 with ⟨e, a3⟩ | ⟨b, b1, b2, b3⟩
          · refine Or.inl ⟨e, fun b c1 c2 c3 => ?_⟩
            rcases Nat.eq_or_lt_of_le c1 with rfl | c1
            · exact h2 c3.2
            · exact a3 b c1 c2 c3
          · exact Or.inr ⟨b, by omega, b2, b3⟩
      · rw [if_neg h1, if_neg h1]
        obtain ⟨r, a1, a2, a3⟩ := ih (i + 1) hlt (by omega)
        refine ⟨r, a1, a2, ?_⟩
        rcases a3 with ⟨e, a3⟩ | ⟨b, b1, b2, b3⟩
        · refine Or.inl ⟨e, fun b c1 c2 c3 => ?_⟩
          rcases Nat.eq_or_lt_of_le c1 with rfl | c1
          · exact h1 c3.1
          · exact a3 b c1 c2 c3
        · exact Or.inr ⟨b, by omega, b2, b3⟩
theorem place (p q : Int32) {nb : Nat} (hb : nb ≤ 24) {les gre low high : Nat → Int32} (hl : ∀ b, b < nb → low b = les b ∧ high b = gre b) : ∃ r, FX0_placeOf p q (nI nb) les gre = some r ∧ FX7_placeOf p q (nI nb) low high = some r ∧ ((r = -1 ∧ ∀ b, b < nb → ¬ (les b = (if q < p then q else p) ∧ gre b = (if p < q then q else p))) ∨ ∃ b, b < nb ∧ r = nI b ∧ les b = (if q < p then q else p) ∧ gre b = (if p < q then q else p)) := by
  obtain ⟨r, a1, a2, a3⟩ := place_h p q hb hl 5000 0 (Nat.zero_le _) (by omega)
  refine ⟨r, a1, a2, ?_⟩
  rcases a3 with ⟨e, a3⟩ | ⟨b, _, b2, b3⟩
  · exact Or.inl ⟨e, fun b h => a3 b (Nat.zero_le _) h⟩
  · exact Or.inr ⟨b, b2, b3⟩
/-- what FrR gives at once -/
theorem FrR.eqs {n nb : Nat} {pins bars : Int32} {names lesser greater : Nat → Int32} {mpins mbars : Int32} {mname mlow mhigh : Nat → Int32} (h : FrR n nb pins bars names lesser greater mpins mbars mname mlow mhigh) : ∀ b, b < nb → mlow b = lesser b ∧ mhigh b = greater b := by
  intro b hb
  obtain ⟨p, q, _, _, e1, e2, e3, e4⟩ := h.2.2.2.2.2.2.1 b hb
  exact ⟨by rw [e3, e1], by rw [e4, e2]⟩
