/-! film -/
theorem film6_h {j nb M : Nat} (hj : j < 4) (hb : nb ≤ 24) (hM : M < 2 ^ 24) (pins rk fd st : Int32) (les gre f qu ca : Nat → Int32) : ∀ (fu a : Nat) (it : Nat → Int32), a ≤ nb → nb - a < fu →
    ∃ it', FX6_film_h40 (nI j) pins (nI nb) les gre fu (nI a) (nI M) rk fd st f qu ca 0 (nI nb) it = some (nI nb, nI M, rk, fd, st, f, qu, ca, 0, nI nb, it') ∧ ∀ k, (k < a → it' k = it k) ∧ (a ≤ k → k < nb → it' k = if M.testBit k then 1 else 0) := by
  intro fu
  induction fu with
  | zero => intro a _ _ h; omega
  | succ fu ih =>
    intro a it ha hf
    show ∃ it', FX6_film_b40 (nI j) pins (nI nb) les gre (FX6_film_h40 (nI j) pins (nI nb) les gre fu) (nI a) (nI M) rk fd st f qu ca 0 (nI nb) it = _ ∧ _
    unfold FX6_film_b40
    by_cases h : nb ≤ a
    · rw [if_pos (nI_le h (by omega))]
      exact ⟨it, rfl, fun k => ⟨fun _ => rfl, fun _ _ => by omega⟩⟩
    · rw [if_neg (nI_ge (by omega) (by omega)), gi hj (by decide), bitI (by omega) (by omega)]
      unfold FX2_write FX2_write_b29 FX2_has
      rw [if_neg (show ¬ nI a < (0 : Int32) from nI_nlt (Nat.zero_le a) (by omega)), if_neg (nI_ge (by omega) (by omega))]
      simp only [Option.bind_some, if_neg (show ¬ (1 : Int32) = 0 by decide), if_true]
      rw [gi (show a < 40 by omega) (by decide), clp (by omega)]
      simp only [Option.bind_some, nI_1]
      have e255 : nI (if M.testBit a then 1 else 0) &&& 255 = if M.testBit a then 1 else 0 := by cases M.testBit a <;> decide
      rw [e255]
      obtain ⟨it', e, hk⟩ := ih (a + 1) (upd it a (if M.testBit a then 1 else 0)) (by omega) (by omega)
      refine ⟨it', e, fun k => ⟨fun h1 => ?_, fun h1 h2 => ?_⟩⟩
      · rw [(hk k).1 (by omega), updN (by omega)]
      · by_cases ek : k = a
        · subst ek; rw [(hk k).1 (by omega), updS]
        · exact (hk k).2 (by omega) h2
theorem film7_h {j nb : Nat} (hj : j < 4) (hb : nb ≤ 24) {g : Nat → Bool} {car : Nat → Int32} (hc : ∀ i, i < nb → car i = if g i then 1 else 0) (low high to : Nat → Int32) (sn rk : Int32) (S Z : Nat → Int32) : ∀ (fu a : Nat) (it : Nat → Int32), a ≤ nb → nb - a < fu →
    ∃ it', FX7_film_h33 (nI j) (nI nb) low high fu (nI a) to car sn rk S Z it = some (nI nb, to, car, sn, rk, S, Z, it') ∧ (∀ i, a ≤ i → i < nb → it' (40 * j + i) = if g i then 1 else 0) ∧ ∀ k, (k < 40 * j + a ∨ 40 * j + nb ≤ k) → it' k = it k := by
  intro fu
  induction fu with
  | zero => intro a _ _ h; omega
  | succ fu ih =>
    intro a it ha hf
    show ∃ it', FX7_film_b33 (nI j) (nI nb) low high (FX7_film_h33 (nI j) (nI nb) low high fu) (nI a) to car sn rk S Z it = _ ∧ _
    unfold FX7_film_b33
    by_cases h : nb ≤ a
    · rw [if_pos (nI_le h (by omega))]
      exact ⟨it, rfl, fun i _ _ => by omega, fun _ _ => rfl⟩
    · rw [if_neg (nI_ge (by omega) (by omega)), gi (show a < 24 by omega) (by decide), clp (by omega), hc a (by omega), mul40, nI_add]
      unfold FX7_film_b65
      rw [gi (show 40 * j + a < 160 by omega) (by decide), gi (show 40 * j + a < 160 by omega) (by decide), clp (by omega), nI_1]
      have go : ∀ x : Int32, x = (if g a then 1 else 0) → ∃ it', FX7_film_h33 (nI j) (nI nb) low high fu (nI (a + 1)) to car sn rk S Z (upd it (40 * j + a) x) = some (nI nb, to, car, sn, rk, S, Z, it') ∧ (∀ i, a ≤ i → i < nb → it' (40 * j + i) = if g i then 1 else 0) ∧ ∀ k, (k < 40 * j + a ∨ 40 * j + nb ≤ k) → it' k = it k := by
        intro x hx
        obtain ⟨it', e, h1, h2⟩ := ih (a + 1) (upd it (40 * j + a) x) (by omega) (by omega)
        refine ⟨it', e, fun i q1 q2 => ?_, fun k hk => ?_⟩
        · by_cases ek : i = a
          · subst ek; rw [h2 _ (by omega), updS, hx]
          · exact h1 i (by omega) q2
        · rw [h2 k (by omega), updN (by omega)]
      cases hg : g a
      · simp only [Bool.false_eq_true, if_false, if_true]
        exact go 0 (by rw [hg]; rfl)
      · simp only [if_true, if_neg (show ¬ (1 : Int32) = 0 by decide)]
        exact go 1 (by rw [hg]; rfl)
