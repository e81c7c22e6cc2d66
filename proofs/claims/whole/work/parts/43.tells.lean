/-! tells -/
theorem sim1 {c m : Int32} (h : simP c m) : c = 1 ↔ m = 1 := by
  rcases h with rfl | h
  · exact Iff.rfl
  · exact ⟨fun e => absurd e (h 1 (by decide)).1, fun e => absurd e (h 1 (by decide)).2⟩
theorem tc_v {a z : Nat} (ha : a < z) (hz : z ≤ 40) (it : Nat → Int32) : FX2_tellsCarrying (nI a) (nI z) it = some (if it a = 1 then 1 else 0) := by
  unfold FX2_tellsCarrying FX2_has
  rw [if_neg (show ¬ nI a < (0 : Int32) from nI_nlt (Nat.zero_le a) (by omega)), if_neg (nI_ge (by omega) (by omega))]
  simp only [Option.bind_some, if_neg (show ¬ (1 : Int32) = 0 by decide)]
  rw [gi (show a < 40 by omega) (by decide), clp (by omega)]
  by_cases h : it a = 1
  · rw [if_pos h, if_pos h]
  · rw [if_neg h, if_neg h]
theorem ow_par {j nb z M : Nat} (hj : j < 4) (hb : nb ≤ 24) (hz : z ≤ 40) (hM : M < 2 ^ 24) {car mZ mI it : Nat → Int32} (hmz : mZ j = nI z) (hc : ∀ i, i < nb → car i = if M.testBit i then 1 else 0) (hi : ∀ i, i < z → simP (it i) (mI (40 * j + i))) (pins rk fd st : Int32) (les gre f qu ca : Nat → Int32) : ∀ (fu a : Nat), a ≤ z → a ≤ nb → nb - a < fu →
    ∃ r, FX6_firstOtherwise_h13 pins (nI nb) les gre (nI z) it fu (nI a) (nI M) rk fd st f qu ca = some (r, nI M, rk, fd, st, f, qu, ca) ∧ FX7_otherwise_h2 (nI j) (nI nb) car mZ mI fu (nI a) = some r := by
  intro fu
  induction fu with
  | zero => intro a _ _ h; omega
  | succ fu ih =>
    intro a haz hab hf
    show ∃ r, FX6_firstOtherwise_b13 pins (nI nb) les gre (nI z) it (FX6_firstOtherwise_h13 pins (nI nb) les gre (nI z) it fu) (nI a) (nI M) rk fd st f qu ca = _ ∧ FX7_otherwise_b2 (nI j) (nI nb) car mZ mI (FX7_otherwise_h2 (nI j) (nI nb) car mZ mI fu) (nI a) = _
    unfold FX6_firstOtherwise_b13 FX7_otherwise_b2 FX7_otherwise_b57 FX7_otherwise_b40
    rw [gi hj (by decide), gi hj (by decide), gi hj (by decide), clp (show j < 2 ^ 31 by omega), hmz]
    by_cases h : z ≤ a
    · have : a = z := by omega
      subst this
      rw [if_pos (nI_le (Nat.le_refl _) (by omega)), if_pos (nI_le (Nat.le_refl _) (by omega))]
      by_cases q : nb ≤ a
      · have : a = nb := by omega
        subst this
        rw [if_pos (nI_le (Nat.le_refl _) (by omega)), if_pos rfl]
        exact ⟨_, rfl, rfl⟩
      · rw [if_neg (nI_ge (by omega) (by omega)), if_neg (fun e => q (by have := (nI_eq (by omega) (by omega)).mp e; omega)), if_neg (nI_nlt (by omega) (by omega))]
        exact ⟨_, rfl, rfl⟩
    · have hza : ¬ nI z ≤ nI a := nI_ge (by omega) (by omega)
      simp only [if_neg hza]
      by_cases q : nb ≤ a
      · have : a = nb := by omega
        subst this
        simp only [if_pos (show nI a ≤ nI a from nI_le (Nat.le_refl _) (by omega))]
        rw [if_neg (fun e => h (by have := (nI_eq (by omega) (by omega)).mp e; omega)), if_pos (nI_lt (by omega) (by omega))]
        exact ⟨_, rfl, rfl⟩
      · have hba : ¬ nI nb ≤ nI a := nI_ge (by omega) (by omega)
        simp only [if_neg hba]
        rw [tc_v (by omega) hz, bitI (by omega) (by omega), mul40, nI_add, gi (show 40 * j + a < 160 by omega) (by decide), gi (show a < 24 by omega) (by decide), gi (show a < 24 by omega) (by decide), clp (show 40 * j + a < 2 ^ 31 by omega), clp (show a < 2 ^ 31 by omega), hc a (by omega), nI_1]
        simp only [Option.bind_some]
        have s := sim1 (hi a (by omega))
        have go := ih (a + 1) (by omega) (by omega) (by omega)
        by_cases x : it a = 1
        · rw [if_pos x, if_pos (s.mp x)]
          cases M.testBit a
          · exact ⟨_, rfl, rfl⟩
          · simpa [show (1 : Int32) = nI 1 from rfl, show nI 0 = (0 : Int32) from rfl] using go
        · rw [if_neg x, if_neg (fun e => x (s.mpr e))]
          cases M.testBit a
          · simpa [show (1 : Int32) = nI 1 from rfl, show nI 0 = (0 : Int32) from rfl] using go
          · exact ⟨_, rfl, rfl⟩
