/-! part, told -/
theorem part_core (p1 : Int32) {n nb : Nat} {pins bars : Int32} {names les gre : Nat → Int32} {mpins mbars : Int32} {mname mlow mhigh : Nat → Int32} (hF : FrR n nb pins bars names les gre mpins mbars mname mlow mhigh) (t6 P6 : Nat → Int32) (c6 a b c d : Int32) (f qu ca g car : Nat → Int32) (sn rk : Int32) (t7 P7 : Nat → Int32) (c7 : Int32) :
    ∃ (u : Int32 × (Nat → Int32) × (Nat → Int32) × Int32 × Int32 × Int32 × Int32 × Int32 × (Nat → Int32) × (Nat → Int32) × (Nat → Int32)) (v : Int32 × (Nat → Int32) × (Nat → Int32) × Int32 × Int32 × (Nat → Int32) × (Nat → Int32) × Int32), FX6_part p1 pins bars les gre t6 P6 c6 a b c d f qu ca = some u ∧ FX7_part p1 mpins mbars mlow mhigh g car sn rk t7 P7 c7 = some v ∧ u.1 = v.1 := by
  obtain ⟨br, hB6, hB7, _⟩ := hF.br
  obtain ⟨h1, h2, rfl, rfl, rfl, rfl, h7, h8, h9⟩ := hF
  unfold FX6_part FX7_part
  obtain ⟨f1, qu1, ca1, s1, l1⟩ := settle_v hB6 a b c d f qu ca
  rw [s1]
  simp only [Option.bind_some]
  obtain ⟨t6', P6', f', qu', ca', to', car', sn', rk', t7', P7', k, hk, e6, e7, _, _, hP⟩ := parts_v hB6 hB7 t6 P6 c6 l1 qu1 ca1 g car sn rk t7 P7 c7
  rw [e6, e7]
  simp only [Option.bind_some]
  rcases cases_lt p1 (n := k) (by omega) with ⟨i, hi, rfl⟩ | hn
  · rw [isInP_t hi (by omega), if_neg (show ¬ nI i < (0 : Int32) from nI_nlt (Nat.zero_le i) (by omega)), if_pos (nI_lt hi (by omega))]
    simp only [Option.bind_some, if_neg (show ¬ (1 : Int32) = 0 by decide)]
    rw [gi (show i < 24 by omega) (by decide), gi (show i < 144 by omega) (by decide), clp (show i < 2 ^ 31 by omega), (hP i hi).1]
    exact ⟨_, _, rfl, rfl, rfl⟩
  · rw [isInP_f (by omega) hn]
    by_cases x : p1 < 0
    · rw [if_pos x]
      exact ⟨_, _, rfl, rfl, rfl⟩
    · obtain ⟨j, hj, rfl⟩ := nI_of x
      have hkj : k ≤ j := by
        by_cases c : k ≤ j
        · exact c
        · exact absurd rfl (hn j (by omega))
      rw [if_neg x, if_neg (nI_nlt hkj (by omega))]
      exact ⟨_, _, rfl, rfl, rfl⟩
theorem pof_par {k : Nat} (hk : k ≤ 24) (p : Nat) {P6 P7 : Nat → Int32} (hP : ∀ i, i < k → P6 i = P7 i ∧ ∃ m : Nat, m < 2 ^ 12 ∧ P6 i = nI m) (pins nb : Int32) (low high to car : Nat → Int32) (sn rk : Int32) (t7 : Nat → Int32) : ∀ (fu a : Nat) (l : Int32), a ≤ k → k - a < fu → ∃ r, FX3_countPartsOf_h4 (nI p) P6 (nI k) fu l (nI a) = some r ∧ FX7_partsOf_h8 (nI p) pins nb low high fu l (nI a) to car sn rk t7 P7 (nI k) = some (r, to, car, sn, rk, t7, P7, nI k) := by
  intro fu
  induction fu with
  | zero => intro a _ _ h; omega
  | succ fu ih =>
    intro a l ha hf
    show ∃ r, FX3_countPartsOf_b4 (nI p) P6 (nI k) (FX3_countPartsOf_h4 (nI p) P6 (nI k) fu) l (nI a) = some r ∧ FX7_partsOf_b8 (nI p) pins nb low high (FX7_partsOf_h8 (nI p) pins nb low high fu) l (nI a) to car sn rk t7 P7 (nI k) = _
    unfold FX3_countPartsOf_b4 FX7_partsOf_b8
    by_cases h : k ≤ a
    · rw [if_pos (nI_le h (by omega)), if_pos (nI_le h (by omega))]
      exact ⟨_, rfl, rfl⟩
    · rw [if_neg (nI_ge (by omega) (by omega)), if_neg (nI_ge (by omega) (by omega)), gi (show a < 24 by omega) (by decide), gi (show a < 144 by omega) (by decide), clp (show a < 2 ^ 31 by omega), (hP a (by omega)).1, nI_1]
      exact ih (a + 1) _ (by omega) (by omega)
theorem st2I {n L : Nat} (hn : n ≤ 12) (hL : L ≤ 24) : 2 * nI n - nI L = 3 ↔ nI L = 2 * nI n - 3 := by
  have c : ∀ n, n < 13 → ∀ L, L < 25 → (2 * nI n - nI L = 3 ↔ nI L = 2 * nI n - 3) := by decide +kernel
  exact c n (by omega) L (by omega)
theorem stiff_v {n nb : Nat} {br : Nat → Nat × Nat} {low high : Nat → Int32} (hB : Br n nb br low high) (f : Nat → Int32) (sn rk : Int32) : ∃ f' sn' rk', FX7_isStiff (nI n) (nI nb) low high f sn rk = some ((if 2 ≤ n ∧ 2 * nI n - nI (GE br nb).length = 3 then 1 else 0), f', sn', rk') := by
  unfold FX7_isStiff
  have h12 := hB.1
  have h24 := hB.2.1
  have hl := GE_le br nb
  by_cases h2 : n < 2
  · rw [if_pos (show nI n < 2 from nI_lt h2 (by decide)), if_neg (by omega)]
    exact ⟨_, _, _, rfl⟩
  · rw [if_neg (show ¬ nI n < 2 from nI_nlt (show 2 ≤ n by omega) (by omega))]
    obtain ⟨f', sn', e, _⟩ := rk_v hB f sn rk
    rw [e]
    simp only [Option.bind_some]
    by_cases h3 : 2 * nI n - nI (GE br nb).length = 3
    · rw [if_pos ((st2I h12 (by omega)).mp h3), if_pos ⟨by omega, h3⟩]
      exact ⟨_, _, _, rfl⟩
    · rw [if_neg (fun e => h3 ((st2I h12 (by omega)).mpr e)), if_neg (fun h => h3 h.2)]
      exact ⟨_, _, _, rfl⟩
theorem told_core (p1 : Int32) {n nb : Nat} {pins bars : Int32} {names les gre : Nat → Int32} {mpins mbars : Int32} {mname mlow mhigh : Nat → Int32} (hF : FrR n nb pins bars names les gre mpins mbars mname mlow mhigh) (ts : Int32) (t6 P6 : Nat → Int32) (c6 a b c d : Int32) (f qu ca g car : Nat → Int32) (sn rk : Int32) (t7 P7 : Nat → Int32) (c7 : Int32) :
    ∃ (u : Int32 × (Nat → Int32) × (Nat → Int32) × Int32 × Int32 × Int32 × Int32 × Int32 × (Nat → Int32) × (Nat → Int32) × (Nat → Int32)) (v : Int32 × (Nat → Int32) × (Nat → Int32) × Int32 × Int32 × (Nat → Int32) × (Nat → Int32) × Int32), FX6_told p1 pins bars les gre ts t6 P6 c6 a b c d f qu ca = some u ∧ FX7_told p1 mpins mbars ts mlow mhigh g car sn rk t7 P7 c7 = some v ∧ u.1 = v.1 := by
  obtain ⟨br, hB6, hB7, _⟩ := hF.br
  obtain ⟨h1, h2, rfl, rfl, rfl, rfl, h7, h8, h9⟩ := hF
  unfold FX6_told FX7_told
  obtain ⟨f1, qu1, ca1, s1, l1⟩ := settle_v hB6 a b c d f qu ca
  obtain ⟨g1, sn1, s2, l2⟩ := rk_v hB7 g sn rk
  rw [s1]
  simp only [Option.bind_some]
  by_cases x0 : p1 = 0
  · simp only [if_pos x0]
    exact ⟨_, _, rfl, rfl, rfl⟩
  · simp only [if_neg x0]
    by_cases x1 : p1 = 1
    · simp only [if_pos x1]
      exact ⟨_, _, rfl, rfl, rfl⟩
    · simp only [if_neg x1]
      by_cases x2 : p1 = 2
      · simp only [if_pos x2, s2, Option.bind_some]
        exact ⟨_, _, rfl, rfl, rfl⟩
      · simp only [if_neg x2]
        by_cases x3 : p1 = 3
        · simp only [if_pos x3, s2, Option.bind_some]
          exact ⟨_, _, rfl, rfl, rfl⟩
        · simp only [if_neg x3]
          by_cases x4 : p1 = 4
          · obtain ⟨g2, sn2, rk2, s3⟩ := stiff_v hB7 g sn rk
            simp only [if_pos x4, s3, Option.bind_some]
            by_cases y : 2 ≤ n ∧ 2 * nI n - nI (GE br nb).length = 3
            · simp only [if_pos y, if_neg (show ¬ (1 : Int32) = 0 by decide)]
              exact ⟨_, _, rfl, rfl, rfl⟩
            · simp only [if_neg y, if_true]
              exact ⟨_, _, rfl, rfl, rfl⟩
          · simp only [if_neg x4]
            by_cases x5 : p1 = 5
            · unfold FX7_extras
              simp only [if_pos x5, s2, Option.bind_some]
              exact ⟨_, _, rfl, rfl, rfl⟩
            · simp only [if_neg x5]
              by_cases x6 : p1 = 6
              · simp only [if_pos x6]
                obtain ⟨t6', P6', f', qu', ca', to', car', sn', rk', t7', P7', k, hk, e6, e7, _, _, hP⟩ := parts_v hB6 hB7 t6 P6 c6 l1 qu1 ca1 g car sn rk t7 P7 c7
                rw [e6, e7]
                exact ⟨_, _, rfl, rfl, rfl⟩
              · simp only [if_neg x6]
                by_cases x7 : p1 = 7
                · simp only [if_pos x7]
                  unfold FX3_countOvertied FX7_overtied
                  rw [s2]
                  simp only [Option.bind_some]
                  obtain ⟨f2, qu2, ca2, e6⟩ := cov_h hB6 5000 0 f1 qu1 ca1 (Nat.zero_le _) (by omega)
                  obtain ⟨g2, sn2, rk2, e7⟩ := cov7_h hB7 5000 0 g1 sn1 (nI (GE br nb).length) (Nat.zero_le _) (by omega)
                  have e6' : FX3_countOvertied_h4 (nI nb) les gre 5000 0 0 f1 qu1 ca1 = _ := e6
                  have e7' : FX7_overtied_h9 (nI nb) mlow mhigh 5000 (nI (GE br nb).length) 0 0 g1 sn1 (nI (GE br nb).length) = _ := e7
                  rw [e6', e7']
                  exact ⟨_, _, rfl, rfl, rfl⟩
                · simp only [if_neg x7]
                  by_cases x8 : p1 = 8
                  · simp only [if_pos x8]
                    exact ⟨_, _, rfl, rfl, rfl⟩
                  · simp only [if_neg x8]
                    exact ⟨_, _, rfl, rfl, rfl⟩
