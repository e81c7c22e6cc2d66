/-! film -/
theorem film6_h {j nb M : Nat} (hj : j < 4) (hb : nb ≤ 24) (hM : M < 2 ^ 24) (pins rk fd st : Int32) (les gre f qu ca : Nat → Int32) : ∀ (fu a : Nat) (it : Nat → Int32), a ≤ nb → nb - a < fu →
    ∃ it', FX6_film_h40 (nI j) pins (nI nb) les gre fu (nI a) (nI M) rk fd st f qu ca 0 (nI nb) it = some (nI nb, nI M, rk, fd, st, f, qu, ca, 0, nI nb, it') ∧ ∀ k, (k < a → it' k = it k) ∧ (a ≤ k → k < nb → it' k = if M.testBit k then 1 else 0) := by
  intro fu
  induction fu with
  | zero => intro a _ _ h; omega
  | succ fu ih =>
    intro a it ha hf
    show ∃ it', FX6_film_b40 (nI j) pins (nI nb) les gre (FX6_film_h40 (nI j) pins (nI nb) les gre fu) (nI a) (nI M) rk fd st f qu ca 0 (nI nb) it = _ ∧ _
    unfold FX6_film_b40
    by_cases h : nb ≤ a
    · rw [if_pos (nI_le h (by omega))]
      exact ⟨it, rfl, fun k => ⟨fun _ => rfl, fun _ _ => by omega⟩⟩
    · rw [if_neg (nI_ge (by omega) (by omega)), gi hj (by decide), bitI (by omega) (by omega)]
      unfold FX2_write FX2_write_b29 FX2_has
      rw [if_neg (show ¬ nI a < (0 : Int32) from nI_nlt (Nat.zero_le a) (by omega)), if_neg (nI_ge (by omega) (by omega))]
      simp only [Option.bind_some, if_neg (show ¬ (1 : Int32) = 0 by decide), if_true]
      rw [gi (show a < 40 by omega) (by decide), clp (by omega)]
      simp only [Option.bind_some, nI_1]
      have e255 : nI (if M.testBit a then 1 else 0) &&& 255 = if M.testBit a then 1 else 0 := by cases M.testBit a <;> decide
      rw [e255]
      obtain ⟨it', e, hk⟩ := ih (a + 1) (upd it a (if M.testBit a then 1 else 0)) (by omega) (by omega)
      refine ⟨it', e, fun k => ⟨fun h1 => ?_, fun h1 h2 => ?_⟩⟩
      · rw [(hk k).1 (by omega), updN (by omega)]
      · by_cases ek : k = a
        · subst ek; rw [(hk k).1 (by omega), updS]
        · exact (hk k).2 (by omega) h2
theorem film7_h {j nb : Nat} (hj : j < 4) (hb : nb ≤ 24) {g : Nat → Bool} {car : Nat → Int32} (hc : ∀ i, i < nb → car i = if g i then 1 else 0) (low high to : Nat → Int32) (sn rk : Int32) (S Z : Nat → Int32) : ∀ (fu a : Nat) (it : Nat → Int32), a ≤ nb → nb - a < fu →
    ∃ it', FX7_film_h33 (nI j) (nI nb) low high fu (nI a) to car sn rk S Z it = some (nI nb, to, car, sn, rk, S, Z, it') ∧ (∀ i, a ≤ i → i < nb → it' (40 * j + i) = if g i then 1 else 0) ∧ ∀ k, (k < 40 * j + a ∨ 40 * j + nb ≤ k) → it' k = it k := by
  intro fu
  induction fu with
  | zero => intro a _ _ h; omega
  | succ fu ih =>
    intro a it ha hf
    show ∃ it', FX7_film_b33 (nI j) (nI nb) low high (FX7_film_h33 (nI j) (nI nb) low high fu) (nI a) to car sn rk S Z it = _ ∧ _
    unfold FX7_film_b33
    by_cases h : nb ≤ a
    · rw [if_pos (nI_le h (by omega))]
      exact ⟨it, rfl, fun i _ _ => by omega, fun _ _ => rfl⟩
    · rw [if_neg (nI_ge (by omega) (by omega)), gi (show a < 24 by omega) (by decide), clp (by omega), hc a (by omega), mul40, nI_add]
      unfold FX7_film_b65
      rw [gi (show 40 * j + a < 160 by omega) (by decide), gi (show 40 * j + a < 160 by omega) (by decide), clp (by omega), nI_1]
      have go : ∀ x : Int32, x = (if g a then 1 else 0) → ∃ it', FX7_film_h33 (nI j) (nI nb) low high fu (nI (a + 1)) to car sn rk S Z (upd it (40 * j + a) x) = some (nI nb, to, car, sn, rk, S, Z, it') ∧ (∀ i, a ≤ i → i < nb → it' (40 * j + i) = if g i then 1 else 0) ∧ ∀ k, (k < 40 * j + a ∨ 40 * j + nb ≤ k) → it' k = it k := by
        intro x hx
        obtain ⟨it', e, h1, h2⟩ := ih (a + 1) (upd it (40 * j + a) x) (by omega) (by omega)
        refine ⟨it', e, fun i q1 q2 => ?_, fun k hk => ?_⟩
        · by_cases ek : i = a
          · subst ek; rw [h2 _ (by omega), updS, hx]
          · exact h1 i (by omega) q2
        · rw [h2 k (by omega), updN (by omega)]
      cases hg : g a
      · simp only [Bool.false_eq_true, if_false, if_true]
        exact go 0 (by rw [hg]; rfl)
      · simp only [if_true, if_neg (show ¬ (1 : Int32) = 0 by decide)]
        exact go 1 (by rw [hg]; rfl)
theorem ItR01 (b : Bool) : ItR 0 (if b then 1 else 0) (if b then 1 else 0) := by
  unfold ItR
  cases b <;> decide
theorem film_core (p1 : Int32) {n nb : Nat} {pins bars : Int32} {names les gre : Nat → Int32} {mpins mbars : Int32} {mname mlow mhigh : Nat → Int32} (hF : FrR n nb pins bars names les gre mpins mbars mname mlow mhigh) {sS sZ : Nat → Int32} {sI : Nat → Nat → Int32} {mS mZ mI : Nat → Int32} (h : ShR sS sZ sI mS mZ mI) {j : Nat} (hj : j < 4) (hp : vp_in p1 4 → p1.toNatClampNeg = j) (a b c d : Int32) (f qu ca g car : Nat → Int32) (sn rk : Int32) :
    ∃ (u : Int32 × Int32 × Int32 × Int32 × Int32 × (Nat → Int32) × (Nat → Int32) × (Nat → Int32) × Int32 × Int32 × (Nat → Int32)) (v : Int32 × (Nat → Int32) × (Nat → Int32) × Int32 × Int32 × (Nat → Int32) × (Nat → Int32) × (Nat → Int32)), FX6_film p1 pins bars les gre a b c d f qu ca (sS j) (sZ j) (sI j) = some u ∧ FX7_film p1 mbars mlow mhigh g car sn rk mS mZ mI = some v ∧ u.1 = v.1 ∧ ShR (upd sS j u.2.2.2.2.2.2.2.2.1) (upd sZ j u.2.2.2.2.2.2.2.2.2.1) (va_up sI j u.2.2.2.2.2.2.2.2.2.2) v.2.2.2.2.2.1 v.2.2.2.2.2.2.1 v.2.2.2.2.2.2.2 := by
  obtain ⟨br, hB6, hB7, _⟩ := hF.br
  obtain ⟨h1, h2, rfl, rfl, rfl, rfl, h7, h8, h9⟩ := hF
  have m24 : GM br nb < 2 ^ 24 := Nat.lt_of_lt_of_le (GM_lt _ nb) (Nat.pow_le_pow_right (by decide) (by omega))
  unfold FX6_film FX7_film
  rcases sheet_cases p1 with ⟨e1, e2, _⟩ | ⟨j', hj', rfl, e1, e2⟩
  · rw [e1, e2]
    refine ⟨_, _, rfl, rfl, rfl, ?_⟩
    show ShR (upd sS j (sS j)) (upd sZ j (sZ j)) (va_up sI j (sI j)) mS mZ mI
    rw [upd_id, upd_id, vaup_id]; exact h
  · have ej : j' = j := by have := hp (vin hj' (by decide)); rwa [clp (by omega)] at this
    subst ej
    rw [e1, e2]
    simp only [Option.bind_some, if_neg (show ¬ (1 : Int32) = 0 by decide)]
    obtain ⟨f1, qu1, ca1, s1, l1⟩ := settle_v hB6 a b c d f qu ca
    obtain ⟨g1, car1, sn1, s2, l2, hc⟩ := call_v hB7 g car sn rk
    rw [s1, s2]
    simp only [Option.bind_some]
    rw [gi hj' (by decide), gi hj' (by decide), gi hj' (by decide), clp (by omega)]
    obtain ⟨it, b1, b2⟩ := become_v 0 (nI nb) (sS j') (sZ j') (sI j')
    rw [b1]
    simp only [Option.bind_some]
    obtain ⟨it1, c1, c2⟩ := film6_h hj' h2 m24 (nI n) (nI (GE br nb).length) (2 * nI n - nI (GE br nb).length) (if 2 ≤ n ∧ 2 * nI n - nI (GE br nb).length = 3 then 1 else 0) les gre f1 qu1 ca1 5000 0 it (Nat.zero_le _) (by omega)
    obtain ⟨it2, d1, d2, d3⟩ := film7_h hj' h2 hc mlow mhigh g1 sn1 (nI (GE br nb).length) (upd mS j' 0) (upd mZ j' (nI nb)) 5000 0 mI (Nat.zero_le _) (by omega)
    refine ⟨_, _, c1, d1, rfl, ?_⟩
    refine h.set hj' (by omega) (Or.inr (Or.inl rfl)) (fun e => absurd e (by decide)) (fun i hi => ?_) (fun i hi => ?_)
    · show ItR 0 (it1 i) (it2 (40 * j' + i))
      rw [d2 i (Nat.zero_le _) hi, (c2 i).2 (Nat.zero_le _) hi, GM_bit, decide_eq_true hi, Bool.true_and]
      exact ItR01 _
    · exact d3 i (by omega)
