/-! ring -/
set_option maxRecDepth 100000 in
theorem msk24 : ∀ x, x < 24 → nI (2 ^ 24 - 1) &&& (nI (2 ^ x) ^^^ (-1)) = nI (2 ^ 24 - 1 - 2 ^ x) := by decide
set_option maxRecDepth 100000 in
theorem mskb24 : ∀ x, x < 24 → ∀ i, i < 24 → (2 ^ 24 - 1 - 2 ^ x).testBit i = !decide (i = x) := by decide
theorem and_mask {M x : Nat} (hM : M < 2 ^ 24) (hx : x < 24) : nI M &&& (((1 : Int32) <<< (nI x &&& 31)) ^^^ (-1)) = nI (M &&& (2 ^ 24 - 1 - 2 ^ x)) := by
  have e : nI M = nI M &&& nI (2 ^ 24 - 1) := by
    rw [andI (by omega) (by decide), Nat.and_two_pow_sub_one_of_lt_two_pow hM]
  rw [shl1 (by omega), e, Int32.and_assoc, msk24 x hx, andI (by omega) (Nat.lt_of_le_of_lt (Nat.sub_le _ _) (by decide))]
theorem ring_par {n nb : Nat} {br : Nat → Nat × Nat} {les gre low high : Nat → Int32} (hB6 : Br n nb br les gre) (hB7 : Br n nb br low high) {b : Nat} (hb : b < nb) {car : Nat → Int32} (hc : ∀ i, i < nb → car i = if gb br i then 1 else 0) (bars : Int32) : ∀ (fu a : Nat) (l : Int32) (f qu ca g : Nat → Int32) (sn rk : Int32), a ≤ b → b - a < fu →
    ∃ r f' qu' ca' g' sn' rk', FX3_ringOf_h7 (nI b) (nI (GM br nb)) les gre fu l (nI a) f qu ca = some (r, f', qu', ca') ∧ FX7_ring_h39 (nI b) bars low high fu l (nI a) g car sn rk = some (r, g', car, sn', rk') := by
  intro fu
  have nb24 := hB6.2.1
  have m24 : GM br nb < 2 ^ 24 := Nat.lt_of_lt_of_le (GM_lt _ nb) (Nat.pow_le_pow_right (by decide) nb24)
  induction fu with
  | zero => intro a _ _ _ _ _ _ _ _ h; omega
  | succ fu ih =>
    intro a l f qu ca g sn rk ha hf
    show ∃ r f' qu' ca' g' sn' rk', FX3_ringOf_b7 (nI b) (nI (GM br nb)) les gre (FX3_ringOf_h7 (nI b) (nI (GM br nb)) les gre fu) l (nI a) f qu ca = _ ∧ FX7_ring_b39 (nI b) bars low high (FX7_ring_h39 (nI b) bars low high fu) l (nI a) g car sn rk = _
    unfold FX3_ringOf_b7 FX7_ring_b39
    by_cases h : b ≤ a
    · rw [if_pos (nI_le h (by omega)), if_pos (nI_le h (by omega))]
      exact ⟨_, _, _, _, _, _, _, rfl, rfl⟩
    · rw [if_neg (nI_ge (by omega) (by omega)), if_neg (nI_ge (by omega) (by omega)), gi (show a < 24 by omega) (by decide), clp (show a < 2 ^ 31 by omega), hc a (by omega), bitI (by omega) (by omega), GM_bit, decide_eq_true (show a < nb by omega), Bool.true_and]
      unfold FX3_ringOf_b31 FX3_ringOf_b65 FX7_ring_b68
      cases hk : gb br a
      · simp only [Bool.false_eq_true, if_false, if_neg (show ¬ nI 0 = 1 by decide), if_true, nI_1]
        exact ih (a + 1) l f qu ca g sn rk (by omega) (by omega)
      · simp only [if_true, if_neg (show ¬ (1 : Int32) = 0 by decide), if_pos (show nI 1 = 1 by decide)]
        rw [and_mask m24 (by omega), nI_1]
        obtain ⟨f1, qu1, ca1, e1⟩ := wcb_v hB6 hb (keep := fun i => gb br i && !decide (i = a)) (m := nI (GM br nb &&& (2 ^ 24 - 1 - 2 ^ a))) (fun i hi => by
          rw [bitI (Nat.lt_of_le_of_lt Nat.and_le_left (by omega)) (by omega), Nat.testBit_and, mskb24 a (by omega) i (by omega), GM_bit, decide_eq_true (show i < nb by omega), Bool.true_and]
          cases (gb br i && !decide (i = a)) <;> rfl) f qu ca
        obtain ⟨g1, sn1, rk1, e2⟩ := mwc_v hB7 hb (x := a) (by omega) (g := gb br) (car := car) (fun i hi => hc i (by omega)) g sn rk
        rw [e1, e2]
        simp only [Option.bind_some]
        cases tb (RB (fun i => gb br i && !decide (i = a)) br b) (br b).1 (br b).2
        · simp only [Bool.false_eq_true, if_false, if_neg (show ¬ (1 : Int32) = 0 by decide)]
          exact ih (a + 1) _ f1 qu1 ca1 g1 sn1 rk1 (by omega) (by omega)
        · simp only [if_true]
          exact ih (a + 1) _ f1 qu1 ca1 g1 sn1 rk1 (by omega) (by omega)
theorem ring_core (p : Int32) {n nb : Nat} {pins bars : Int32} {names les gre : Nat → Int32} {mpins mbars : Int32} {mname mlow mhigh : Nat → Int32} (h : FrR n nb pins bars names les gre mpins mbars mname mlow mhigh) (a b c d : Int32) (f qu ca g car : Nat → Int32) (sn rk : Int32) :
    ∃ (u : Int32 × Int32 × Int32 × Int32 × Int32 × (Nat → Int32) × (Nat → Int32) × (Nat → Int32)) (v : Int32 × (Nat → Int32) × (Nat → Int32) × Int32 × Int32), FX6_ring p pins bars les gre a b c d f qu ca = some u ∧ FX7_ring p mbars mlow mhigh g car sn rk = some v ∧ u.1 = v.1 := by
  obtain ⟨br, hB6, hB7, _⟩ := h.br
  obtain ⟨h1, h2, rfl, rfl, rfl, rfl, h7, h8, h9⟩ := h
  unfold FX6_ring FX7_ring
  have m24 : GM br nb < 2 ^ 24 := Nat.lt_of_lt_of_le (GM_lt _ nb) (Nat.pow_le_pow_right (by decide) (by omega))
  rcases cases_lt p (n := nb) (by omega) with ⟨k, hk, rfl⟩ | hn
  · rw [place6_t hk (by omega), isInP_t hk (by omega)]
    simp only [Option.bind_some, if_neg (show ¬ (1 : Int32) = 0 by decide)]
    obtain ⟨f1, qu1, ca1, s1, l1⟩ := settle_v hB6 a b c d f qu ca
    obtain ⟨g1, car1, sn1, s2, l2, hc⟩ := call_v hB7 g car sn rk
    rw [s1, s2]
    simp only [Option.bind_some]
    rw [gi (show k < 24 by omega) (by decide), clp (show k < 2 ^ 31 by omega), hc k hk, bitI (by omega) (by omega), GM_bit, decide_eq_true hk, Bool.true_and]
    cases gb br k
    · simp only [Bool.false_eq_true, if_false, if_neg (show ¬ nI 0 = 1 by decide), if_true]
      unfold FX3_ringOf
      obtain ⟨r, f2, qu2, ca2, g2, sn2, rk2, e1, e2⟩ := ring_par hB6 hB7 hk hc (nI nb) 5000 0 ((1 : Int32) <<< (nI k &&& 31)) f1 qu1 ca1 g1 sn1 (nI (GE br nb).length) (Nat.zero_le _) (by omega)
      rw [show (0 : Int32) = nI 0 from rfl, e1, e2]
      exact ⟨_, _, rfl, rfl, rfl⟩
    · exact ⟨_, _, rfl, rfl, rfl⟩
  · rw [place6_f (by omega) hn, isInP_f (by omega) hn]
    exact ⟨_, _, rfl, rfl, rfl⟩
