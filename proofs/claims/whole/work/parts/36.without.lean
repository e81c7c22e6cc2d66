theorem place6_t {j n : Nat} (hj : j < n) (hn : n < 2 ^ 31) : FX6_isPlace (nI j) (nI n) = some 1 := isPin6_t hj hn
theorem place6_f {x : Int32} {n : Nat} (hn : n < 2 ^ 31) (h : ∀ j : Nat, j < n → ¬ x = nI j) : FX6_isPlace x (nI n) = some 0 := isPin6_f hn h
theorem wl_wo (br : Nat → Nat × Nat) {nb b i : Nat} (hi : i < nb - 1) : wl br nb b i = wo br b i := by
  unfold wl wo
  rw [if_neg (by omega)]
theorem GM_mod (ed : Nat → Nat × Nat) (m : Nat) : GM ed (m + 1) % 2 ^ m = GM ed m := by
  simp only [GM]
  split
  · rw [Nat.add_mod_right, Nat.mod_eq_of_lt (GM_lt ed m)]
  · rw [Nat.add_zero, Nat.mod_eq_of_lt (GM_lt ed m)]
theorem fwo_v {n nb : Nat} {br : Nat → Nat × Nat} {les gre : Nat → Int32} (hB : Br n nb br les gre) {b : Nat} (hb : b < nb) (f qu ca : Nat → Int32) : ∃ f' qu' ca', FX3_freedomsWithout (nI b) f qu ca (nI n) (nI nb) les gre = some (2 * nI n - nI (GE (wo br b) (nb - 1)).length, f', qu', ca') := by
  unfold FX3_freedomsWithout
  obtain ⟨f', qu', ca', e, l⟩ := cwl_v hB hb f qu ca
  have h24 := hB.2.1
  rw [e]
  simp only [Option.bind_some]
  have g31 : GM (wl br nb b) nb < 2 ^ 24 := GM24 _ h24
  have p31 : 2 ^ (nb - 1) < 2 ^ 31 := Nat.pow_lt_pow_right (by decide) (by omega)
  have p0 : 0 < 2 ^ (nb - 1) := Nat.pow_pos (by decide)
  rw [sub1I (by omega), shl1 (by omega), sub1I p0, andI (by omega) (by omega), Nat.and_two_pow_sub_one_eq_mod]
  have em : GM (wl br nb b) nb % 2 ^ (nb - 1) = GM (wo br b) (nb - 1) := by
    have := GM_mod (wl br nb b) (nb - 1)
    rw [show nb - 1 + 1 = nb by omega] at this
    rw [this]
    exact GM_congr (fun i hi => wl_wo br hi)
  rw [em, bitCount_v (GM24 _ (by omega)), pc_GM _ (by omega)]
  exact ⟨f', qu', ca', rfl⟩
theorem without_core (p : Int32) {n nb : Nat} {pins bars : Int32} {names les gre : Nat → Int32} {mpins mbars : Int32} {mname mlow mhigh : Nat → Int32} (h : FrR n nb pins bars names les gre mpins mbars mname mlow mhigh) (f qu ca g : Nat → Int32) (sn rk : Int32) :
    ∃ (u : Int32 × (Nat → Int32) × (Nat → Int32) × (Nat → Int32)) (v : Int32 × (Nat → Int32) × Int32 × Int32), FX6_without p pins bars les gre f qu ca = some u ∧ FX7_without p mpins mbars mlow mhigh g sn rk = some v ∧ u.1 = v.1 := by
  obtain ⟨br, hB6, hB7, _⟩ := h.br
  obtain ⟨h1, h2, rfl, rfl, rfl, rfl, h7, h8, h9⟩ := h
  unfold FX6_without FX7_without
  rcases cases_lt p (n := nb) (by omega) with ⟨b, hb, rfl⟩ | hn
  · rw [place6_t hb (by omega), isInP_t hb (by omega)]
    simp only [Option.bind_some, if_neg (show ¬ (1 : Int32) = 0 by decide)]
    obtain ⟨f1, qu1, ca1, e1⟩ := fwo_v hB6 hb f qu ca
    obtain ⟨g1, sn1, e2, _⟩ := rkw_v hB7 hb g sn rk
    rw [e1, e2]
    exact ⟨_, _, rfl, rfl, rfl⟩
  · rw [place6_f (by omega) hn, isInP_f (by omega) hn]
    exact ⟨_, _, rfl, rfl, rfl⟩
