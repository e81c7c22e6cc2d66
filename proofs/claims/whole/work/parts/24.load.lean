/-! load: bars by a sheet -/
def simP (c m : Int32) : Prop := c = m ∨ ∀ j : Nat, j < 12 → ¬ c = nI j ∧ ¬ m = nI j
theorem two_f6 {p q : Int32} {n : Nat} (hn : n < 2 ^ 31) (h : (∀ j : Nat, j < n → ¬ p = nI j) ∨ ∀ j : Nat, j < n → ¬ q = nI j) : FX6_areUnlikePins p q (nI n) = some 0 := by
  unfold FX6_areUnlikePins
  rcases cases_lt p hn with ⟨i, hi, rfl⟩ | hp
  · rw [isPin6_t hi hn]
    rcases h with h | h
    · exact absurd rfl (h i hi)
    · rw [isPin6_f hn h]; simp
  · rw [isPin6_f hn hp]; simp
theorem two_f7 {p q : Int32} {n : Nat} (hn : n < 2 ^ 31) (h : (∀ j : Nat, j < n → ¬ p = nI j) ∨ ∀ j : Nat, j < n → ¬ q = nI j) : FX7_areTwo p q (nI n) = some 0 := by
  unfold FX7_areTwo
  rcases cases_lt p hn with ⟨i, hi, rfl⟩ | hp
  · rw [isPin7_t hi hn]
    rcases h with h | h
    · exact absurd rfl (h i hi)
    · rw [isPin7_f hn h]; simp
  · rw [isPin7_f hn hp]; simp
theorem bar_core2 {p q p' q' : Int32} (hp : simP p p') (hq : simP q q') {n nb : Nat} {pins bars : Int32} {names les gre : Nat → Int32} {mpins mbars : Int32} {mname mlow mhigh : Nat → Int32} (h : FrR n nb pins bars names les gre mpins mbars mname mlow mhigh) :
    ∃ (r bars' : Int32) (les' gre' mlow' mhigh' : Nat → Int32) (nb' : Nat), FX6_bar p q pins bars les gre = some (r, bars', les', gre') ∧ FX7_bar p' q' mpins mbars mlow mhigh = some (r, bars', mlow', mhigh') ∧ FrR n nb' pins bars' names les' gre' mpins bars' mname mlow' mhigh' := by
  by_cases e : p = p' ∧ q = q'
  · obtain ⟨rfl, rfl⟩ := e
    exact bar_core p q h
  · have h' := h
    obtain ⟨h1, h2, rfl, rfl, rfl, rfl, h7, h8, h9⟩ := h
    have hn : ((∀ j : Nat, j < n → ¬ p = nI j) ∨ ∀ j : Nat, j < n → ¬ q = nI j) ∧ ((∀ j : Nat, j < n → ¬ p' = nI j) ∨ ∀ j : Nat, j < n → ¬ q' = nI j) := by
      rcases hp with hp | hp
      · rcases hq with hq | hq
        · exact absurd ⟨hp, hq⟩ e
        · exact ⟨Or.inr (fun j hj => (hq j (by omega)).1), Or.inr (fun j hj => (hq j (by omega)).2)⟩
      · exact ⟨Or.inl (fun j hj => (hp j (by omega)).1), Or.inl (fun j hj => (hp j (by omega)).2)⟩
    unfold FX6_bar FX7_bar
    rw [two_f6 (by omega) hn.1, two_f7 (by omega) hn.2]
    exact ⟨-2, _, les, gre, mlow, mhigh, nb, rfl, rfl, h'⟩
theorem ItR.sim {s c m : Int32} (h : ItR s c m) : simP c m := by
  unfold ItR at h
  by_cases hs : s = 0
  · rw [if_pos hs] at h
    obtain ⟨h1, h2⟩ := h
    have e := pk_and m (m := 255) 8 (by decide)
    by_cases hm : ∃ j : Nat, j < 12 ∧ m = nI j
    · obtain ⟨j, hj, rfl⟩ := hm
      left
      rw [h1, e, pk_tn (by omega), Nat.mod_eq_of_lt (by omega)]
    · by_cases hc : ∃ j : Nat, j < 12 ∧ c = nI j
      · obtain ⟨j, hj, rfl⟩ := hc
        left
        have e2 : m.toBitVec.toNat % 2 ^ 8 = j := ((nI_eq (by omega) (by omega)).mp (h1.trans e)).symm
        have e3 : m.toInt8 = (nI j).toInt8 := by
          apply Int8.toBitVec_inj.mp
          rw [Int32.toBitVec_toInt8, Int32.toBitVec_toInt8, BitVec.signExtend_eq_setWidth_of_le _ (by decide), BitVec.signExtend_eq_setWidth_of_le _ (by decide)]
          apply BitVec.eq_of_toNat_eq
          rw [BitVec.toNat_setWidth, BitVec.toNat_setWidth, e2, pk_tn (by omega), Nat.mod_eq_of_lt (by omega)]
        rw [h2, e3]
        have : ∀ j, j < 12 → nI j = (nI j).toInt8.toInt32 := by decide
        exact this j hj
      · right
        exact fun j hj => ⟨fun e => hc ⟨j, hj, e⟩, fun e => hm ⟨j, hj, e⟩⟩
  · rw [if_neg hs] at h
    exact Or.inl h
theorem mul2 (j : Nat) : (2 : Int32) * nI j = nI (2 * j) := pk_mul 2 j
theorem load_h {sS sZ : Nat → Int32} {sI : Nat → Nat → Int32} {mS mZ mI : Nat → Int32} (hsh : ShR sS sZ sI mS mZ mI) {j c n : Nat} (hj : j < 4) (hc : c ≤ 100) (hn24 : n ≤ 24) (p2 : Int32) {np : Nat} {pins : Int32} {names : Nat → Int32} {mpins : Int32} {mname : Nat → Int32} (s6 : Int32) :
    ∀ (f k : Nat) (came bars mbars : Int32) (les gre mlow mhigh : Nat → Int32) (nb : Nat), k ≤ n → n - k < f → FrR np nb pins bars names les gre mpins mbars mname mlow mhigh → ∃ (r bars' : Int32) (les' gre' mlow' mhigh' : Nat → Int32) (nb' : Nat), FX6_load_h66 (nI j) p2 (nI c) (nI n) pins s6 (sZ j) (sI j) f came (nI k) bars les gre = some (r, bars', les', gre') ∧ FX7_load_h70 (nI j) p2 (nI c) (nI n) mpins mS mZ mI f came (nI k) mbars mlow mhigh = some (r, bars', mlow', mhigh') ∧ FrR np nb' pins bars' names les' gre' mpins bars' mname mlow' mhigh' := by
  obtain ⟨a1, a2, z, a3, a4, a5, a6, a7⟩ := hsh j hj
  intro f
  induction f with
  | zero => intro k _ _ _ _ _ _ _ _ _ h; omega
  | succ f ih =>
    intro k came bars mbars les gre mlow mhigh nb hk hf hF
    have hF' := hF
    have eb : mbars = bars := by rw [hF.2.2.2.1, hF.2.2.2.2.2.1]
    subst eb
    show ∃ (r bars' : Int32) (les' gre' mlow' mhigh' : Nat → Int32) (nb' : Nat), FX6_load_b66 (nI j) p2 (nI c) (nI n) pins s6 (sZ j) (sI j) (FX6_load_h66 (nI j) p2 (nI c) (nI n) pins s6 (sZ j) (sI j) f) came (nI k) mbars les gre = _ ∧ FX7_load_b70 (nI j) p2 (nI c) (nI n) mpins mS mZ mI (FX7_load_h70 (nI j) p2 (nI c) (nI n) mpins mS mZ mI f) came (nI k) mbars mlow mhigh = _ ∧ _
    unfold FX6_load_b66 FX7_load_b70 FX6_load_b123 FX7_load_b144
    by_cases h : n ≤ k
    · rw [if_pos (nI_le h (by omega)), if_pos (nI_le h (by omega))]
      exact ⟨came, _, les, gre, mlow, mhigh, nb, rfl, rfl, hF⟩
    rw [if_neg (nI_ge (by omega) (by omega)), if_neg (nI_ge (by omega) (by omega)), if_neg (nI_pos (by omega)), gi hj (by decide), clp (show j < 2 ^ 31 by omega), a5, mul2, mul40, nI_add, nI_add, nI_add, nI_1, nI_1, a4, show (2 : Int32) = nI 2 from rfl, run_v a3 (by omega) (by decide)]
    have hcmp : (nI c ≤ nI z - nI 2 - nI (2 * k)) ↔ c + 2 * k + 2 ≤ z := by
      have e1 : (nI z - nI 2 - nI (2 * k)).toInt = (z : Int) - 2 - (2 * k : Nat) := by
        rw [Int32.toInt_sub, subI (by omega) (by decide), nI_toInt (by omega)]
        have : (2 : Int) ^ 32 = 4294967296 := by decide
        simp only [Int.bmod]
        omega
      rw [Int32.le_iff_toInt_le, e1, nI_toInt (by omega)]
      omega
    by_cases hz : c + 2 * k + 2 ≤ z
    · rw [if_pos hz, if_pos (hcmp.mpr hz)]
      simp only [Option.bind_some, if_neg (show ¬ (1 : Int32) = 0 by decide)]
      rw [nI_1, gi (by omega) (by decide), gi (by omega) (by decide), gi (by omega) (by decide), gi (by omega) (by decide), clp (by omega), clp (by omega), clp (by omega), clp (by omega)]
      have s1 := (a7 (c + 2 * k) (by omega)).sim
      have s2 := (a7 (c + 2 * k + 1) (by omega)).sim
      rw [show 40 * j + (c + 2 * k) = 40 * j + c + 2 * k by omega] at s1
      rw [show 40 * j + (c + 2 * k + 1) = 40 * j + c + 2 * k + 1 by omega] at s2
      obtain ⟨r, bars', les', gre', mlow', mhigh', nb', e1, e2, hF2⟩ := bar_core2 s1 s2 hF
      rw [e1, e2]
      simp only [Option.bind_some]
      by_cases hr : r < 0
      · rw [if_pos hr, if_pos hr, show came + 0 = came by simp]
        rw [← a4]
        exact ih (k + 1) came bars' bars' les' gre' mlow' mhigh' nb' (by omega) (by omega) hF2
      · rw [if_neg hr, if_neg hr]
        rw [← a4]
        exact ih (k + 1) (came + 1) bars' bars' les' gre' mlow' mhigh' nb' (by omega) (by omega) hF2
    · rw [if_neg hz, if_neg (fun h => hz (hcmp.mp h))]
      simp only [Option.bind_some, if_pos rfl]
      exact ⟨-12, _, les, gre, mlow, mhigh, nb, rfl, rfl, hF⟩
theorem load_far {sS sZ : Nat → Int32} {sI : Nat → Nat → Int32} {mS mZ mI : Nat → Int32} (hsh : ShR sS sZ sI mS mZ mI) {j n : Nat} (hj : j < 4) (hn24 : n ≤ 24) (p2 p3 : Int32) (h3 : p3 < 0 ∨ ∃ c : Nat, 100 < c ∧ c < 2 ^ 31 ∧ p3 = nI c) {np nb : Nat} {pins bars mbars : Int32} {names les gre : Nat → Int32} {mpins : Int32} {mname mlow mhigh : Nat → Int32} (s6 : Int32) (hF : FrR np nb pins bars names les gre mpins mbars mname mlow mhigh) (f : Nat) :
    ∃ (r bars' : Int32) (les' gre' mlow' mhigh' : Nat → Int32) (nb' : Nat), FX6_load_h66 (nI j) p2 p3 (nI n) pins s6 (sZ j) (sI j) (f + 1) 0 0 bars les gre = some (r, bars', les', gre') ∧ FX7_load_h70 (nI j) p2 p3 (nI n) mpins mS mZ mI (f + 1) 0 0 mbars mlow mhigh = some (r, bars', mlow', mhigh') ∧ FrR np nb' pins bars' names les' gre' mpins bars' mname mlow' mhigh' := by
  obtain ⟨a1, a2, z, a3, a4, a5, a6, a7⟩ := hsh j hj
  have eb : mbars = bars := by rw [hF.2.2.2.1, hF.2.2.2.2.2.1]
  subst eb
  show ∃ (r bars' : Int32) (les' gre' mlow' mhigh' : Nat → Int32) (nb' : Nat), FX6_load_b66 (nI j) p2 p3 (nI n) pins s6 (sZ j) (sI j) (FX6_load_h66 (nI j) p2 p3 (nI n) pins s6 (sZ j) (sI j) f) 0 0 mbars les gre = _ ∧ FX7_load_b70 (nI j) p2 p3 (nI n) mpins mS mZ mI (FX7_load_h70 (nI j) p2 p3 (nI n) mpins mS mZ mI f) 0 0 mbars mlow mhigh = _ ∧ _
  unfold FX6_load_b66 FX7_load_b70
  by_cases h : n ≤ 0
  · rw [if_pos (show nI n ≤ 0 from nI_le h (by decide)), if_pos (show nI n ≤ 0 from nI_le h (by decide))]
    exact ⟨0, _, les, gre, mlow, mhigh, nb, rfl, rfl, hF⟩
  rw [if_neg (show ¬ nI n ≤ 0 from nI_ge (show 0 < n by omega) (by omega)), if_neg (show ¬ nI n ≤ 0 from nI_ge (show 0 < n by omega) (by omega)), show p3 + (2 : Int32) * 0 = p3 by simp]
  rcases h3 with h3 | ⟨c, hc1, hc2, rfl⟩
  · rw [if_pos h3, run_neg (Or.inl h3)]
    exact ⟨-12, _, les, gre, mlow, mhigh, nb, rfl, rfl, hF⟩
  · rw [if_neg (nI_pos hc2), gi hj (by decide), clp (show j < 2 ^ 31 by omega), a5, a4, show (2 : Int32) = nI 2 from rfl, run_v a3 hc2 (by decide), if_neg (by omega), if_neg (show ¬ nI c ≤ nI z - nI 2 - nI 2 * 0 by
      have e0 : nI z - nI 2 - nI 2 * 0 = nI z - nI 2 := by simp
      rw [e0, Int32.le_iff_toInt_le, subI (by omega) (by decide), nI_toInt hc2]
      omega)]
    exact ⟨-12, _, les, gre, mlow, mhigh, nb, rfl, rfl, hF⟩
theorem load_core (p1 p2 p3 p4 : Int32) {sS sZ : Nat → Int32} {sI : Nat → Nat → Int32} {mS mZ mI : Nat → Int32} (hsh : ShR sS sZ sI mS mZ mI) {j : Nat} (hj : j < 4) (hp : vp_in p1 4 → p1.toNatClampNeg = j) {n nb : Nat} {pins bars : Int32} {names les gre : Nat → Int32} {mpins mbars : Int32} {mname mlow mhigh : Nat → Int32} (hF : FrR n nb pins bars names les gre mpins mbars mname mlow mhigh) :
    ∃ (r bars' : Int32) (les' gre' mlow' mhigh' : Nat → Int32) (nb' : Nat), FX6_load p1 p2 p3 p4 pins bars les gre (sS j) (sZ j) (sI j) = some (r, bars', les', gre') ∧ FX7_load p1 p2 p3 p4 mpins mbars mlow mhigh mS mZ mI = some (r, bars', mlow', mhigh') ∧ FrR n nb' pins bars' names les' gre' mpins bars' mname mlow' mhigh' := by
  have eb : mbars = bars := by rw [hF.2.2.2.1, hF.2.2.2.2.2.1]
  subst eb
  have bad : ∀ r : Int32, ∃ (r0 bars' : Int32) (les' gre' mlow' mhigh' : Nat → Int32) (nb' : Nat), some (r, mbars, les, gre) = some (r0, bars', les', gre') ∧ some (r, mbars, mlow, mhigh) = some (r0, bars', mlow', mhigh') ∧ FrR n nb' pins bars' names les' gre' mpins bars' mname mlow' mhigh' := fun r => ⟨r, _, les, gre, mlow, mhigh, nb, rfl, rfl, hF⟩
  unfold FX6_load FX7_load
  rcases sheet_cases p1 with ⟨e1, e2, _⟩ | ⟨j', hj', rfl, e1, e2⟩
  · rw [e1, e2]
    exact bad (-2)
  have ej : j' = j := by have := hp (vin hj' (by decide)); rwa [clp (by omega)] at this
  subst ej
  obtain ⟨a1, a2, z, a3, a4, a5, a6, a7⟩ := hsh j' hj
  rw [e1, e2, isIn_v, isIn_v]
  simp only [Option.bind_some, if_neg (show ¬ (1 : Int32) = 0 by decide)]
  have hsort : (p2 = 0 ∨ p2 = 1) ∨ (FX6_isSort p2 = some 0 ∧ (if p2 < 0 then (0 : Int32) else if 1 < p2 then 0 else 1) = 0) := by
    rcases kind_cases p2 with rfl | rfl | rfl | ⟨k1, k2, k3, k4⟩
    · exact Or.inr ⟨by decide, by decide⟩
    · exact Or.inl (Or.inl rfl)
    · exact Or.inl (Or.inr rfl)
    · refine Or.inr ⟨by unfold FX6_isSort; rw [if_neg k2, if_neg k3], ?_⟩
      rw [isIn_v] at k4
      by_cases h0 : p2 < 0
      · rw [if_pos h0]
      · rw [if_neg h0]
        by_cases h1 : (1 : Int32) < p2
        · rw [if_pos h1]
        · rw [if_neg (fun h => h0 (Int32.lt_trans h (by decide))), if_neg h1] at k4
          cases k4
  rcases hsort with hs | ⟨s1, s2⟩
  · have s1 : FX6_isSort p2 = some 1 := by rcases hs with rfl | rfl <;> simp [FX6_isSort]
    have s2 : (if p2 < 0 then (0 : Int32) else if 1 < p2 then 0 else 1) = 1 := by rcases hs with rfl | rfl <;> decide
    rw [s1, s2]
    simp only [Option.bind_some, if_neg (show ¬ (1 : Int32) = 0 by decide)]
    by_cases c1 : p4 < 0
    · rw [if_pos c1, if_pos c1]
      exact bad (-2)
    rw [if_neg c1, if_neg c1]
    by_cases c2 : p4 ≤ 24
    · rw [if_pos c2, if_neg (Int32.not_lt.mpr c2), if_neg (show ¬ (1 : Int32) = 0 by decide), gi hj (by decide), gi hj (by decide), gi hj (by decide), clp (show j' < 2 ^ 31 by omega), a2]
      unfold FX7_load_b52
      rw [gi hj (by decide), clp (show j' < 2 ^ 31 by omega), a2]
      obtain ⟨m, hm, rfl⟩ : ∃ m : Nat, m ≤ 24 ∧ p4 = nI m := nI_of2 (M := 24) (n := 24) (by decide) c1 c2
      rcases sort_cases a1 with ⟨b1, b2, b3, b4⟩ | ⟨b1, b2, b3, b4⟩
      · rw [b2, if_pos b4, if_neg b3]
        exact bad (-11)
      · rw [b2, if_neg b4]
        simp only [Option.bind_some, if_pos rfl]
        by_cases c3 : sS j' = p2
        · rw [if_pos c3, if_pos c3, if_pos b3]
          by_cases c4 : p3 < 0
          · exact load_far hsh hj hm p2 p3 (Or.inl c4) _ hF 4999
          · obtain ⟨c, hc, rfl⟩ := nI_of c4
            by_cases c5 : c ≤ 100
            · exact load_h hsh hj c5 hm p2 (sS j') 5000 0 0 mbars mbars les gre mlow mhigh nb (Nat.zero_le _) (by omega) hF
            · exact load_far hsh hj hm p2 (nI c) (Or.inr ⟨c, by omega, hc, rfl⟩) _ hF 4999
        · rw [if_neg c3, if_neg c3]
          exact bad (-13)
    · rw [if_neg c2, if_pos (Int32.not_le.mp c2), if_pos rfl]
      exact bad (-2)
  · rw [s1, s2]
    exact bad (-2)
