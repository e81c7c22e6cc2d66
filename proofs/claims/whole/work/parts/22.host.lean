/-! the tape's feed; sheets -/
theorem byte6 (x : Int32) : FX6_isByte x = FX7_isIn x 0 255 := by
  unfold FX6_isByte FX7_isIn
  rfl
theorem feed_h (p1 p2 p3 p4 p5 p6 : Int32) {n t : Nat} (hn : n ≤ 5) (ht : t + n ≤ 30) (e1 : p1 = nI n) : ∀ (f k : Nat) (c m : Nat → Int32), k ≤ n → n - k < f → (∀ i, i < t + k → c i = m i) → ∃ c' m', FX6_feed_h74 p1 p2 p3 p4 p5 p6 f (nI k) c (nI (t + k)) = some (nI (t + n), c', nI (t + n)) ∧ FX7_feed_h87 p1 p2 p3 p4 p5 p6 f (nI k) (nI t) m = some (nI (t + n), nI (t + n), m') ∧ ∀ i, i < t + n → c' i = m' i := by
  subst e1
  intro f
  induction f with
  | zero => intro k _ _ _ h; omega
  | succ f ih =>
    intro k c m hk hf hcm
    show ∃ c' m', FX6_feed_b74 (nI n) p2 p3 p4 p5 p6 (FX6_feed_h74 (nI n) p2 p3 p4 p5 p6 f) (nI k) c (nI (t + k)) = _ ∧ FX7_feed_b87 (nI n) p2 p3 p4 p5 p6 (FX7_feed_h87 (nI n) p2 p3 p4 p5 p6 f) (nI k) (nI t) m = _ ∧ _
    unfold FX6_feed_b74 FX7_feed_b87
    by_cases h : n ≤ k
    · have : k = n := by omega
      subst this
      rw [if_pos (nI_le (Nat.le_refl _) (by omega)), if_pos (nI_le (Nat.le_refl _) (by omega)), nI_add]
      exact ⟨c, m, rfl, rfl, hcm⟩
    · rw [if_neg (nI_ge (by omega) (by omega)), if_neg (nI_ge (by omega) (by omega)), nI_add]
      have go : ∀ x : Int32, ∃ c' m', FX6_feed_b127 (nI n) p2 p3 p4 p5 p6 (FX6_feed_h74 (nI n) p2 p3 p4 p5 p6 f) (nI k) x c (nI (t + k)) = some (nI (t + n), c', nI (t + n)) ∧ FX7_feed_b147 (nI n) p2 p3 p4 p5 p6 (FX7_feed_h87 (nI n) p2 p3 p4 p5 p6 f) (nI k) (nI (t + k)) x (nI t) m = some (nI (t + n), nI (t + n), m') ∧ ∀ i, i < t + n → c' i = m' i := by
        intro x
        unfold FX6_feed_b127 FX7_feed_b147 FX5_add
        rw [if_neg (show ¬ (30 : Int32) ≤ nI (t + k) from nI_ge (show t + k < 30 by omega) (by decide)), gi (by omega) (by decide), gi (by omega) (by decide), clp (by omega), nI_1, nI_1]
        exact ih (k + 1) (upd c (t + k) x) (upd m (t + k) x) (by omega) (by omega) (fun i hi => by
          by_cases e : i = t + k
          · subst e; rw [updS, updS]
          · rw [updN e, updN e]; exact hcm i (by omega))
      split
      · exact go _
      · split
        · exact go _
        · split
          · exact go _
          · split
            · exact go _
            · exact go _
theorem feed_core (p1 p2 p3 p4 p5 p6 : Int32) {t : Nat} (ht : t ≤ 30) {c m : Nat → Int32} (hcm : ∀ i, i < t → c i = m i) : ∃ (r : Int32) (c' m' : Nat → Int32) (t' : Nat), t' ≤ 30 ∧ FX6_feed p1 p2 p3 p4 p5 p6 c (nI t) = some (r, c', nI t') ∧ FX7_feed p1 p2 p3 p4 p5 p6 (nI t) m = some (r, nI t', m') ∧ ∀ i, i < t' → c' i = m' i := by
  unfold FX6_feed FX7_feed
  rw [byte6, byte6, byte6, byte6, byte6, isIn_v, isIn_v, isIn_v, isIn_v, isIn_v, isIn_v]
  have bad : ∃ (r : Int32) (c' m' : Nat → Int32) (t' : Nat), t' ≤ 30 ∧ some ((-2 : Int32), c, nI t) = some (r, c', nI t') ∧ some ((-2 : Int32), nI t, m) = some (r, nI t', m') ∧ ∀ i, i < t' → c' i = m' i := ⟨-2, c, m, t, ht, rfl, rfl, hcm⟩
  by_cases h1 : p1 < 1
  · rw [if_pos h1, if_pos h1]
    exact bad
  · rw [if_neg h1, if_neg h1]
    by_cases h2 : p1 ≤ 5
    · rw [if_pos h2, if_neg (Int32.not_lt.mpr h2)]
      simp only [Option.bind_some, if_neg (show ¬ (1 : Int32) = 0 by decide)]
      by_cases bp2 : (if p2 < 0 then (0 : Int32) else if 255 < p2 then 0 else 1) = 0
      · rw [if_pos bp2, if_pos bp2]; exact bad
      rw [if_neg bp2, if_neg bp2]
      by_cases bp3 : (if p3 < 0 then (0 : Int32) else if 255 < p3 then 0 else 1) = 0
      · rw [if_pos bp3, if_pos bp3]; exact bad
      rw [if_neg bp3, if_neg bp3]
      by_cases bp4 : (if p4 < 0 then (0 : Int32) else if 255 < p4 then 0 else 1) = 0
      · rw [if_pos bp4, if_pos bp4]; exact bad
      rw [if_neg bp4, if_neg bp4]
      by_cases bp5 : (if p5 < 0 then (0 : Int32) else if 255 < p5 then 0 else 1) = 0
      · rw [if_pos bp5, if_pos bp5]; exact bad
      rw [if_neg bp5, if_neg bp5]
      by_cases bp6 : (if p6 < 0 then (0 : Int32) else if 255 < p6 then 0 else 1) = 0
      · rw [if_pos bp6, if_pos bp6]; exact bad
      rw [if_neg bp6, if_neg bp6]
      obtain ⟨n, hn, rfl⟩ : ∃ n : Nat, n ≤ 5 ∧ p1 = nI n := nI_of2 (M := 5) (n := 5) (by decide) (fun h => h1 (Int32.lt_trans h (by decide))) h2
      have hs : (30 : Int32) - nI t = nI (30 - t) := pk_sub ht
      rw [hs, nI_add]
      by_cases h3 : t + n ≤ 30
      · rw [if_pos (nI_le (by omega) (by omega)), if_pos (show nI (t + n) ≤ 30 from nI_le h3 (by decide))]
        obtain ⟨c', m', a1, a2, a3⟩ := feed_h (nI n) p2 p3 p4 p5 p6 hn h3 rfl 5000 0 c m (Nat.zero_le _) (by omega) hcm
        exact ⟨_, c', m', t + n, h3, a1, a2, a3⟩
      · rw [if_neg (nI_ge (by omega) (by omega)), if_neg (show ¬ nI (t + n) ≤ 30 from nI_ge (show 30 < t + n by omega) (by omega))]
        exact ⟨_, c, m, t, ht, rfl, rfl, hcm⟩
    · rw [if_neg h2, if_pos (Int32.not_le.mp h2)]
      exact bad
/-- a sheet's number, or none -/
theorem sheet_cases (x : Int32) : (FX6_isSheet x = some 0 ∧ FX7_isSheet x = some 0 ∧ ¬ vp_in x 4) ∨ ∃ j : Nat, j < 4 ∧ x = nI j ∧ FX6_isSheet x = some 1 ∧ FX7_isSheet x = some 1 := by
  unfold FX6_isSheet FX7_isSheet
  rw [isIn_v]
  by_cases h0 : x < 0
  · rw [if_pos h0, if_pos h0]
    exact Or.inl ⟨rfl, gd_t (Or.inl rfl), fun h => h (Or.inl h0)⟩
  · obtain ⟨j, hj, rfl⟩ := nI_of h0
    rw [if_neg h0, if_neg h0]
    by_cases h1 : 4 ≤ j
    · rw [if_pos (show (4 : Int32) ≤ nI j from nI_le h1 hj), if_pos (show (3 : Int32) < nI j from nI_lt (show 3 < j by omega) hj)]
      exact Or.inl ⟨rfl, gd_t (Or.inl rfl), fun h => h (Or.inr (by rw [clp hj]; exact h1))⟩
    · rw [if_neg (show ¬ (4 : Int32) ≤ nI j from nI_ge (show j < 4 by omega) (by decide)), if_neg (show ¬ (3 : Int32) < nI j from nI_nlt (show j ≤ 3 by omega) (by decide))]
      exact Or.inr ⟨j, by omega, rfl, rfl, gd_t (Or.inr rfl)⟩
/-- the sheets agree -/
def ShR (sS sZ : Nat → Int32) (sI : Nat → Nat → Int32) (mS mZ mI : Nat → Int32) : Prop := ∀ j, j < 4 → (sS j = -1 ∨ sS j = 0 ∨ sS j = 1) ∧ mS j = sS j ∧ ∃ z : Nat, z ≤ 40 ∧ sZ j = nI z ∧ mZ j = nI z ∧ (sS j = -1 → z = 0) ∧ ∀ i, i < z → ItR (sS j) (sI j i) (mI (40 * j + i))
theorem become_h (p1 p2 : Int32) : ∀ (f i : Nat) (a b : Int32) (it : Nat → Int32), i ≤ 40 → 40 - i < f → ∃ it', FX2_become_h12 p1 p2 f (nI i) a b it = some (a, b, it') ∧ ∀ k, (k < i → it' k = it k) ∧ (i ≤ k → k < 40 → it' k = 0) := by
  intro f
  induction f with
  | zero => intro i _ _ _ _ h; omega
  | succ f ih =>
    intro i a b it hi hf
    show ∃ it', FX2_become_b12 p1 p2 (FX2_become_h12 p1 p2 f) (nI i) a b it = _ ∧ _
    unfold FX2_become_b12
    by_cases h : 40 ≤ i
    · rw [if_pos (show (40 : Int32) ≤ nI i from nI_le h (by omega))]
      exact ⟨it, rfl, fun k => ⟨fun _ => rfl, fun h1 h2 => by omega⟩⟩
    · rw [if_neg (show ¬ (40 : Int32) ≤ nI i from nI_ge (show i < 40 by omega) (by decide)), gi (by omega) (by decide), clp (by omega), nI_1]
      obtain ⟨x, e, hk⟩ := ih (i + 1) a b (upd it i 0) (by omega) (by omega)
      refine ⟨x, e, fun k => ⟨fun h1 => ?_, fun h1 h2 => ?_⟩⟩
      · have := (hk k).1 (by omega)
        rwa [updN (by omega)] at this
      · rcases Nat.eq_or_lt_of_le h1 with rfl | h1
        · have := (hk i).1 (by omega)
          rwa [updS] at this
        · exact (hk k).2 h1 h2
theorem become_v (p1 p2 a b : Int32) (it : Nat → Int32) : ∃ it', FX2_become p1 p2 a b it = some (p1, p2, it') ∧ ∀ k, k < 40 → it' k = 0 := by
  obtain ⟨x, e, hk⟩ := become_h p1 p2 5000 0 p1 p2 it (by omega) (by omega)
  exact ⟨x, e, fun k h => (hk k).2 (Nat.zero_le _) h⟩
theorem mul40 (j : Nat) : (40 : Int32) * nI j = nI (40 * j) := pk_mul 40 j
theorem sheet7_h {j : Nat} (hj : j < 4) (p2 p3 : Int32) : ∀ (f i : Nat) (a b it : Nat → Int32), i ≤ 40 → 40 - i < f → ∃ it', FX7_sheet_h65 (nI j) p2 p3 f (nI i) a b it = some (1, a, b, it') ∧ ∀ k, it' k = if 40 * j + i ≤ k ∧ k < 40 * j + 40 then 0 else it k := by
  intro f
  induction f with
  | zero => intro i _ _ _ _ h; omega
  | succ f ih =>
    intro i a b it hi hf
    show ∃ it', FX7_sheet_b65 (nI j) p2 p3 (FX7_sheet_h65 (nI j) p2 p3 f) (nI i) a b it = _ ∧ _
    unfold FX7_sheet_b65
    rw [mul40, nI_add]
    by_cases h : 40 ≤ i
    · rw [if_pos (show (40 : Int32) ≤ nI i from nI_le h (by omega))]
      exact ⟨it, rfl, fun k => by rw [if_neg (by omega)]⟩
    · rw [if_neg (show ¬ (40 : Int32) ≤ nI i from nI_ge (show i < 40 by omega) (by decide)), gi (by omega) (by decide), clp (by omega), nI_1]
      obtain ⟨x, e, hk⟩ := ih (i + 1) a b (upd it (40 * j + i) 0) (by omega) (by omega)
      refine ⟨x, e, fun k => ?_⟩
      rw [hk k]
      by_cases h1 : 40 * j + (i + 1) ≤ k ∧ k < 40 * j + 40
      · rw [if_pos h1, if_pos (by omega)]
      · rw [if_neg h1]
        by_cases h2 : k = 40 * j + i
        · subst h2; rw [updS, if_pos (by omega)]
        · rw [updN h2, if_neg (by omega)]
theorem ItR0 (s : Int32) : ItR s 0 0 := by
  unfold ItR
  split
  · exact ⟨by decide, by decide⟩
  · rfl
theorem kind_cases (x : Int32) : x = -1 ∨ x = 0 ∨ x = 1 ∨ (¬ x = -1 ∧ ¬ x = 0 ∧ ¬ x = 1 ∧ FX7_isIn x (-1) 1 = some 0) := by
  by_cases h1 : x = -1
  · exact Or.inl h1
  by_cases h2 : x = 0
  · exact Or.inr (Or.inl h2)
  by_cases h3 : x = 1
  · exact Or.inr (Or.inr (Or.inl h3))
  refine Or.inr (Or.inr (Or.inr ⟨h1, h2, h3, ?_⟩))
  rw [isIn_v]
  by_cases h4 : x < -1
  · rw [if_pos h4]
  · rw [if_neg h4]
    by_cases h5 : 1 < x
    · rw [if_pos h5]
    · exfalso
      rw [Int32.lt_iff_toInt_lt] at h4 h5
      have e1 : (-1 : Int32).toInt = -1 := by decide
      have e2 : (1 : Int32).toInt = 1 := by decide
      rw [e1] at h4
      rw [e2] at h5
      rcases (show x.toInt = -1 ∨ x.toInt = 0 ∨ x.toInt = 1 by omega) with h | h | h
      · exact h1 (Int32.toInt_inj.mp (by rw [h, e1]))
      · exact h2 (Int32.toInt_inj.mp (by rw [h]; rfl))
      · exact h3 (Int32.toInt_inj.mp (by rw [h, e2]))
theorem ShR.set {sS sZ : Nat → Int32} {sI : Nat → Nat → Int32} {mS mZ mI mI' : Nat → Int32} (h : ShR sS sZ sI mS mZ mI) {j z : Nat} (hj : j < 4) (hz : z ≤ 40) {k : Int32} (hk : k = -1 ∨ k = 0 ∨ k = 1) (hkz : k = -1 → z = 0) {it : Nat → Int32} (hin : ∀ i, i < z → ItR k (it i) (mI' (40 * j + i))) (hout : ∀ i, (i < 40 * j ∨ 40 * j + 40 ≤ i) → mI' i = mI i) : ShR (upd sS j k) (upd sZ j (nI z)) (va_up sI j it) (upd mS j k) (upd mZ j (nI z)) mI' := by
  intro i hi
  by_cases e : i = j
  · subst e
    rw [updS, updS, updS, updS]
    exact ⟨hk, rfl, z, hz, rfl, rfl, hkz, fun q hq => by rw [show va_up sI i it i = it from by simp [va_up]]; exact hin q hq⟩
  · rw [updN e, updN e, updN e, updN e]
    obtain ⟨a1, a2, z', a3, a4, a5, a6, a7⟩ := h i hi
    refine ⟨a1, a2, z', a3, a4, a5, a6, fun q hq => ?_⟩
    rw [show va_up sI j it i = sI i from by simp [va_up, e], hout _ (by omega)]
    exact a7 q hq
theorem upd_id (f : Nat → Int32) (j : Nat) : upd f j (f j) = f := by
  funext k
  by_cases e : k = j
  · subst e; rw [updS]
  · rw [updN e]
theorem vaup_id {α : Type} (f : Nat → α) (j : Nat) : va_up f j (f j) = f := by
  funext k
  by_cases e : k = j
  · subst e; simp [va_up]
  · simp [va_up, e]
theorem sheet_core (p1 p2 p3 : Int32) {sS sZ : Nat → Int32} {sI : Nat → Nat → Int32} {mS mZ mI : Nat → Int32} (h : ShR sS sZ sI mS mZ mI) {j : Nat} (hj : j < 4) (hp : vp_in p1 4 → p1.toNatClampNeg = j) :
    ∃ (r s' z' : Int32) (it' mS' mZ' mI' : Nat → Int32), FX6_sheet p1 p2 p3 (sS j) (sZ j) (sI j) = some (r, s', z', it') ∧ FX7_sheet p1 p2 p3 mS mZ mI = some (r, mS', mZ', mI') ∧ ShR (upd sS j s') (upd sZ j z') (va_up sI j it') mS' mZ' mI' := by
  have same : ShR (upd sS j (sS j)) (upd sZ j (sZ j)) (va_up sI j (sI j)) mS mZ mI := by
    rw [upd_id, upd_id, vaup_id]; exact h
  unfold FX6_sheet FX7_sheet
  rcases sheet_cases p1 with ⟨e1, e2, _⟩ | ⟨j', hj', rfl, e1, e2⟩
  · rw [e1, e2]
    exact ⟨-2, _, _, _, _, _, _, rfl, rfl, same⟩
  · have ej : j' = j := by have := hp (vin hj' (by decide)); rwa [clp (by omega)] at this
    subst ej
    rw [e1, e2]
    simp only [Option.bind_some, if_neg (show ¬ (1 : Int32) = 0 by decide)]
    unfold FX6_sheet_b22 FX7_sheet_b29 FX7_sheet_b40 FX7_sheet_b61
    rw [gi hj' (by decide), gi hj' (by decide), gi hj' (by decide), gi hj' (by decide), gi hj' (by decide), clp (by omega)]
    have fin : ∀ (k : Int32) (z : Nat) (hk : k = -1 ∨ k = 0 ∨ k = 1) (hkz : k = -1 → z = 0) (hz : z ≤ 40), ∃ (r s' z' : Int32) (it' mS' mZ' mI' : Nat → Int32), ((FX2_become k (nI z) (sS j') (sZ j') (sI j')).bind (fun r7 => (some ((1 : Int32), r7.1, r7.2.1, r7.2.2)))) = some (r, s', z', it') ∧ FX7_sheet_h65 (nI j') p2 p3 5000 0 (upd mS j' k) (upd mZ j' (nI z)) mI = some (r, mS', mZ', mI') ∧ ShR (upd sS j' s') (upd sZ j' z') (va_up sI j' it') mS' mZ' mI' := by
      intro k z hk hkz hz
      obtain ⟨it, b1, b2⟩ := become_v k (nI z) (sS j') (sZ j') (sI j')
      obtain ⟨mi, b3, b4⟩ := sheet7_h hj' p2 p3 5000 0 (upd mS j' k) (upd mZ j' (nI z)) mI (by omega) (by omega)
      rw [b1]
      refine ⟨1, k, nI z, it, _, _, mi, rfl, b3, h.set hj' hz hk hkz (fun i hi => ?_) (fun i hi => ?_)⟩
      · rw [b2 i (by omega), b4, if_pos (by omega)]
        exact ItR0 k
      · rw [b4, if_neg (by omega)]
    rcases kind_cases p2 with rfl | rfl | rfl | ⟨k1, k2, k3, k4⟩
    · rw [if_pos rfl, if_pos rfl, isIn_v]
      simp only [Option.bind_some, if_neg (show ¬ (-1 : Int32) < -1 by decide), if_neg (show ¬ (1 : Int32) < -1 by decide), if_neg (show ¬ (1 : Int32) = 0 by decide), if_pos (show (-1 : Int32) < 0 by decide), if_neg (show ¬ (0 : Int32) ≤ -1 by decide)]
      exact fin (-1) 0 (Or.inl rfl) (fun _ => rfl) (by omega)
    · rw [if_neg (show ¬ (0 : Int32) = -1 by decide), if_neg (show ¬ (0 : Int32) = -1 by decide), isIn_v]
      simp only [FX6_isSort, Option.bind_some, if_pos rfl, if_neg (show ¬ (0 : Int32) < -1 by decide), if_neg (show ¬ (1 : Int32) < 0 by decide), if_neg (show ¬ (1 : Int32) = 0 by decide), if_neg (show ¬ (0 : Int32) < 0 by decide), if_pos (show (0 : Int32) ≤ 0 by decide)]
      by_cases c1 : p3 ≤ 40
      · rw [if_pos c1, if_pos c1]
        by_cases c2 : 0 ≤ p3
        · rw [if_pos c2, if_pos c2]
          obtain ⟨z, hz, rfl⟩ : ∃ z : Nat, z ≤ 40 ∧ p3 = nI z := nI_of2 (M := 40) (n := 40) (by decide) (Int32.not_lt.mpr c2) c1
          exact fin 0 z (Or.inr (Or.inl rfl)) (fun h => absurd h (by decide)) hz
        · rw [if_neg c2, if_neg c2]
          exact ⟨_, _, _, _, _, _, _, rfl, rfl, same⟩
      · rw [if_neg c1, if_neg c1]
        exact ⟨_, _, _, _, _, _, _, rfl, rfl, same⟩
    · rw [if_neg (show ¬ (1 : Int32) = -1 by decide), if_neg (show ¬ (1 : Int32) = -1 by decide), isIn_v]
      simp only [FX6_isSort, Option.bind_some, if_neg (show ¬ (1 : Int32) = 0 by decide), if_pos rfl, if_neg (show ¬ (1 : Int32) < -1 by decide), if_neg (show ¬ (1 : Int32) < 1 by decide), if_neg (show ¬ (1 : Int32) < 0 by decide), if_pos (show (0 : Int32) ≤ 1 by decide)]
      by_cases c1 : p3 ≤ 40
      · rw [if_pos c1, if_pos c1]
        by_cases c2 : 0 ≤ p3
        · rw [if_pos c2, if_pos c2]
          obtain ⟨z, hz, rfl⟩ : ∃ z : Nat, z ≤ 40 ∧ p3 = nI z := nI_of2 (M := 40) (n := 40) (by decide) (Int32.not_lt.mpr c2) c1
          exact fin 1 z (Or.inr (Or.inr rfl)) (fun h => absurd h (by decide)) hz
        · rw [if_neg c2, if_neg c2]
          exact ⟨_, _, _, _, _, _, _, rfl, rfl, same⟩
      · rw [if_neg c1, if_neg c1]
        exact ⟨_, _, _, _, _, _, _, rfl, rfl, same⟩
    · rw [if_neg k1, k4]
      unfold FX6_isSort
      rw [if_neg k2, if_neg k3]
      exact ⟨_, _, _, _, _, _, _, rfl, rfl, same⟩
