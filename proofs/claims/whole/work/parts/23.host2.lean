/-! put, copy, load -/
theorem isInP_t {j n : Nat} (hj : j < n) (hn : n < 2 ^ 31) : FX7_isIn (nI j) 0 (nI n - 1) = some 1 := by
  rw [isIn_v, sub1I (by omega), if_neg (nI_pos (by omega)), if_neg (nI_nlt (by omega) (by omega))]
theorem isInP_f {x : Int32} {n : Nat} (hn : n < 2 ^ 31) (h : ∀ j : Nat, j < n → ¬ x = nI j) : FX7_isIn x 0 (nI n - 1) = some 0 := by
  rw [isIn_v]
  congr 1
  by_cases h0 : x < 0
  · rw [if_pos h0]
  · rw [if_neg h0]
    obtain ⟨j, hj, rfl⟩ := nI_of h0
    by_cases h1 : n ≤ j
    · rw [if_pos]
      rw [Int32.lt_iff_toInt_lt, nI_toInt hj]
      have : (nI n - 1 : Int32).toInt = (n : Int) - 1 := by
        rcases Nat.eq_zero_or_pos n with rfl | hp
        · decide
        · rw [sub1I hp, nI_toInt (by omega)]; omega
      omega
    · exact absurd rfl (h j (by omega))
theorem has_t {j n : Nat} (hj : j < n) (hn : n < 2 ^ 31) : FX2_has (nI j) (nI n) = some 1 := isPin6_t hj hn
theorem has_f {x : Int32} {n : Nat} (hn : n < 2 ^ 31) (h : ∀ j : Nat, j < n → ¬ x = nI j) : FX2_has x (nI n) = some 0 := isPin6_f hn h
theorem sort_cases {k : Int32} (h : k = -1 ∨ k = 0 ∨ k = 1) : (k = -1 ∧ FX2_isMissing k = some 1 ∧ ¬ (0 : Int32) ≤ k ∧ k < 0) ∨ (¬ k = -1 ∧ FX2_isMissing k = some 0 ∧ (0 : Int32) ≤ k ∧ ¬ k < 0) := by
  rcases h with rfl | rfl | rfl
  · exact Or.inl ⟨rfl, rfl, by decide, by decide⟩
  · exact Or.inr ⟨by decide, by simp [FX2_isMissing], by decide, by decide⟩
  · exact Or.inr ⟨by decide, by simp [FX2_isMissing], by decide, by decide⟩
theorem low8 (x : Int32) : x.toInt8.toInt32 &&& 255 = x &&& 255 := by
  have h1 := pk_and (x.toInt8.toInt32) (m := 255) 8 (by decide)
  have h2 := pk_and x (m := 255) 8 (by decide)
  rw [h1, h2]
  congr 1
  rw [Int8.toBitVec_toInt32, Int32.toBitVec_toInt8, BitVec.toNat_signExtend, BitVec.signExtend_eq_setWidth_of_le _ (by decide)]
  simp only [BitVec.toNat_setWidth]
  split <;> omega
theorem low8i (x : Int32) : x.toInt8.toInt32.toInt8.toInt32 = x.toInt8.toInt32 := by
  have : x.toInt8.toInt32.toInt8 = x.toInt8 := by simp
  rw [this]
theorem ItR_put (s v : Int32) : ItR s (if s = 0 then v &&& 255 else v) (if s = 0 then v.toInt8.toInt32 else v) := by
  unfold ItR
  by_cases h : s = 0
  · rw [if_pos h, if_pos h, if_pos h]
    exact ⟨(low8 v).symm, (low8i v).symm⟩
  · rw [if_neg h, if_neg h, if_neg h]
theorem ShR.item {sS sZ : Nat → Int32} {sI : Nat → Nat → Int32} {mS mZ mI mI' : Nat → Int32} (h : ShR sS sZ sI mS mZ mI) {j z : Nat} (hj : j < 4) (hz : sZ j = nI z) (hz4 : z ≤ 40) {it : Nat → Int32} (hin : ∀ i, i < z → ItR (sS j) (it i) (mI' (40 * j + i))) (hout : ∀ i, (i < 40 * j ∨ 40 * j + 40 ≤ i) → mI' i = mI i) : ShR sS sZ (va_up sI j it) mS mZ mI' := by
  intro i hi
  obtain ⟨a1, a2, z', a3, a4, a5, a6, a7⟩ := h i hi
  refine ⟨a1, a2, z', a3, a4, a5, a6, fun q hq => ?_⟩
  by_cases e : i = j
  · subst e
    have : z' = z := (nI_eq (by omega) (by omega)).mp (a4.symm.trans hz)
    subst this
    rw [show va_up sI i it i = it from by simp [va_up]]
    exact hin q hq
  · rw [show va_up sI j it i = sI i from by simp [va_up, e], hout _ (by omega)]
    exact a7 q hq
theorem put_core (p1 p2 p3 : Int32) {sS sZ : Nat → Int32} {sI : Nat → Nat → Int32} {mS mZ mI : Nat → Int32} (h : ShR sS sZ sI mS mZ mI) {j : Nat} (hj : j < 4) (hp : vp_in p1 4 → p1.toNatClampNeg = j) :
    ∃ (r : Int32) (it' mI' : Nat → Int32), FX6_put p1 p2 p3 (sS j) (sZ j) (sI j) = some (r, it') ∧ FX7_put p1 p2 p3 mS mZ mI = some (r, mI') ∧ ShR sS sZ (va_up sI j it') mS mZ mI' := by
  have same : ShR sS sZ (va_up sI j (sI j)) mS mZ mI := by rw [vaup_id]; exact h
  unfold FX6_put FX7_put
  rcases sheet_cases p1 with ⟨e1, e2, _⟩ | ⟨j', hj', rfl, e1, e2⟩
  · rw [e1, e2]
    exact ⟨-2, _, _, rfl, rfl, same⟩
  · have ej : j' = j := by have := hp (vin hj' (by decide)); rwa [clp (by omega)] at this
    subst ej
    obtain ⟨a1, a2, z, a3, a4, a5, a6, a7⟩ := h j' hj
    rw [e1, e2]
    simp only [Option.bind_some, if_neg (show ¬ (1 : Int32) = 0 by decide), gi hj (show 4 < 2 ^ 31 by decide), clp (show j' < 2 ^ 31 by omega), a2, a4, a5]
    rcases sort_cases a1 with ⟨b1, b2, b3, b4⟩ | ⟨b1, b2, b3, b4⟩
    · rw [b2, if_neg b3]
      exact ⟨-11, _, _, rfl, rfl, same⟩
    · rw [b2, if_pos b3]
      simp only [Option.bind_some, if_pos rfl]
      rcases cases_lt p2 (n := z) (by omega) with ⟨i, hi, rfl⟩ | hn
      · rw [has_t hi (by omega), isInP_t hi (by omega)]
        simp only [Option.bind_some, if_neg (show ¬ (1 : Int32) = 0 by decide)]
        unfold FX2_write FX2_write_b29 FX7_put_b66
        rw [has_t hi (by omega)]
        simp only [Option.bind_some, if_neg (show ¬ (1 : Int32) = 0 by decide), mul40, nI_add, gi (show i < 40 by omega) (show 40 < 2 ^ 31 by decide), gi (show 40 * j' + i < 160 by omega) (show 160 < 2 ^ 31 by decide), clp (show i < 2 ^ 31 by omega), clp (show 40 * j' + i < 2 ^ 31 by omega)]
        have key := ItR_put (sS j') p3
        have go : ∀ x y : Int32, ItR (sS j') x y → ShR sS sZ (va_up sI j' (upd (sI j') i x)) mS mZ (upd mI (40 * j' + i) y) := by
          intro x y hxy
          refine h.item hj a4 a3 (fun k hk => ?_) (fun k hk => by rw [updN (by omega)])
          by_cases e : k = i
          · subst e; rw [updS, updS]; exact hxy
          · rw [updN e, updN (by omega)]; exact a7 k hk
        by_cases hs : sS j' = 0
        · rw [if_pos hs, if_pos hs] at key
          rw [if_pos hs, if_pos hs]
          exact ⟨1, _, _, rfl, rfl, go _ _ key⟩
        · rw [if_neg hs, if_neg hs] at key
          rw [if_neg hs, if_neg hs]
          exact ⟨1, _, _, rfl, rfl, go _ _ key⟩
      · rw [has_f (by omega) hn, isInP_f (by omega) hn]
        exact ⟨-12, _, _, rfl, rfl, same⟩
theorem subI {z n : Nat} (hz : z < 2 ^ 30) (hn : n < 2 ^ 31) : (nI z - nI n).toInt = (z : Int) - n := by
  rw [Int32.toInt_sub, nI_toInt (by omega), nI_toInt hn]
  have : (2 : Int) ^ 32 = 4294967296 := by decide
  simp only [Int.bmod]
  omega
theorem run_v {z a n : Nat} (hz : z ≤ 40) (ha : a < 2 ^ 31) (hn : n < 2 ^ 31) : FX2_hasRun (nI a) (nI n) (nI z) = some (if a + n ≤ z then 1 else 0) := by
  unfold FX2_hasRun
  rw [if_neg (nI_pos ha), if_neg (nI_pos hn)]
  by_cases h1 : z < a
  · rw [if_pos (nI_lt h1 ha), if_neg (by omega)]
  · rw [if_neg (nI_nlt (by omega) (by omega)), pk_sub (by omega)]
    by_cases h2 : z - a < n
    · rw [if_pos (nI_lt h2 hn), if_neg (by omega)]
    · rw [if_neg (nI_nlt (by omega) (by omega)), if_pos (by omega)]
theorem run_neg {x y s : Int32} (h : x < 0 ∨ y < 0) : FX2_hasRun x y s = some 0 := by
  unfold FX2_hasRun
  by_cases h1 : x < 0
  · rw [if_pos h1]
  · rw [if_neg h1, if_pos (h.resolve_left h1)]
theorem copy7a {i a n : Nat} (hi : i < 4) (ha : a + n ≤ 40) (p3 p4 : Int32) (mS mZ : Nat → Int32) : ∀ (f k : Nat) (it ca : Nat → Int32), k ≤ n → n - k < f → ∃ ca', FX7_copy_h103 (nI i) (nI a) p3 p4 (nI n) mS mZ f (nI k) it ca = FX7_copy_h140 (nI i) (nI a) p3 p4 (nI n) mS mZ 5000 0 it ca' ∧ ∀ q, (q < k → ca' q = ca q) ∧ (k ≤ q → q < n → ca' q = it (40 * i + a + q)) := by
  intro f
  induction f with
  | zero => intro k _ _ _ h; omega
  | succ f ih =>
    intro k it ca hk hf
    show ∃ ca', FX7_copy_b103 (nI i) (nI a) p3 p4 (nI n) mS mZ (FX7_copy_h103 (nI i) (nI a) p3 p4 (nI n) mS mZ f) (nI k) it ca = _ ∧ _
    unfold FX7_copy_b103
    by_cases h : n ≤ k
    · rw [if_pos (nI_le h (by omega))]
      exact ⟨ca, rfl, fun q => ⟨fun _ => rfl, fun h1 h2 => by omega⟩⟩
    · rw [if_neg (nI_ge (by omega) (by omega)), mul40, nI_add, nI_add, gi (by omega) (by decide), gi (by omega) (by decide), clp (by omega), clp (by omega), nI_1]
      obtain ⟨x, e, hq⟩ := ih (k + 1) it (upd ca k (it (40 * i + a + k))) (by omega) (by omega)
      refine ⟨x, e, fun q => ⟨fun h1 => ?_, fun h1 h2 => ?_⟩⟩
      · have := (hq q).1 (by omega)
        rwa [updN (by omega)] at this
      · rcases Nat.eq_or_lt_of_le h1 with rfl | h1
        · have := (hq k).1 (by omega)
          rwa [updS] at this
        · exact (hq q).2 h1 h2
theorem copy7b {j c n : Nat} (hj : j < 4) (hc : c + n ≤ 40) (p1 p2 : Int32) (mS mZ : Nat → Int32) : ∀ (f k : Nat) (it ca : Nat → Int32), k ≤ n → n - k < f → ∃ it', FX7_copy_h140 p1 p2 (nI j) (nI c) (nI n) mS mZ f (nI k) it ca = some (nI n, it', ca) ∧ ∀ q, it' q = if 40 * j + c + k ≤ q ∧ q < 40 * j + c + n then ca (q - (40 * j + c)) else it q := by
  intro f
  induction f with
  | zero => intro k _ _ _ h; omega
  | succ f ih =>
    intro k it ca hk hf
    show ∃ it', FX7_copy_b140 p1 p2 (nI j) (nI c) (nI n) mS mZ (FX7_copy_h140 p1 p2 (nI j) (nI c) (nI n) mS mZ f) (nI k) it ca = _ ∧ _
    unfold FX7_copy_b140
    by_cases h : n ≤ k
    · rw [if_pos (nI_le h (by omega))]
      exact ⟨it, rfl, fun q => by rw [if_neg (by omega)]⟩
    · rw [if_neg (nI_ge (by omega) (by omega)), mul40, nI_add, nI_add, gi (by omega) (by decide), gi (by omega) (by decide), clp (by omega), clp (by omega), nI_1]
      obtain ⟨x, e, hq⟩ := ih (k + 1) (upd it (40 * j + c + k) (ca k)) ca (by omega) (by omega)
      refine ⟨x, e, fun q => ?_⟩
      rw [hq q]
      by_cases h1 : 40 * j + c + (k + 1) ≤ q ∧ q < 40 * j + c + n
      · rw [if_pos h1, if_pos (by omega)]
      · rw [if_neg h1]
        by_cases h2 : q = 40 * j + c + k
        · subst h2
          rw [updS, if_pos (by omega), show 40 * j + c + k - (40 * j + c) = k by omega]
        · rw [updN h2, if_neg (by omega)]
/-- both copies, the places at hand -/
theorem copy_in {sS sZ : Nat → Int32} {sI : Nat → Nat → Int32} {mS mZ mI : Nat → Int32} (h : ShR sS sZ sI mS mZ mI) {i j a c n zi zj : Nat} (hi : i < 4) (hj : j < 4) (hs : sS i = sS j) (hzi : sZ i = nI zi) (hzj : sZ j = nI zj) (h4i : zi ≤ 40) (h4j : zj ≤ 40) (ha : a + n ≤ zi) (hc : c + n ≤ zj) (ca : Nat → Int32) : ∃ mI' ca', FX7_copy_h103 (nI i) (nI a) (nI j) (nI c) (nI n) mS mZ 5000 0 mI ca = some (nI n, mI', ca') ∧ ShR sS sZ (va_up sI j (va_cpy (sI i) (sI j) a c n)) mS mZ mI' := by
  obtain ⟨ca', e1, q1⟩ := copy7a hi (show a + n ≤ 40 by omega) (nI j) (nI c) mS mZ 5000 0 mI ca (Nat.zero_le _) (by omega)
  obtain ⟨it', e2, q2⟩ := copy7b hj (show c + n ≤ 40 by omega) (nI i) (nI a) mS mZ 5000 0 mI ca' (Nat.zero_le _) (by omega)
  refine ⟨it', ca', e1.trans e2, h.item hj hzj h4j (fun k hk => ?_) (fun k hk => ?_)⟩
  · rw [q2]
    by_cases hin : c ≤ k ∧ k < c + n
    · rw [pk_cpy_in hin.1 hin.2, if_pos (by omega), (q1 _).2 (Nat.zero_le _) (by omega), show 40 * j + k - (40 * j + c) = k - c by omega, show 40 * i + a + (k - c) = 40 * i + (a + (k - c)) by omega]
      obtain ⟨b1, b2, z', b3, b4, b5, b6, b7⟩ := h i hi
      have : z' = zi := (nI_eq (by omega) (by omega)).mp (b4.symm.trans hzi)
      subst this
      have := b7 (a + (k - c)) (by omega)
      rwa [hs] at this
    · rw [pk_cpy_out (by omega), if_neg (by omega)]
      obtain ⟨b1, b2, z', b3, b4, b5, b6, b7⟩ := h j hj
      have : z' = zj := (nI_eq (by omega) (by omega)).mp (b4.symm.trans hzj)
      subst this
      exact b7 k hk
  · rw [q2, if_neg (by omega)]
/-- copy, both sheets there: what is tested, and what comes -/
theorem copy_body {sS sZ : Nat → Int32} {sI : Nat → Nat → Int32} {mS mZ mI : Nat → Int32} (h : ShR sS sZ sI mS mZ mI) {i j : Nat} (hi : i < 4) (hj : j < 4) (p2 p4 p5 : Int32) (ca : Nat → Int32) :
    ∃ (r : Int32) (it' mI' ca' : Nat → Int32),
      ((FX2_isMissing (sS i)).bind (fun r7 => (if r7 = 0 then ((FX2_isMissing (sS j)).bind (fun r9 => (if r9 = 0 then (if sS i = sS j then ((FX2_hasRun p2 p5 (sZ i)).bind (fun r12 => (if r12 = 0 then (some ((-12 : Int32), sI j)) else ((FX2_hasRun p4 p5 (sZ j)).bind (fun r14 => (if r14 = 0 then (some ((-12 : Int32), sI j)) else (gd (¬ p2 < 0 ∧ ¬ p4 < 0 ∧ ¬ p5 < 0 ∧ p2.toNatClampNeg + p5.toNatClampNeg ≤ 40 ∧ p4.toNatClampNeg + p5.toNatClampNeg ≤ 40) (some (p5, (va_cpy (sI i) (sI j) p2.toNatClampNeg p4.toNatClampNeg p5.toNatClampNeg)))))))))) else (some ((-13 : Int32), sI j))) else (some ((-11 : Int32), sI j))))) else (some ((-11 : Int32), sI j))))) = some (r, it') ∧
      (if (mS i) < 0 then (some ((-11 : Int32), mI, ca)) else (if 0 ≤ (mS j) then (if (mS i) = (mS j) then (if p5 < 0 then (some ((-12 : Int32), mI, ca)) else (if p2 < 0 then (some ((-12 : Int32), mI, ca)) else (if p4 < 0 then (some ((-12 : Int32), mI, ca)) else (if ((mZ i) - p5) < p2 then (some ((-12 : Int32), mI, ca)) else (if p4 ≤ ((mZ j) - p5) then (FX7_copy_h103 (nI i) p2 (nI j) p4 p5 mS mZ 5000 0 mI ca) else (some ((-12 : Int32), mI, ca))))))) else (some ((-13 : Int32), mI, ca))) else (some ((-11 : Int32), mI, ca)))) = some (r, mI', ca') ∧ ShR sS sZ (va_up sI j it') mS mZ mI' := by
  have same : ShR sS sZ (va_up sI j (sI j)) mS mZ mI := by rw [vaup_id]; exact h
  obtain ⟨a1, a2, z, a3, a4, a5, a6, a7⟩ := h i hi
  obtain ⟨b1, b2, y, b3, b4, b5, b6, b7⟩ := h j hj
  rw [a2, b2, a4, b4, a5, b5]
  rcases sort_cases a1 with ⟨_, c2, _, c4⟩ | ⟨_, c2, _, c4⟩
  · rw [c2, if_pos c4]
    exact ⟨-11, _, _, _, rfl, rfl, same⟩
  rw [c2, if_neg c4]
  rcases sort_cases b1 with ⟨_, d2, d3, _⟩ | ⟨_, d2, d3, _⟩
  · rw [d2, if_neg d3]
    exact ⟨-11, _, _, _, rfl, rfl, same⟩
  rw [d2, if_pos d3]
  simp only [Option.bind_some, if_pos rfl]
  by_cases hs : sS i = sS j
  · rw [if_pos hs, if_pos hs]
    by_cases h5 : p5 < 0
    · rw [if_pos h5, run_neg (Or.inr h5)]
      exact ⟨-12, _, _, _, rfl, rfl, same⟩
    rw [if_neg h5]
    by_cases h2 : p2 < 0
    · rw [if_pos h2, run_neg (Or.inl h2)]
      exact ⟨-12, _, _, _, rfl, rfl, same⟩
    rw [if_neg h2]
    obtain ⟨n, hn, rfl⟩ := nI_of h5
    obtain ⟨a, ha, rfl⟩ := nI_of h2
    rw [run_v a3 ha hn]
    by_cases h4 : p4 < 0
    · rw [if_pos h4, run_neg (Or.inl h4)]
      refine ⟨-12, sI j, mI, ca, ?_, rfl, same⟩
      simp
    rw [if_neg h4]
    obtain ⟨c, hc, rfl⟩ := nI_of h4
    rw [run_v b3 hc hn]
    simp only [Option.bind_some]
    by_cases g1 : a + n ≤ z
    · rw [if_pos g1, if_neg (show ¬ (1 : Int32) = 0 by decide), if_neg (show ¬ nI z - nI n < nI a by rw [Int32.lt_iff_toInt_lt, subI (by omega) hn, nI_toInt ha]; omega)]
      by_cases g2 : c + n ≤ y
      · rw [if_pos g2, if_neg (show ¬ (1 : Int32) = 0 by decide), if_pos (show nI c ≤ nI y - nI n by rw [Int32.le_iff_toInt_le, subI (by omega) hn, nI_toInt hc]; omega), clp ha, clp hc, clp hn, gd_t ⟨h2, h4, h5, by omega, by omega⟩]
        obtain ⟨mI', ca', e, hh⟩ := copy_in h hi hj hs a4 b4 a3 b3 g1 g2 ca
        exact ⟨nI n, _, mI', ca', rfl, e, hh⟩
      · rw [if_neg g2, if_pos rfl, if_neg (show ¬ nI c ≤ nI y - nI n by rw [Int32.le_iff_toInt_le, subI (by omega) hn, nI_toInt hc]; omega)]
        exact ⟨-12, _, _, _, rfl, rfl, same⟩
    · rw [if_neg g1, if_pos rfl, if_pos (show nI z - nI n < nI a by rw [Int32.lt_iff_toInt_lt, subI (by omega) hn, nI_toInt ha]; omega)]
      exact ⟨-12, _, _, _, rfl, rfl, same⟩
  · rw [if_neg hs, if_neg hs]
    exact ⟨-13, _, _, _, rfl, rfl, same⟩
theorem copy_core (p1 p2 p3 p4 p5 : Int32) {sS sZ : Nat → Int32} {sI : Nat → Nat → Int32} {mS mZ mI : Nat → Int32} (h : ShR sS sZ sI mS mZ mI) {i j : Nat} (hi : i < 4) (hj : j < 4) (hp : vp_in p1 4 → p1.toNatClampNeg = i) (hq : vp_in p3 4 → p3.toNatClampNeg = j) (ca : Nat → Int32) :
    ∃ (r : Int32) (it' mI' ca' : Nat → Int32), FX6_copy p1 p2 p3 p4 p5 (sS i) (sZ i) (sI i) (sS j) (sZ j) (sI j) = some (r, it') ∧ FX7_copy p1 p2 p3 p4 p5 mS mZ mI ca = some (r, mI', ca') ∧ ShR sS sZ (va_up sI j it') mS mZ mI' := by
  have same : ShR sS sZ (va_up sI j (sI j)) mS mZ mI := by rw [vaup_id]; exact h
  unfold FX6_copy FX7_copy
  rcases sheet_cases p1 with ⟨e1, e2, _⟩ | ⟨i', hi', rfl, e1, e2⟩
  · rw [e1, e2]
    exact ⟨-2, _, _, _, rfl, rfl, same⟩
  have ei : i' = i := by have := hp (vin hi' (by decide)); rwa [clp (by omega)] at this
  subst ei
  rw [e1, e2]
  rcases sheet_cases p3 with ⟨f1, f2, _⟩ | ⟨j', hj', rfl, f1, f2⟩
  · rw [f1, f2]
    exact ⟨-2, _, _, _, rfl, rfl, same⟩
  have ej : j' = j := by have := hq (vin hj' (by decide)); rwa [clp (by omega)] at this
  subst ej
  rw [f1, f2]
  simp only [Option.bind_some, if_neg (show ¬ (1 : Int32) = 0 by decide), gi hi (show 4 < 2 ^ 31 by decide), gi hj (show 4 < 2 ^ 31 by decide), clp (show i' < 2 ^ 31 by omega), clp (show j' < 2 ^ 31 by omega)]
  exact copy_body h hi hj p2 p4 p5 ca
theorem copyS_core (p1 p2 p3 p4 p5 : Int32) {sS sZ : Nat → Int32} {sI : Nat → Nat → Int32} {mS mZ mI : Nat → Int32} (h : ShR sS sZ sI mS mZ mI) {j : Nat} (hj : j < 4) (hp : vp_in p1 4 → p1.toNatClampNeg = j) (hq : vp_in p3 4 → p3.toNatClampNeg = j) (ca : Nat → Int32) :
    ∃ (r : Int32) (it' mI' ca' : Nat → Int32), FX6_copyS p1 p2 p3 p4 p5 (sS j) (sZ j) (sI j) = some (r, it') ∧ FX7_copy p1 p2 p3 p4 p5 mS mZ mI ca = some (r, mI', ca') ∧ ShR sS sZ (va_up sI j it') mS mZ mI' := copy_core p1 p2 p3 p4 p5 h hj hj hp hq ca
