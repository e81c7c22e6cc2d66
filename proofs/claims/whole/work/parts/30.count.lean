/-! pebbles counted: f k is the far end of pebble k (of pin k / 2), or -1 -/
def sm (g : Nat → Nat) : Nat → Nat
  | 0 => 0
  | n + 1 => sm g n + g n
theorem sm_congr {g h : Nat → Nat} {n : Nat} (e : ∀ i, i < n → g i = h i) : sm g n = sm h n := by
  induction n with
  | zero => rfl
  | succ n ih => simp only [sm]; rw [ih (fun i hi => e i (by omega)), e n (by omega)]
theorem sm_le {g h : Nat → Nat} {n : Nat} (e : ∀ i, i < n → g i ≤ h i) : sm g n ≤ sm h n := by
  induction n with
  | zero => exact Nat.le_refl _
  | succ n ih => have := ih (fun i hi => e i (by omega)); have := e n (by omega); simp only [sm]; omega
theorem sm_add (g h : Nat → Nat) (n : Nat) : sm (fun i => g i + h i) n = sm g n + sm h n := by
  induction n with
  | zero => rfl
  | succ n ih => simp only [sm]; omega
theorem sm_pair (g : Nat → Nat) (n : Nat) : sm g (2 * n) = sm (fun v => g (2 * v) + g (2 * v + 1)) n := by
  induction n with
  | zero => rfl
  | succ n ih =>
    rw [show 2 * (n + 1) = 2 * n + 1 + 1 by omega]
    simp only [sm]
    omega
theorem sm_one {g h : Nat → Nat} {n j : Nat} (hj : j < n) (e : ∀ i, i < n → i ≠ j → g i = h i) : sm g n + h j = sm h n + g j := by
  induction n with
  | zero => omega
  | succ n ih =>
    simp only [sm]
    by_cases hn : j = n
    · subst hn
      rw [sm_congr (g := g) (h := h) (fun i hi => e i (by omega) (by omega))]
      omega
    · have := ih (by omega) (fun i hi hne => e i (by omega) hne)
      have := e n (by omega) (fun h => hn h.symm)
      omega
theorem sm_zero {g : Nat → Nat} {n : Nat} (e : ∀ i, i < n → g i = 0) : sm g n = 0 := by
  induction n with
  | zero => rfl
  | succ n ih => simp only [sm]; rw [ih (fun i hi => e i (by omega)), e n (by omega)]
theorem sm_mem {g : Nat → Nat} {n j : Nat} (hj : j < n) : g j ≤ sm g n := by
  induction n with
  | zero => omega
  | succ n ih =>
    simp only [sm]
    by_cases hn : j = n
    · subst hn; omega
    · have := ih (by omega); omega
theorem sm_two {g : Nat → Nat} {n i j : Nat} (hi : i < n) (hj : j < n) (hij : i ≠ j) : g i + g j ≤ sm g n := by
  have h1 := sm_one (g := g) (h := fun k => if k = i then 0 else g k) hi (fun k _ hk => by simp [hk])
  have h2 := sm_mem (g := fun k => if k = i then 0 else g k) hj
  simp only [↓reduceIte] at h1
  rw [if_neg (fun h => hij h.symm)] at h2
  omega
/-- how many pins are in a set -/
def sz (X : Nat → Bool) : Nat := sm (fun v => if X v then 1 else 0) 12
/-- whether pebble k lies on a bar between two pins of the set -/
def lf (f : Nat → Int32) (X : Nat → Bool) (k : Nat) : Nat := if f k = -1 then 0 else if X (k / 2) && X (f k).toNatClampNeg then 1 else 0
/-- how many bars have a pebble and are between two pins of the set -/
def cnt (f : Nat → Int32) (X : Nat → Bool) : Nat := sm (lf f X) 24
def fe (f : Nat → Int32) (k : Nat) : Nat := if f k = -1 then 1 else 0
/-- free pebbles of a pin -/
def fr (f : Nat → Int32) (v : Nat) : Nat := fe f (2 * v) + fe f (2 * v + 1)
def WF (f : Nat → Int32) : Prop := ∀ k, k < 24 → f k = -1 ∨ ∃ q : Nat, q < 12 ∧ f k = nI q ∧ q ≠ k / 2
def Keep (f f' : Nat → Int32) : Prop := WF f' ∧ ∀ X, cnt f' X = cnt f X
def Tight (f : Nat → Int32) (p q : Nat) : Prop := ∃ X : Nat → Bool, X p = true ∧ X q = true ∧ 2 * sz X ≤ cnt f X + 3
theorem Keep.rf {f : Nat → Int32} (h : WF f) : Keep f f := ⟨h, fun _ => rfl⟩
theorem Keep.trans {f g h : Nat → Int32} (a : Keep f g) (b : Keep g h) : Keep f h := ⟨b.1, fun X => (b.2 X).trans (a.2 X)⟩
theorem Keep.tight {f g : Nat → Int32} {p q : Nat} (a : Keep f g) (h : Tight g p q) : Tight f p q := by
  obtain ⟨X, h1, h2, h3⟩ := h
  exact ⟨X, h1, h2, by rw [← a.2]; exact h3⟩
theorem m1_ne {q : Nat} (hq : q < 2 ^ 31) : ¬ nI q = -1 := nI_nm1 hq
/-- laid pebbles of the pins of a set -/
theorem laid_sum (f : Nat → Int32) (X : Nat → Bool) : sm (fun k => if f k = -1 then 0 else if X (k / 2) then 1 else 0) 24 + sm (fun v => if X v then fr f v else 0) 12 = 2 * sz X := by
  rw [show (24 : Nat) = 2 * 12 from rfl, sm_pair, ← sm_add]
  have e : 2 * sz X = sm (fun v => (if X v then 1 else 0) + (if X v then 1 else 0)) 12 := by rw [sm_add]; unfold sz; omega
  rw [e]
  apply sm_congr
  intro n _
  have e1 : 2 * n / 2 = n := by omega
  have e2 : (2 * n + 1) / 2 = n := by omega
  simp only [e1, e2]
  unfold fr fe
  by_cases h1 : f (2 * n) = -1 <;> by_cases h2 : f (2 * n + 1) = -1 <;> by_cases h3 : X n = true <;> simp [h1, h2, h3]
theorem cnt_le (f : Nat → Int32) (X : Nat → Bool) : cnt f X ≤ sm (fun k => if f k = -1 then 0 else if X (k / 2) then 1 else 0) 24 := by
  unfold cnt
  apply sm_le
  intro k _
  unfold lf
  by_cases h : f k = -1
  · simp [h]
  · rw [if_neg h, if_neg h]
    by_cases h2 : X (k / 2) = true
    · rw [h2, Bool.true_and, if_pos rfl]; split <;> omega
    · simp [h2]
/-- four free pebbles: no set of pins with both is tight -/
theorem free4 {f : Nat → Int32} {p q : Nat} (hp : p < 12) (hq : q < 12) (hpq : p ≠ q) (h1 : fr f p = 2) (h2 : fr f q = 2) : ¬ Tight f p q := by
  intro ⟨X, x1, x2, x3⟩
  have a := laid_sum f X
  have b := cnt_le f X
  have c := sm_two (g := fun v => if X v then fr f v else 0) hp hq hpq
  simp only [x1, x2, if_true, h1, h2] at c
  omega
/-- a set that no laid pebble leaves, with no free one but at p and q -/
theorem closed_tight {f : Nat → Int32} {p q : Nat} (hp : p < 12) (hq : q < 12) (hpq : p ≠ q) (X : Nat → Bool) (xp : X p = true) (xq : X q = true) (hc : ∀ k, k < 24 → X (k / 2) = true → f k = -1 ∨ X (f k).toNatClampNeg = true) (hf : ∀ v, v < 12 → X v = true → v ≠ p → v ≠ q → fr f v = 0) (h3 : fr f p + fr f q ≤ 3) : Tight f p q := by
  refine ⟨X, xp, xq, ?_⟩
  have a := laid_sum f X
  have b : cnt f X = sm (fun k => if f k = -1 then 0 else if X (k / 2) then 1 else 0) 24 := by
    unfold cnt
    apply sm_congr
    intro k hk
    unfold lf
    by_cases h : f k = -1
    · simp [h]
    · rw [if_neg h, if_neg h]
      by_cases h2 : X (k / 2) = true
      · rcases hc k hk h2 with h4 | h4
        · exact absurd h4 h
        · simp [h2, h4]
      · simp [h2]
  have c : sm (fun v => if X v then fr f v else 0) 12 ≤ fr f p + fr f q := by
    have d1 := sm_one (g := fun v => if X v then fr f v else 0) (h := fun v => if v = p then 0 else if X v then fr f v else 0) hp (fun v _ hv => by simp [hv])
    have d2 := sm_one (g := fun v => if v = p then 0 else if X v then fr f v else 0) (h := fun _ => 0) hq (fun v hv hne => by
      by_cases e : v = p
      · simp [e]
      · by_cases e2 : X v = true
        · simp [e, e2, hf v hv e2 e hne]
        · simp [e, e2])
    have d3 : sm (fun _ => 0) 12 = 0 := sm_zero (fun _ _ => rfl)
    simp only [↓reduceIte, xp, xq] at d1 d2
    rw [if_neg (fun h => hpq h.symm)] at d2
    omega
  omega
/-- one bar turned round: its pebble at u becomes free, a free one at v is laid -/
theorem turn1 {f : Nat → Int32} (hw : WF f) {k j u v : Nat} (hk : k < 24) (hj : j < 24) (ku : k / 2 = u) (jv : j / 2 = v) (huv : u ≠ v) (hfk : f k = nI v) (hfj : f j = -1) : Keep f (upd (upd f j (nI u)) k (-1)) ∧ fr (upd (upd f j (nI u)) k (-1)) u = fr f u + 1 ∧ ∀ w, w ≠ u → w ≠ v → fr (upd (upd f j (nI u)) k (-1)) w = fr f w := by
  have hkj : k ≠ j := by intro h; subst h; exact huv (ku.symm.trans jv)
  have ne : ∀ i, i ≠ k → i ≠ j → upd (upd f j (nI u)) k (-1) i = f i := fun i h1 h2 => by rw [updN h1, updN h2]
  have ek : upd (upd f j (nI u)) k (-1) k = -1 := updS
  have ej : upd (upd f j (nI u)) k (-1) j = nI u := by rw [updN (fun h => hkj h.symm), updS]
  have u12 : u < 12 := by omega
  have v12 : v < 12 := by omega
  generalize upd (upd f j (nI u)) k (-1) = g at ne ek ej ⊢
  refine ⟨⟨?_, ?_⟩, ?_, ?_⟩
  · intro i hi
    by_cases h1 : i = k
    · subst h1; exact Or.inl ek
    · by_cases h2 : i = j
      · subst h2; exact Or.inr ⟨u, u12, ej, by omega⟩
      · rw [ne i h1 h2]; exact hw i hi
  · intro X
    unfold cnt
    have l1 : lf g X k = 0 := by unfold lf; rw [if_pos ek]
    have l2 : lf f X j = 0 := by unfold lf; rw [if_pos hfj]
    have l3 : lf g X j = lf f X k := by
      unfold lf
      rw [ej, hfk, if_neg (m1_ne (by omega)), if_neg (m1_ne (by omega)), clp (by omega), clp (by omega), jv, ku, Bool.and_comm]
    have a := sm_one (g := lf g X) (h := fun i => if i = k then 0 else if i = j then lf f X k else lf f X i) (n := 24) hk (fun i _ hi => by
      rw [if_neg hi]
      by_cases h2 : i = j
      · subst h2; rw [if_pos rfl, l3]
      · rw [if_neg h2]; unfold lf; rw [ne i hi h2])
    have b := sm_one (g := fun i => if i = k then 0 else if i = j then lf f X k else lf f X i) (h := fun i => if i = k then 0 else lf f X i) (n := 24) hj (fun i _ hi => by simp only [if_neg hi])
    have c := sm_one (g := fun i => if i = k then 0 else lf f X i) (h := lf f X) (n := 24) hk (fun i _ hi => by simp only [if_neg hi])
    simp only [↓reduceIte] at a b c
    rw [if_neg (fun h => hkj h.symm), if_neg (fun h => hkj h.symm), l2] at b
    omega
  · have hfk' : ¬ f k = -1 := by rw [hfk]; exact m1_ne (by omega)
    unfold fr fe
    rcases (show k = 2 * u ∨ k = 2 * u + 1 by omega) with h | h
    · subst h
      rw [ek, if_pos rfl, if_neg hfk', ne (2 * u + 1) (by omega) (by omega)]
      omega
    · subst h
      rw [ek, if_pos rfl, if_neg hfk', ne (2 * u) (by omega) (by omega)]
  · intro w h1 h2
    unfold fr fe
    rw [ne (2 * w) (by omega) (by omega), ne (2 * w + 1) (by omega) (by omega)]
/-- a pebble is laid -/
theorem lay1 {f : Nat → Int32} (hw : WF f) {p q : Nat} (hp : p < 12) (hq : q < 12) (hpq : p ≠ q) (hf : f (2 * p) = -1) : WF (upd f (2 * p) (nI q)) ∧ ∀ X, cnt (upd f (2 * p) (nI q)) X = cnt f X + if X p && X q then 1 else 0 := by
  have ne : ∀ i, i ≠ 2 * p → upd f (2 * p) (nI q) i = f i := fun i h => updN h
  have ek : upd f (2 * p) (nI q) (2 * p) = nI q := updS
  generalize upd f (2 * p) (nI q) = g at ne ek ⊢
  constructor
  · intro i hi
    by_cases h1 : i = 2 * p
    · subst h1; exact Or.inr ⟨q, hq, ek, by omega⟩
    · rw [ne i h1]; exact hw i hi
  · intro X
    unfold cnt
    have a := sm_one (g := lf g X) (h := lf f X) (n := 24) (j := 2 * p) (by omega) (fun i _ hi => by unfold lf; rw [ne i hi])
    have l1 : lf f X (2 * p) = 0 := by unfold lf; rw [if_pos hf]
    have l2 : lf g X (2 * p) = if X p && X q then 1 else 0 := by
      unfold lf
      rw [ek, if_neg (m1_ne (by omega)), clp (by omega), show 2 * p / 2 = p by omega]
    omega
theorem fr2 {f : Nat → Int32} {v : Nat} (h : fr f v = 2) : f (2 * v) = -1 ∧ f (2 * v + 1) = -1 := by
  unfold fr fe at h
  by_cases h1 : f (2 * v) = -1 <;> by_cases h2 : f (2 * v + 1) = -1 <;> simp [h1, h2] at h
  exact ⟨h1, h2⟩
theorem fr_le (f : Nat → Int32) (v : Nat) : fr f v ≤ 2 := by
  unfold fr fe
  split <;> split <;> omega
theorem fr0 {f : Nat → Int32} {v : Nat} (h : fr f v = 0) : ¬ f (2 * v) = -1 ∧ ¬ f (2 * v + 1) = -1 := by
  unfold fr fe at h
  by_cases h1 : f (2 * v) = -1 <;> by_cases h2 : f (2 * v + 1) = -1 <;> simp [h1, h2] at h
  exact ⟨h1, h2⟩
/-- bits -/
theorem s_l : ∀ n, n < 32 → ((nI n &&& 31).toBitVec.smod 32).toNat = n := by decide
theorem shl1 {q : Nat} (hq : q < 31) : (1 : Int32) <<< (nI q &&& 31) = nI (2 ^ q) := by
  have := pk_shlN (n := 1) (nI q &&& 31) q (s_l q (by omega)) (by rw [Nat.one_mul]; exact Nat.pow_lt_pow_right (by decide) (by omega))
  rw [Nat.one_mul] at this
  exact this
theorem shrN {s q : Nat} (hs : s < 2 ^ 31) (hq : q < 32) : nI s >>> (nI q &&& 31) = nI (s / 2 ^ q) := pk_shrN hs (nI q &&& 31) q (s_l q hq)
theorem bitI {s q : Nat} (hs : s < 2 ^ 31) (hq : q < 32) : (nI s >>> (nI q &&& 31)) &&& 1 = nI (if s.testBit q then 1 else 0) := by
  have h2 : s / 2 ^ q ≤ s := Nat.div_le_self _ _
  rw [shrN hs hq, pk_andN (k := 1) (by omega) (by decide)]
  congr 1
  rw [Nat.testBit_eq_decide_div_mod_eq]
  have : s / 2 ^ q % 2 < 2 := Nat.mod_lt _ (by decide)
  simp only [decide_eq_true_eq, Nat.pow_one]
  split <;> omega
theorem orI {a b : Nat} (ha : a < 2 ^ 31) (hb : b < 2 ^ 31) : nI a ||| nI b = nI (a ||| b) := by
  apply Int32.toBitVec_inj.mp
  rw [Int32.toBitVec_or]
  apply BitVec.eq_of_toNat_eq
  have : a ||| b < 2 ^ 31 := Nat.or_lt_two_pow ha hb
  rw [BitVec.toNat_or, pk_tn (by omega), pk_tn (by omega), pk_tn (by omega)]
theorem andI {a b : Nat} (ha : a < 2 ^ 31) (hb : b < 2 ^ 31) : nI a &&& nI b = nI (a &&& b) := by
  apply Int32.toBitVec_inj.mp
  rw [Int32.toBitVec_and]
  apply BitVec.eq_of_toNat_eq
  have : a &&& b ≤ a := Nat.and_le_left
  rw [BitVec.toNat_and, pk_tn (by omega), pk_tn (by omega), pk_tn (by omega)]
theorem tb_or (s q v : Nat) : (s ||| 2 ^ q).testBit v = (s.testBit v || decide (q = v)) := by
  rw [Nat.testBit_or, Nat.testBit_two_pow]
