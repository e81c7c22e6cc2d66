/-! the worst set: facts -/
theorem xorI {a b : Nat} (ha : a < 2 ^ 31) (hb : b < 2 ^ 31) : nI a ^^^ nI b = nI (a ^^^ b) := by
  apply Int32.toBitVec_inj.mp
  rw [Int32.toBitVec_xor]
  apply BitVec.eq_of_toNat_eq
  have : a ^^^ b < 2 ^ 31 := Nat.xor_lt_two_pow ha hb
  rw [BitVec.toNat_xor, pk_tn (by omega), pk_tn (by omega), pk_tn (by omega)]
theorem pc12 {S : Nat} (h : S < 2 ^ 12) : pc S 24 = pc S 12 := by
  unfold pc
  exact sm_ext (by decide) (fun i h1 _ => by rw [Nat.testBit_lt_two_pow (Nat.lt_of_lt_of_le h (Nat.pow_le_pow_right (by decide) h1))]; rfl)
theorem pc_le (S n : Nat) : pc S n ≤ n := by
  unfold pc
  induction n with
  | zero => exact Nat.le_refl _
  | succ n ih => simp only [sm]; split <;> omega
theorem kern_d : ∀ a, a < 64 → ∀ b, b < 64 → ¬ 64 * a + b = 0 → pc ((64 * a + b) &&& (64 * a + b - 1)) 12 + 1 = pc (64 * a + b) 12 := by decide +kernel
theorem kern {S : Nat} (h : S < 2 ^ 12) (h0 : ¬ S = 0) : pc (S &&& (S - 1)) 12 + 1 = pc S 12 := by
  have := kern_d (S / 64) (by omega) (S % 64) (by omega)
  rw [show 64 * (S / 64) + S % 64 = S by omega] at this
  exact this h0
theorem bits_h (p0 : Int32) : ∀ (fu S k : Nat), S < 2 ^ 12 → pc S 12 < fu → FX7_bits_h4 p0 fu (nI k) (nI S) = some (nI (k + pc S 12)) := by
  intro fu
  induction fu with
  | zero => intro S k _ h; omega
  | succ fu ih =>
    intro S k hS hf
    show FX7_bits_b4 p0 (FX7_bits_h4 p0 fu) (nI k) (nI S) = _
    unfold FX7_bits_b4
    by_cases h : S = 0
    · subst h
      rw [if_pos (show nI 0 = 0 from rfl)]
      have : pc 0 12 = 0 := by decide
      rw [this]; rfl
    · have kk := kern hS h
      rw [if_neg (show ¬ nI S = (0 : Int32) from fun e => h ((nI_eq (b := 0) (by omega) (by decide)).mp e)), nI_1, sub1I (by omega), andI (by omega) (by omega)]
      rw [ih _ (k + 1) (Nat.lt_of_le_of_lt Nat.and_le_left hS) (by omega)]
      congr 2
      omega
theorem bits_v {S : Nat} (h : S < 2 ^ 12) : FX7_bits (nI S) = some (nI (pc S 24)) := by
  have := bits_h (nI S) 5000 S 0 h (by have := pc_le S 12; omega)
  rw [Nat.zero_add, ← pc12 h] at this
  exact this
/-- Gray's order -/
def gr (i : Nat) : Nat := i ^^^ (i / 2)
def lbr (a : Nat) : Nat → Nat → Nat
  | 0, b => b
  | f + 1, b => if a.testBit b then b else lbr a f (b + 1)
theorem gray_d : ∀ a, a < 64 → ∀ b, b < 64 → ¬ 64 * a + b = 0 → (lbr (64 * a + b) 11 0 < 12 ∧ gr (64 * a + b - 1) ^^^ 2 ^ (lbr (64 * a + b) 11 0) = gr (64 * a + b)) := by decide +kernel
theorem gray {i : Nat} (h : i < 2 ^ 12) (h0 : ¬ i = 0) : lbr i 11 0 < 12 ∧ gr (i - 1) ^^^ 2 ^ (lbr i 11 0) = gr i := by
  have := gray_d (i / 64) (by omega) (i % 64) (by omega)
  rw [show 64 * (i / 64) + i % 64 = i by omega] at this
  exact this h0
theorem gr_lt {i n : Nat} (h : i < 2 ^ n) : gr i < 2 ^ n := Nat.xor_lt_two_pow h (Nat.lt_of_le_of_lt (Nat.div_le_self _ _) h)
def grI (S : Nat) : Nat := (((S ^^^ (S / 2)) ^^^ ((S ^^^ (S / 2)) / 4)) ^^^ (((S ^^^ (S / 2)) ^^^ ((S ^^^ (S / 2)) / 4)) / 16)) ^^^ ((((S ^^^ (S / 2)) ^^^ ((S ^^^ (S / 2)) / 4)) ^^^ (((S ^^^ (S / 2)) ^^^ ((S ^^^ (S / 2)) / 4)) / 16)) / 256)
theorem grI_d : ∀ a, a < 64 → ∀ b, b < 64 → gr (grI (64 * a + b)) = 64 * a + b := by decide +kernel
theorem gr_grI {S : Nat} (h : S < 2 ^ 12) : gr (grI S) = S := by
  have := grI_d (S / 64) (by omega) (S % 64) (by omega)
  rw [show 64 * (S / 64) + S % 64 = S by omega] at this
  exact this
theorem grI_lt {S n : Nat} (h : S < 2 ^ n) : grI S < 2 ^ n := by
  have dv : ∀ {x : Nat} (k : Nat), x < 2 ^ n → x / k < 2 ^ n := fun k hx => Nat.lt_of_le_of_lt (Nat.div_le_self _ _) hx
  have a1 := Nat.xor_lt_two_pow h (dv 2 h)
  have a2 := Nat.xor_lt_two_pow a1 (dv 4 a1)
  have a3 := Nat.xor_lt_two_pow a2 (dv 16 a2)
  exact Nat.xor_lt_two_pow a3 (dv 256 a3)
theorem lb_h {a : Nat} (ha : a < 2 ^ 12) : ∀ (fu b : Nat), b ≤ 11 → 11 - b < fu → FX3_leastBit_h2 (nI a) fu (nI b) = some (nI (lbr a (11 - b) b)) := by
  intro fu
  induction fu with
  | zero => intro b _ h; omega
  | succ fu ih =>
    intro b hb hf
    show FX3_leastBit_b2 (nI a) (FX3_leastBit_h2 (nI a) fu) (nI b) = _
    unfold FX3_leastBit_b2
    by_cases h : 11 ≤ b
    · have : b = 11 := by omega
      subst this
      rw [if_pos (show (11 : Int32) ≤ nI 11 by decide)]
      rfl
    · rw [if_neg (show ¬ (11 : Int32) ≤ nI b from nI_ge (show b < 11 by omega) (by decide)), bitI (by omega) (by omega), nI_1, show 11 - b = (11 - (b + 1)) + 1 by omega]
      simp only [lbr]
      cases hx : a.testBit b
      · simp only [Bool.false_eq_true, if_false, if_pos (show nI 0 = 0 from rfl)]
        exact ih (b + 1) (by omega) (by omega)
      · simp only [if_true, if_neg (show ¬ nI 1 = 0 by decide)]
theorem lb_v {a : Nat} (ha : a < 2 ^ 12) : FX3_leastBit (nI a) = some (nI (lbr a 11 0)) := lb_h ha 5000 0 (by omega) (by omega)
/-- bars between pins of a set, as one pin comes -/
theorem adj_filter {L : List (Nat × Nat)} {f : Nat × Nat → Bool} {a b : Nat} (h : adj L a b = false) : adj (L.filter f) a b = false := by
  cases x : adj (L.filter f) a b
  · rfl
  · exfalso
    have : adj L a b = true := by
      unfold adj
      rcases adj_mem x with y | y
      · simp [(List.mem_filter.mp y).1]
      · simp [(List.mem_filter.mp y).1]
    rw [h] at this
    cases this
theorem ND.filter {L : List (Nat × Nat)} (h : ND L) (f : Nat × Nat → Bool) : ND (L.filter f) := by
  induction L with
  | nil => trivial
  | cons e L ih =>
    rw [List.filter_cons]
    split
    · exact ⟨adj_filter h.1, ih h.2⟩
    · exact ih h.2
def insd (X : Nat → Bool) (v : Nat) (e : Nat × Nat) : Bool := (X e.1 || e.1 == v) && (X e.2 || e.2 == v)
theorem nm_insd {L : List (Nat × Nat)} (hw : WL L) {S v : Nat} (hv : S.testBit v = false) : nm (L.filter (insd (fun w => S.testBit w) v)) v = nm L v &&& S := by
  apply Nat.eq_of_testBit_eq
  intro w
  rw [nm_bit, Nat.testBit_and, nm_bit]
  by_cases h : w < 12
  · simp only [h, decide_true, Bool.true_and]
    have e : adj (L.filter (insd (fun w => S.testBit w) v)) v w = (adj L v w && S.testBit w) := by
      unfold adj insd
      simp only [List.mem_filter, hv]
      by_cases a : (v, w) ∈ L
      · have n1 : ¬ w = v := fun e => (hw _ a).1 e.symm
        by_cases b : (w, v) ∈ L <;> simp [a, b, n1]
      · by_cases b : (w, v) ∈ L
        · have n1 : ¬ w = v := (hw _ b).1
          simp [a, b, n1]
        · simp [a, b]
    rw [e]
  · simp [h]
theorem ic_insd {v : Nat} {X Y : Nat → Bool} (hX : X v = false) (hY : ∀ w, Y w = (X w || w == v)) : ∀ L : List (Nat × Nat), ic L Y = ic L X + dg (L.filter (insd X v)) v := by
  intro L
  induction L with
  | nil => rfl
  | cons e L ih =>
    rw [ic_cons, ic_cons, ih, List.filter_cons, hY, hY]
    have c1 : e.1 = v → X e.1 = false := fun x => by rw [x]; exact hX
    have c2 : e.2 = v → X e.2 = false := fun x => by rw [x]; exact hX
    by_cases x1 : e.1 = v
    · have y1 := c1 x1
      by_cases x2 : e.2 = v
      · have y2 := c2 x2
        simp [insd, y1, y2, x1, x2]
        rw [dg_cons]; simp [tch, x1]
        simp [x1] at y1
        simp [hX]; omega
      · cases y2 : X e.2
        · simp [insd, y1, y2, x1, x2, hX]
        · simp [insd, y1, y2, x1, x2, hX]
          rw [dg_cons]; simp [tch, x1]; omega
    · by_cases x2 : e.2 = v
      · have y2 := c2 x2
        cases y1 : X e.1
        · simp [insd, y1, y2, x1, x2, hX]
        · simp [insd, y1, y2, x1, x2, hX]
          rw [dg_cons]; simp [tch, x2]; omega
      · cases y1 : X e.1
        · simp [insd, y1, x1, x2]
        · cases y2 : X e.2
          · simp [insd, y1, y2, x1, x2]
          · simp [insd, y1, y2, x1, x2]
            rw [dg_cons]; simp [tch, x1, x2]; omega
theorem WL.filter' {es : List (Nat × Nat)} (hw : WL es) (p : Nat × Nat → Bool) : WL (es.filter p) := hw.filter p
def iS (L : List (Nat × Nat)) (S : Nat) : Nat := ic L (fun v => S.testBit v)
theorem iS_come {L : List (Nat × Nat)} (hw : WL L) (hd : ND L) {S v : Nat} (hv : v < 12) (h : S.testBit v = false) : iS L (S ^^^ 2 ^ v) = iS L S + pc (nm L v &&& S) 24 := by
  unfold iS
  rw [ic_insd (X := fun w => S.testBit w) (v := v) h (fun w => by
    rw [Nat.testBit_xor, Nat.testBit_two_pow]
    by_cases e : v = w
    · subst e; simp [h]
    · have : ¬ w = v := fun x => e x.symm
      simp [e, this]) L, ← nm_insd hw h, pc_nm (hw.filter _) (hd.filter _) v hv]
