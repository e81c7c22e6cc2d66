/-! the number of bits that are set -/
def pc (x n : Nat) : Nat := sm (fun i => if x.testBit i then 1 else 0) n
theorem and_split (x c M k : Nat) (hc : c < 2 ^ k) : x &&& (c + 2 ^ k * M) = (x % 2 ^ k &&& c) + 2 ^ k * (x / 2 ^ k &&& M) := by
  have h1 : x % 2 ^ k &&& c < 2 ^ k := Nat.lt_of_le_of_lt Nat.and_le_right hc
  have e1 : c + 2 ^ k * M = 2 ^ k * M + c := by omega
  have e2 : (x % 2 ^ k &&& c) + 2 ^ k * (x / 2 ^ k &&& M) = 2 ^ k * (x / 2 ^ k &&& M) + (x % 2 ^ k &&& c) := by omega
  rw [e1, e2]
  apply Nat.eq_of_testBit_eq
  intro i
  rw [Nat.testBit_and, Nat.testBit_two_pow_mul_add _ hc, Nat.testBit_two_pow_mul_add _ h1]
  by_cases h : i < k
  · rw [if_pos h, if_pos h, Nat.testBit_and, Nat.testBit_mod_two_pow]; simp [h]
  · rw [if_neg h, if_neg h, Nat.testBit_and, Nat.testBit_div_two_pow, show i - k + k = i by omega]
theorem nib1 (x M : Nat) : x - ((x / 2) &&& (5 + 16 * M)) = (x % 16 - ((x % 16 / 2) &&& 5)) + 16 * (x / 16 - ((x / 16 / 2) &&& M)) := by
  have s := and_split (x / 2) 5 M 4 (by decide)
  rw [show (2 : Nat) ^ 4 = 16 from rfl] at s
  rw [s]
  have e1 : x / 2 % 16 = x % 16 / 2 + 8 * (x / 16 % 2) := by omega
  have e2 : x / 2 / 16 = x / 16 / 2 := by omega
  have d1 : ∀ d : Nat, d < 16 → ∀ e : Nat, e < 2 → (d / 2 + 8 * e) &&& 5 = (d / 2) &&& 5 := by decide
  have d2 : ∀ d : Nat, d < 16 → ((d / 2) &&& 5) ≤ d := by decide
  rw [e1, e2, d1 _ (Nat.mod_lt _ (by decide)) _ (Nat.mod_lt _ (by decide))]
  have a1 := d2 (x % 16) (Nat.mod_lt _ (by decide))
  have a2 : (x / 16 / 2) &&& M ≤ x / 16 := Nat.le_trans Nat.and_le_left (Nat.div_le_self _ _)
  omega
theorem nib2 (x M : Nat) : (x &&& (3 + 16 * M)) + ((x / 4) &&& (3 + 16 * M)) = (x % 16 % 4 + x % 16 / 4) + 16 * ((x / 16 &&& M) + ((x / 16 / 4) &&& M)) := by
  have s := and_split x 3 M 4 (by decide)
  have t := and_split (x / 4) 3 M 4 (by decide)
  rw [show (2 : Nat) ^ 4 = 16 from rfl] at s t
  rw [s, t]
  have e1 : x / 4 % 16 = x % 16 / 4 + 4 * (x / 16 % 4) := by omega
  have e2 : x / 4 / 16 = x / 16 / 4 := by omega
  have d1 : ∀ d : Nat, d < 16 → ∀ e : Nat, e < 4 → (d / 4 + 4 * e) &&& 3 = d / 4 := by decide
  have d2 : ∀ d : Nat, d < 16 → d &&& 3 = d % 4 := by decide
  rw [e1, e2, d1 _ (Nat.mod_lt _ (by decide)) _ (Nat.mod_lt _ (by decide)), d2 _ (Nat.mod_lt _ (by decide))]
  omega
def g1 (d : Nat) : Nat := d - ((d / 2) &&& 5)
def h1 (d : Nat) : Nat := g1 d % 4 + g1 d / 4
theorem g1_lt : ∀ d, d < 16 → g1 d < 16 := by decide
theorem h1_pc : ∀ d, d < 16 → h1 d = (if d.testBit 0 then 1 else 0) + (if d.testBit 1 then 1 else 0) + (if d.testBit 2 then 1 else 0) + (if d.testBit 3 then 1 else 0) := by decide
theorem h1_le : ∀ d, d < 16 → h1 d ≤ 4 := by decide
theorem nib_bit (x k i : Nat) (hi : i < 4) : (x / 16 ^ k % 16).testBit i = x.testBit (4 * k + i) := by
  rw [show (16 : Nat) = 2 ^ 4 from rfl, Nat.testBit_mod_two_pow, ← Nat.pow_mul, Nat.testBit_div_two_pow]
  simp [hi, Nat.add_comm]
theorem pc24 (x : Nat) : pc x 24 = h1 (x % 16) + h1 (x / 16 % 16) + h1 (x / 256 % 16) + h1 (x / 4096 % 16) + h1 (x / 65536 % 16) + h1 (x / 1048576 % 16) := by
  have m : ∀ y : Nat, y % 16 < 16 := fun y => Nat.mod_lt _ (by decide)
  rw [h1_pc _ (m _), h1_pc _ (m _), h1_pc _ (m _), h1_pc _ (m _), h1_pc _ (m _), h1_pc _ (m _)]
  have b0 := fun i hi => nib_bit x 0 i hi
  have b1 := fun i hi => nib_bit x 1 i hi
  have b2 := fun i hi => nib_bit x 2 i hi
  have b3 := fun i hi => nib_bit x 3 i hi
  have b4 := fun i hi => nib_bit x 4 i hi
  have b5 := fun i hi => nib_bit x 5 i hi
  simp only [Nat.pow_zero, Nat.div_one, show (16 : Nat) ^ 1 = 16 from rfl, show (16 : Nat) ^ 2 = 256 from rfl, show (16 : Nat) ^ 3 = 4096 from rfl, show (16 : Nat) ^ 4 = 65536 from rfl, show (16 : Nat) ^ 5 = 1048576 from rfl] at b0 b1 b2 b3 b4 b5
  rw [b0 0 (by decide), b0 1 (by decide), b0 2 (by decide), b0 3 (by decide), b1 0 (by decide), b1 1 (by decide), b1 2 (by decide), b1 3 (by decide), b2 0 (by decide), b2 1 (by decide), b2 2 (by decide), b2 3 (by decide), b3 0 (by decide), b3 1 (by decide), b3 2 (by decide), b3 3 (by decide), b4 0 (by decide), b4 1 (by decide), b4 2 (by decide), b4 3 (by decide), b5 0 (by decide), b5 1 (by decide), b5 2 (by decide), b5 3 (by decide)]
  simp only [pc, sm, Nat.reduceMul, Nat.reduceAdd, Nat.zero_add, Nat.add_zero]
  omega
theorem bc1 {x : Nat} (hx : x < 2 ^ 24) : x - ((x / 2) &&& 1431655765) = g1 (x % 16) + 16 * (g1 (x / 16 % 16) + 16 * (g1 (x / 256 % 16) + 16 * (g1 (x / 4096 % 16) + 16 * (g1 (x / 65536 % 16) + 16 * g1 (x / 1048576 % 16))))) := by
  have e : (1431655765 : Nat) = 5 + 16 * (5 + 16 * (5 + 16 * (5 + 16 * (5 + 16 * (5 + 16 * 85))))) := by decide
  rw [e, nib1, nib1, nib1, nib1, nib1, nib1]
  have z : x / 16 / 16 / 16 / 16 / 16 / 16 = 0 := by omega
  rw [z]
  have q2 : x / 16 / 16 = x / 256 := by omega
  have q3 : x / 16 / 16 / 16 = x / 4096 := by omega
  have q4 : x / 16 / 16 / 16 / 16 = x / 65536 := by omega
  have q5 : x / 16 / 16 / 16 / 16 / 16 = x / 1048576 := by omega
  rw [q5, q4, q3, q2]
  unfold g1
  simp
theorem bc2 {a b c d e f : Nat} (ha : a < 16) (hb : b < 16) (hc : c < 16) (hd : d < 16) (he : e < 16) (hf : f < 16) {y : Nat} (hy : y = a + 16 * (b + 16 * (c + 16 * (d + 16 * (e + 16 * f))))) : (y &&& 858993459) + ((y / 4) &&& 858993459) = (a % 4 + a / 4) + 16 * ((b % 4 + b / 4) + 16 * ((c % 4 + c / 4) + 16 * ((d % 4 + d / 4) + 16 * ((e % 4 + e / 4) + 16 * (f % 4 + f / 4))))) := by
  have e0 : (858993459 : Nat) = 3 + 16 * (3 + 16 * (3 + 16 * (3 + 16 * (3 + 16 * (3 + 16 * 51))))) := by decide
  rw [e0, nib2, nib2, nib2, nib2, nib2, nib2]
  have z : y / 16 / 16 / 16 / 16 / 16 / 16 = 0 := by omega
  have q0 : y % 16 = a := by omega
  have q1 : y / 16 % 16 = b := by omega
  have q2 : y / 16 / 16 % 16 = c := by omega
  have q3 : y / 16 / 16 / 16 % 16 = d := by omega
  have q4 : y / 16 / 16 / 16 / 16 % 16 = e := by omega
  have q5 : y / 16 / 16 / 16 / 16 / 16 % 16 = f := by omega
  rw [z, q0, q1, q2, q3, q4, q5]
  simp
theorem bc3 {y : Nat} (hy : y < 2 ^ 32) : y &&& 252645135 = y % 16 + 256 * (y / 256 % 16 + 256 * (y / 65536 % 16 + 256 * (y / 16777216 % 16))) := by
  have e0 : (252645135 : Nat) = 15 + 2 ^ 8 * (15 + 2 ^ 8 * (15 + 2 ^ 8 * 15)) := by decide
  have f : ∀ z : Nat, z &&& 15 = z % 16 := fun z => Nat.and_two_pow_sub_one_eq_mod z 4
  rw [e0, and_split _ _ _ 8 (by decide), and_split _ _ _ 8 (by decide), and_split _ _ _ 8 (by decide), f, f, f, f]
  omega
theorem s3 {a b c d e f z : Nat} (ra : a ≤ 4) (rb : b ≤ 4) (rc : c ≤ 4) (rd : d ≤ 4) (re : e ≤ 4) (rf : f ≤ 4) (hz : z = a + 16 * (b + 16 * (c + 16 * (d + 16 * (e + 16 * f))))) : z < 2 ^ 24 ∧ z + z / 16 < 2 ^ 25 ∧ (z + z / 16) &&& 252645135 = (a + b) + 256 * ((c + d) + 256 * (e + f)) := by
  have v1 : z / 16 = b + 16 * (c + 16 * (d + 16 * (e + 16 * f))) := by omega
  have v2 : z + z / 16 = (a + b) + 16 * ((b + c) + 16 * ((c + d) + 16 * ((d + e) + 16 * ((e + f) + 16 * f)))) := by omega
  have z1 : z < 2 ^ 24 := by omega
  refine ⟨z1, by omega, ?_⟩
  rw [bc3 (by omega)]
  clear hz v1 z1
  generalize z + z / 16 = v at v2 ⊢
  have w1 : v % 16 = a + b := by omega
  have w2 : v / 256 = (c + d) + 16 * ((d + e) + 16 * ((e + f) + 16 * f)) := by omega
  have w4 : v / 65536 = (e + f) + 16 * f := by omega
  have hv : v < 16777216 := by omega
  have w6 : v / 16777216 % 16 = 0 := by rw [Nat.div_eq_of_lt hv]
  clear v2 hv
  have w3 : v / 256 % 16 = c + d := by rw [w2]; omega
  have w5 : v / 65536 % 16 = e + f := by rw [w4]; omega
  rw [w1, w3, w5, w6, Nat.mul_zero, Nat.add_zero]
theorem s4 {A B C w : Nat} (hA : A ≤ 8) (hB : B ≤ 8) (hC : C ≤ 8) (hw : w = A + 256 * (B + 256 * C)) : w < 2 ^ 24 ∧ w + w / 256 < 2 ^ 25 ∧ w + w / 256 + (w + w / 256) / 65536 < 2 ^ 26 ∧ (w + w / 256 + (w + w / 256) / 65536) % 64 = A + B + C := by
  have e1 : w / 256 = B + 256 * C := by omega
  have e2 : (w + w / 256) / 65536 = C := by omega
  rw [e2, e1]
  omega
theorem ushN {n k : Nat} (hn : n < 2 ^ 32) (hk : k < 32) : ((nI n).toUInt32 >>> ((nI k).toUInt32 &&& Int32.toUInt32 31)).toInt32 = nI (n / 2 ^ k) := pk_ushrN hn (nI k) k ((by decide : ∀ l, l < 32 → (((nI l).toUInt32 &&& Int32.toUInt32 31).toBitVec % 32).toNat = l) k hk)
theorem bitCount_n {x y z w : Nat} (hx : x < 2 ^ 24) (hy : x - ((x / 2) &&& 1431655765) = y) (hz : (y &&& 858993459) + ((y / 4) &&& 858993459) = z) (z1 : z < 2 ^ 24) (z2 : z + z / 16 < 2 ^ 25) (hw : (z + z / 16) &&& 252645135 = w) (w1 : w < 2 ^ 24) (w2 : w + w / 256 < 2 ^ 25) (w3 : w + w / 256 + (w + w / 256) / 65536 < 2 ^ 26) : FJ6_bitCount (nI x) = some (nI ((w + w / 256 + (w + w / 256) / 65536) % 64)) := by
  have y1 : y < 2 ^ 24 := by omega
  unfold FJ6_bitCount
  rw [show (1 : Int32) = nI 1 from rfl, ushN (by omega) (by decide), show (1431655765 : Int32) = nI 1431655765 from rfl, andI (by omega) (by decide), pk_sub (Nat.le_trans Nat.and_le_left (Nat.div_le_self _ _)), show (2 : Nat) ^ 1 = 2 from rfl, hy]
  unfold FJ6_bitCount_b10
  rw [show (858993459 : Int32) = nI 858993459 from rfl, show (2 : Int32) = nI 2 from rfl, ushN (by omega) (by decide), andI (by omega) (by decide), andI (by omega) (by decide), nI_add, show (2 : Nat) ^ 2 = 4 from rfl, hz]
  unfold FJ6_bitCount_b24
  rw [show (4 : Int32) = nI 4 from rfl, ushN (by omega) (by decide), nI_add, show (252645135 : Int32) = nI 252645135 from rfl, show (2 : Nat) ^ 4 = 16 from rfl, andI (by omega) (by decide), hw]
  unfold FJ6_bitCount_b34
  rw [show (8 : Int32) = nI 8 from rfl, ushN (by omega) (by decide), nI_add, show (2 : Nat) ^ 8 = 256 from rfl]
  unfold FJ6_bitCount_b41
  rw [show (16 : Int32) = nI 16 from rfl, ushN (by omega) (by decide), nI_add, show (2 : Nat) ^ 16 = 65536 from rfl]
  unfold FJ6_bitCount_b48
  rw [pk_andN (k := 6) (by omega) (by decide), show (2 : Nat) ^ 6 = 64 from rfl]
theorem bitCount_v {x : Nat} (hx : x < 2 ^ 24) : FJ6_bitCount (nI x) = some (nI (pc x 24)) := by
  have m : ∀ y : Nat, y % 16 < 16 := fun y => Nat.mod_lt _ (by decide)
  have e1 := bc1 hx
  have e2 := bc2 (g1_lt _ (m x)) (g1_lt _ (m (x / 16))) (g1_lt _ (m (x / 256))) (g1_lt _ (m (x / 4096))) (g1_lt _ (m (x / 65536))) (g1_lt _ (m (x / 1048576))) e1
  obtain ⟨z1, z2, z3⟩ := s3 (h1_le _ (m x)) (h1_le _ (m (x / 16))) (h1_le _ (m (x / 256))) (h1_le _ (m (x / 4096))) (h1_le _ (m (x / 65536))) (h1_le _ (m (x / 1048576))) rfl
  have t : ∀ {p q : Nat}, p ≤ 4 → q ≤ 4 → p + q ≤ 8 := fun h1 h2 => Nat.add_le_add h1 h2
  obtain ⟨w1, w2, w3, w4⟩ := s4 (t (h1_le _ (m x)) (h1_le _ (m (x / 16)))) (t (h1_le _ (m (x / 256))) (h1_le _ (m (x / 4096)))) (t (h1_le _ (m (x / 65536))) (h1_le _ (m (x / 1048576)))) rfl
  have r := bitCount_n hx rfl e2 z1 z2 z3 w1 w2 w3
  rw [w4] at r
  rw [r, pc24]
  congr 2
  simp only [Nat.add_assoc]
