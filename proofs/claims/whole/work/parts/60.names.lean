/-! names -/
def pk (w : List Nat) : Nat := w.foldl (fun a x => a * 256 + x) 0
def Wd (w : List Nat) : Prop := w ≠ [] ∧ w.length ≤ 4 ∧ ∀ x, x ∈ w → 97 ≤ x ∧ x ≤ 122
theorem Wd.cases {w : List Nat} (h : Wd w) : (∃ a, w = [a] ∧ 97 ≤ a ∧ a ≤ 122) ∨ (∃ a b, w = [a, b] ∧ 97 ≤ a ∧ a ≤ 122 ∧ 97 ≤ b ∧ b ≤ 122) ∨ (∃ a b c, w = [a, b, c] ∧ 97 ≤ a ∧ a ≤ 122 ∧ 97 ≤ b ∧ b ≤ 122 ∧ 97 ≤ c ∧ c ≤ 122) ∨ (∃ a b c d, w = [a, b, c, d] ∧ 97 ≤ a ∧ a ≤ 122 ∧ 97 ≤ b ∧ b ≤ 122 ∧ 97 ≤ c ∧ c ≤ 122 ∧ 97 ≤ d ∧ d ≤ 122) := by
  obtain ⟨h1, h2, h3⟩ := h
  match w, h1, h2, h3 with
  | [a], _, _, h3 =>
    have := h3 a (by simp)
    exact Or.inl ⟨a, rfl, this.1, this.2⟩
  | [a, b], _, _, h3 =>
    have x := h3 a (by simp)
    have y := h3 b (by simp)
    exact Or.inr (Or.inl ⟨a, b, rfl, x.1, x.2, y.1, y.2⟩)
  | [a, b, c], _, _, h3 =>
    have x := h3 a (by simp)
    have y := h3 b (by simp)
    have z := h3 c (by simp)
    exact Or.inr (Or.inr (Or.inl ⟨a, b, c, rfl, x.1, x.2, y.1, y.2, z.1, z.2⟩))
  | [a, b, c, d], _, _, h3 =>
    have x := h3 a (by simp)
    have y := h3 b (by simp)
    have z := h3 c (by simp)
    have t := h3 d (by simp)
    exact Or.inr (Or.inr (Or.inr ⟨a, b, c, d, rfl, x.1, x.2, y.1, y.2, z.1, z.2, t.1, t.2⟩))
  | a :: b :: c :: d :: e :: l, _, h2, _ => simp at h2
theorem Wd.pkl {w : List Nat} (h : Wd w) : pk w < 2 ^ 31 ∧ 1 ≤ w.length ∧ w.length ≤ 4 ∧ pk w < 256 ^ w.length ∧ 256 ^ (w.length - 1) ≤ pk w := by
  rcases h.cases with ⟨a, rfl, _⟩ | ⟨a, b, rfl, _⟩ | ⟨a, b, c, rfl, _⟩ | ⟨a, b, c, d, rfl, _⟩ <;> simp [pk] <;> omega
theorem Wd.digit {w : List Nat} (h : Wd w) : ∀ i, i < w.length → pk w / 256 ^ (w.length - 1 - i) % 256 = w.getD i 0 := by
  intro i hi
  rcases h.cases with ⟨a, rfl, _⟩ | ⟨a, b, rfl, _⟩ | ⟨a, b, c, rfl, _⟩ | ⟨a, b, c, d, rfl, _⟩
  · simp at hi
    subst hi
    simp [pk]; omega
  · simp at hi
    rcases (show i = 0 ∨ i = 1 by omega) with rfl | rfl <;> simp [pk] <;> omega
  · simp at hi
    rcases (show i = 0 ∨ i = 1 ∨ i = 2 by omega) with rfl | rfl | rfl <;> simp [pk] <;> omega
  · simp at hi
    rcases (show i = 0 ∨ i = 1 ∨ i = 2 ∨ i = 3 by omega) with rfl | rfl | rfl | rfl <;> simp [pk] <;> omega
theorem Wd.getD {w : List Nat} (h : Wd w) : ∀ i, (i < w.length → 97 ≤ w.getD i 0 ∧ w.getD i 0 ≤ 122) ∧ (w.length ≤ i → w.getD i 0 = 0) := by
  intro i
  constructor
  · intro hi
    have : w.getD i 0 ∈ w := by
      rw [List.getD_eq_getElem?_getD, List.getElem?_eq_getElem hi]
      exact List.getElem_mem hi
    exact h.2.2 _ this
  · intro hi
    rw [List.getD_eq_getElem?_getD, List.getElem?_eq_none hi]
    rfl
theorem FrR.name {n nb : Nat} {pins bars : Int32} {names lesser greater : Nat → Int32} {mpins mbars : Int32} {mname mlow mhigh : Nat → Int32} (h : FrR n nb pins bars names lesser greater mpins mbars mname mlow mhigh) : ∃ wd : Nat → List Nat, ∀ p, p < n → Wd (wd p) ∧ names p = nI (pk (wd p)) ∧ ∀ i, i < 4 → mname (4 * p + i) = nI ((wd p).getD i 0) := by
  have h9 := h.2.2.2.2.2.2.2.2
  refine ⟨fun p => if hp : p < n then Classical.choose (h9 p hp) else [], fun p hp => ?_⟩
  simp only [dif_pos hp]
  obtain ⟨a, b, c, d, e⟩ := Classical.choose_spec (h9 p hp)
  exact ⟨⟨a, b, c⟩, d, e⟩
theorem let_h (p1 : Int32) (names : Nat → Int32) : ∀ (fu j k N : Nat), N < 2 ^ 31 → N < 256 ^ j → (j = 0 ∨ 256 ^ (j - 1) ≤ N) → k + j ≤ 4 → j < fu → FX0_letters_h9 p1 names fu (nI k) (nI N) = some (nI (k + j)) := by
  intro fu
  induction fu with
  | zero => intro j _ _ _ _ _ _ h; omega
  | succ fu ih =>
    intro j k N hN h1 h2 h3 h4
    show FX0_letters_b9 p1 names (FX0_letters_h9 p1 names fu) (nI k) (nI N) = _
    unfold FX0_letters_b9
    by_cases hj : j = 0
    · subst hj
      have : N = 0 := by rw [Nat.pow_zero] at h1; omega
      subst this
      rw [if_pos (show nI 0 = 0 from rfl)]
      rfl
    · have l1 : 256 ^ (j - 1) ≤ N := by omega
      have l0 : 0 < 256 ^ (j - 1) := Nat.pow_pos (by decide)
      have e1 : 256 ^ j = 256 * 256 ^ (j - 1) := by rw [← Nat.pow_succ', show (j - 1).succ = j by omega]
      rw [if_neg (show ¬ nI N = (0 : Int32) from fun e => by have := (nI_eq (b := 0) hN (by decide)).mp e; omega), if_neg (show ¬ (4 : Int32) ≤ nI k from nI_ge (show k < 4 by omega) (by decide)), nI_1]
      have sh : nI N >>> ((8 : Int32) &&& 31) = nI (N / 2 ^ 8) := shrN (q := 8) hN (by decide)
      rw [sh, ih (j - 1) (k + 1) (N / 2 ^ 8) (Nat.lt_of_le_of_lt (Nat.div_le_self _ _) hN) (by rw [Nat.div_lt_iff_lt_mul (by decide)]; omega) (by
        by_cases c : j - 1 = 0
        · exact Or.inl c
        · right
          rw [Nat.le_div_iff_mul_le (by decide)]
          have e2 : 256 ^ (j - 1) = 256 * 256 ^ (j - 1 - 1) := by rw [← Nat.pow_succ', show (j - 1 - 1).succ = j - 1 by omega]
          omega) (by omega) (by omega)]
      congr 2
      omega
theorem let_v {names : Nat → Int32} {p : Nat} (hp : p < 12) {w : List Nat} (hw : Wd w) (e : names p = nI (pk w)) : FX0_letters (nI p) names = some (nI w.length) := by
  unfold FX0_letters
  obtain ⟨a, b, c, d, f⟩ := hw.pkl
  rw [gi hp (by decide), clp (by omega), e]
  have := let_h (nI p) names 5000 w.length 0 (pk w) a d (Or.inr f) (by omega) (by omega)
  rw [Nat.zero_add] at this
  exact this
theorem ltr_d : ∀ l, l < 5 → ∀ i, i < 5 → (i < l → nI l - 1 - nI i = nI (l - 1 - i)) ∧ (l ≤ i → ¬ (0 : Int32) ≤ nI l - 1 - nI i) := by decide +kernel
theorem and255 {x : Nat} (h : x < 2 ^ 31) : nI x &&& 255 = nI (x % 256) := by
  have := andI (b := 255) h (by decide)
  rw [show (255 : Nat) = 2 ^ 8 - 1 from rfl, Nat.and_two_pow_sub_one_eq_mod] at this
  exact this
theorem ltr_v {names : Nat → Int32} {p : Nat} (hp : p < 12) {w : List Nat} (hw : Wd w) (e : names p = nI (pk w)) {i : Nat} (hi : i < 5) : FX0_letter (nI p) (nI i) names = some (if i < w.length then nI (w.getD i 0) else -1) := by
  unfold FX0_letter
  obtain ⟨a, b, c, d, f⟩ := hw.pkl
  rw [let_v hp hw e]
  simp only [Option.bind_some]
  obtain ⟨q1, q2⟩ := ltr_d w.length (by omega) i hi
  by_cases h : i < w.length
  · rw [q1 h, if_pos (show (0 : Int32) ≤ nI (w.length - 1 - i) from nI_le (Nat.zero_le _) (by omega)), gi hp (by decide), clp (by omega), e, if_pos h]
    have m8 : (8 : Int32) * nI (w.length - 1 - i) = nI (8 * (w.length - 1 - i)) := pk_mul 8 _
    rw [m8, shrN a (by omega), and255 (Nat.lt_of_le_of_lt (Nat.div_le_self _ _) a), Nat.pow_mul]
    have := hw.digit i h
    rw [show (256 : Nat) = 2 ^ 8 from rfl] at this
    rw [show (256 : Nat) = 2 ^ 8 from rfl, this]
  · rw [if_neg (q2 (by omega)), if_neg h]
theorem mul4 (j : Nat) : (4 : Int32) * nI j = nI (4 * j) := pk_mul 4 j
theorem lof_h {mname : Nat → Int32} {p : Nat} (hp : p < 12) {w : List Nat} (hw : Wd w) (e : ∀ i, i < 4 → mname (4 * p + i) = nI (w.getD i 0)) : ∀ (fu a : Nat), a ≤ w.length → 4 - a < fu → FX7_lettersOf_h2 (nI p) mname fu (nI a) = some (nI w.length) := by
  intro fu
  have hl := hw.2.1
  induction fu with
  | zero => intro a _ h; omega
  | succ fu ih =>
    intro a ha hf
    show FX7_lettersOf_b2 (nI p) mname (FX7_lettersOf_h2 (nI p) mname fu) (nI a) = _
    unfold FX7_lettersOf_b2
    by_cases h : 4 ≤ a
    · rw [if_pos (show (4 : Int32) ≤ nI a from nI_le h (by omega))]
      rw [show a = w.length by omega]
    · rw [if_neg (show ¬ (4 : Int32) ≤ nI a from nI_ge (show a < 4 by omega) (by decide)), mul4, nI_add, gi (show 4 * p + a < 48 by omega) (by decide), clp (by omega), e a (by omega), nI_1]
      have g := hw.getD a
      by_cases c : a < w.length
      · have := g.1 c
        rw [if_neg (show ¬ nI (w.getD a 0) = (0 : Int32) from fun e => by have := (nI_eq (b := 0) (by omega) (by decide)).mp e; omega)]
        exact ih (a + 1) (by omega) (by omega)
      · rw [g.2 (by omega), if_pos (show nI 0 = 0 from rfl)]
        rw [show a = w.length by omega]
theorem lof_v {mname : Nat → Int32} {p : Nat} (hp : p < 12) {w : List Nat} (hw : Wd w) (e : ∀ i, i < 4 → mname (4 * p + i) = nI (w.getD i 0)) : FX7_lettersOf (nI p) mname = some (nI w.length) := lof_h hp hw e 5000 0 (Nat.zero_le _) (by omega)
theorem pin_core (p1 p2 : Int32) {n nb : Nat} {pins bars : Int32} {names les gre : Nat → Int32} {mpins mbars : Int32} {mname mlow mhigh : Nat → Int32} (hF : FrR n nb pins bars names les gre mpins mbars mname mlow mhigh) (t6 P6 : Nat → Int32) (c6 a b c d : Int32) (f qu ca g car : Nat → Int32) (sn rk : Int32) (t7 P7 : Nat → Int32) (c7 : Int32) :
    ∃ (u : Int32 × (Nat → Int32) × (Nat → Int32) × Int32 × Int32 × Int32 × Int32 × Int32 × (Nat → Int32) × (Nat → Int32) × (Nat → Int32)) (v : Int32 × (Nat → Int32) × (Nat → Int32) × Int32 × Int32 × (Nat → Int32) × (Nat → Int32) × Int32), FX6_pin p1 p2 pins bars names les gre t6 P6 c6 a b c d f qu ca = some u ∧ FX7_pin p1 p2 mpins mbars mname mlow mhigh g car sn rk t7 P7 c7 = some v ∧ u.1 = v.1 := by
  obtain ⟨br, hB6, hB7, _⟩ := hF.br
  obtain ⟨wd, hwd⟩ := hF.name
  obtain ⟨h1, h2, rfl, rfl, rfl, rfl, h7, h8, h9⟩ := hF
  unfold FX6_pin FX7_pin
  rcases cases_lt p1 (n := n) (by omega) with ⟨p, hp, rfl⟩ | hn
  · rw [isPin6_t hp (by omega), isPin7_t hp (by omega)]
    simp only [Option.bind_some, if_neg (show ¬ (1 : Int32) = 0 by decide)]
    have n12 := nm_lt (bl br nb) p
    obtain ⟨w1, w2, w3⟩ := hwd p hp
    have i0 : ∀ x : Int32, x = 0 ∨ x = 1 ∨ x = 2 ∨ x = 3 → FX7_isIn x 10 13 = some 0 := by
      rintro x (rfl | rfl | rfl | rfl) <;> rw [isIn_v] <;> rfl
    by_cases x0 : p2 = 0
    · rw [i0 p2 (Or.inl x0)]
      simp only [Option.bind_some, if_pos x0, if_true]
      rw [nb6_v hB6 (by omega), nb7_v hB7 (by omega)]
      simp only [Option.bind_some]
      rw [bitCount_v (by omega), bits_v n12]
      exact ⟨_, _, rfl, rfl, rfl⟩
    · by_cases x1 : p2 = 1
      · rw [i0 p2 (Or.inr (Or.inl x1))]
        simp only [Option.bind_some, if_neg x0, if_pos x1, if_true]
        rw [nb6_v hB6 (by omega), nb7_v hB7 (by omega)]
        exact ⟨_, _, rfl, rfl, rfl⟩
      · by_cases x2 : p2 = 2
        · rw [i0 p2 (Or.inr (Or.inr (Or.inl x2)))]
          simp only [Option.bind_some, if_neg x0, if_neg x1, if_pos x2, if_true]
          obtain ⟨f1, qu1, ca1, s1, l1⟩ := settle_v hB6 a b c d f qu ca
          rw [s1]
          simp only [Option.bind_some]
          obtain ⟨t6', P6', f', qu', ca', to', car', sn', rk', t7', P7', k, hk, e6, e7, _, _, hP⟩ := parts_v hB6 hB7 t6 P6 c6 l1 qu1 ca1 g car sn rk t7 P7 c7
          unfold FX7_partsOf FX3_countPartsOf
          rw [e6, e7]
          simp only [Option.bind_some]
          obtain ⟨r, r6, r7⟩ := pof_par hk p hP (nI n) (nI nb) mlow mhigh to' car' sn' rk' t7' 5000 0 0 (Nat.zero_le _) (by omega)
          have r6' : FX3_countPartsOf_h4 (nI p) P6' (nI k) 5000 0 0 = some r := r6
          have r7' : FX7_partsOf_h8 (nI p) (nI n) (nI nb) mlow mhigh 5000 0 0 to' car' sn' rk' t7' P7' (nI k) = _ := r7
          rw [r6', r7']
          exact ⟨_, _, rfl, rfl, rfl⟩
        · by_cases x3 : p2 = 3
          · rw [i0 p2 (Or.inr (Or.inr (Or.inr x3)))]
            simp only [Option.bind_some, if_neg x0, if_neg x1, if_neg x2, if_pos x3, if_true]
            rw [let_v (by omega) w1 w2, lof_v (by omega) w1 w3]
            exact ⟨_, _, rfl, rfl, rfl⟩
          · rw [isIn_v]
            simp only [Option.bind_some, if_neg x0, if_neg x1, if_neg x2, if_neg x3]
            by_cases y : p2 < 10
            · simp only [if_pos y, if_true]
              exact ⟨_, _, rfl, rfl, rfl⟩
            · simp only [if_neg y]
              have z0 : ¬ p2 < 0 := fun z => y (Int32.lt_trans z (by decide))
              obtain ⟨k, hk, rfl⟩ := nI_of z0
              have k10 : 10 ≤ k := by
                by_cases q : 10 ≤ k
                · exact q
                · exact absurd (show nI k < (10 : Int32) from nI_lt (show k < 10 by omega) (by decide)) y
              by_cases k13 : 13 < k
              · rw [if_neg (show ¬ nI k < (14 : Int32) from nI_nlt (show 14 ≤ k by omega) hk), if_pos (show (13 : Int32) < nI k from nI_lt k13 hk)]
                simp only [if_true]
                exact ⟨_, _, rfl, rfl, rfl⟩
              · rw [if_pos (show nI k < (14 : Int32) from nI_lt (show k < 14 by omega) (by decide)), if_neg (show ¬ (13 : Int32) < nI k from nI_nlt (show k ≤ 13 by omega) (by decide))]
                simp only [if_neg (show ¬ (1 : Int32) = 0 by decide)]
                have ek : nI k - 10 = nI (k - 10) := by
                  have := nI_ac2 10 (k - 10)
                  rw [nI_add, show k - 10 + 10 = k by omega] at this
                  exact this
                have ek2 : 4 * nI p + nI k - 10 = nI (4 * p + (k - 10)) := by
                  have := nI_ac2 10 (4 * p + (k - 10))
                  rw [nI_add, show 4 * p + (k - 10) + 10 = 4 * p + k by omega, ← nI_add, ← mul4] at this
                  exact this
                rw [ek, ek2, ltr_v (by omega) w1 w2 (by omega), lof_v (by omega) w1 w3]
                simp only [Option.bind_some]
                have wl := w1.2.1
                by_cases q : k - 10 < (wd p).length
                · rw [if_pos q, if_neg (nI_ge q (by omega)), gi (show 4 * p + (k - 10) < 48 by omega) (by decide), clp (by omega), w3 (k - 10) (by omega)]
                  exact ⟨_, _, rfl, rfl, rfl⟩
                · rw [if_neg q, if_pos (nI_le (by omega) (by omega))]
                  exact ⟨_, _, rfl, rfl, rfl⟩
  · rw [isPin6_f (by omega) hn, isPin7_f (by omega) hn]
    exact ⟨_, _, rfl, rfl, rfl⟩
