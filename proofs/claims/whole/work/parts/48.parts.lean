/-! parts, as both sides write them down -/
theorem both_bit {es : List (Nat × Nat)} {n p q v : Nat} : (tm es n p &&& tm es n q).testBit v = true ↔ v < n ∧ v ≠ p ∧ v ≠ q ∧ TE es p v ∧ TE es q v := by
  rw [Nat.testBit_and, tm_bit, tm_bit]
  simp only [Bool.and_eq_true, decide_eq_true_eq, tb_t]
  constructor
  · rintro ⟨⟨a, b, c⟩, _, d, e⟩; exact ⟨a, b, d, c, e⟩
  · rintro ⟨a, b, d, c, e⟩; exact ⟨⟨a, b, c⟩, a, d, e⟩
theorem lp_one {es : List (Nat × Nat)} {n p q : Nat} (hpq : p < q) (hq : q < n) (ht : TE es p q) (h : ∀ v, v < n → (tm es n p &&& tm es n q).testBit v = true → q < v) : LPr es n p q := by
  refine ⟨hpq, hq, ht, fun v hv hi => ?_⟩
  rcases hi with rfl | rfl | hi
  · rfl
  · omega
  · have := h v hi.1 (both_bit.mpr hi)
    omega
theorem lp_no {es : List (Nat × Nat)} {n p q v : Nat} (hv : v ≤ q) (h : (tm es n p &&& tm es n q).testBit v = true) : ¬ LPr es n p q := by
  intro ⟨_, _, _, x⟩
  have b := both_bit.mp h
  have := x v (by omega) (Or.inr (Or.inr b))
  omega
theorem fin76 {es : List (Nat × Nat)} (hw : WL es) (hs : SP es) {n p q : Nat} (hn : n ≤ 12) (hpq : p < q) (hq : q < n) (ht : TE es p q) (nb : Int32) (low high : Nat → Int32) (k11 : Int32 → (Nat → Int32) → (Nat → Int32) → Int32 → Int32 → (Nat → Int32) → (Nat → Int32) → Int32 → Option ((Nat → Int32) × (Nat → Int32) × Int32 × Int32 × (Nat → Int32) × (Nat → Int32) × Int32)) (k23 : Int32 → Int32 → (Nat → Int32) → (Nat → Int32) → Int32 → Int32 → (Nat → Int32) → (Nat → Int32) → Int32 → Option ((Nat → Int32) × (Nat → Int32) × Int32 × Int32 × (Nat → Int32) × (Nat → Int32) × Int32)) (to car : Nat → Int32) (sn rk : Int32) {t : Nat → Int32} (hT : TT es n t) (P : Nat → Int32) {k : Nat} (hk : k < 144) :
    ∀ (fu r S : Nat) (l5 : Int32), r ≤ n → n - r < fu → S < 2 ^ 12 → (∀ w, S.testBit w = ((decide (w < r) && (tm es n p &&& tm es n q).testBit w) || (decide (p = w) || decide (q = w)))) → ((l5 = 1 ∧ ∀ v, v < r → (tm es n p &&& tm es n q).testBit v = true → q < v) ∨ (l5 = 0 ∧ ∃ v, v ≤ q ∧ (tm es n p &&& tm es n q).testBit v = true)) →
    (LPr es n p q → FX7_finds_h76 (nI n) nb low high k11 k23 fu (nI p) (nI q) (nI (tm es n p &&& tm es n q)) (nI S) l5 (nI r) to car sn rk t P (nI k) = k23 (nI p) (nI (q + 1)) to car sn rk t (upd P k (nI (pm es n p q))) (nI (k + 1))) ∧
    (¬ LPr es n p q → FX7_finds_h76 (nI n) nb low high k11 k23 fu (nI p) (nI q) (nI (tm es n p &&& tm es n q)) (nI S) l5 (nI r) to car sn rk t P (nI k) = k23 (nI p) (nI (q + 1)) to car sn rk t P (nI k)) := by
  intro fu
  induction fu with
  | zero => intro r _ _ _ h; omega
  | succ fu ih =>
    intro r S l5 hr hf hS hb h5
    have tl := tm_lt es hn p
    have bl : tm es n p &&& tm es n q < 2 ^ 12 := Nat.lt_of_le_of_lt Nat.and_le_left tl
    show (_ → FX7_finds_b76 (nI n) nb low high k11 k23 (FX7_finds_h76 (nI n) nb low high k11 k23 fu) (nI p) (nI q) _ (nI S) l5 (nI r) to car sn rk t P (nI k) = _) ∧ (_ → FX7_finds_b76 (nI n) nb low high k11 k23 (FX7_finds_h76 (nI n) nb low high k11 k23 fu) (nI p) (nI q) _ (nI S) l5 (nI r) to car sn rk t P (nI k) = _)
    unfold FX7_finds_b76 FX7_finds_b139 FX7_finds_b177 FX7_finds_b142
    by_cases h : n ≤ r
    · have : r = n := by omega
      subst this
      rw [if_pos (nI_le (Nat.le_refl _) (by omega)), gi hk (by decide), clp (by omega), nI_1, nI_1]
      have eS : S = pm es r p q := by
        apply Nat.eq_of_testBit_eq
        intro w
        rw [hb w, pm_bit, ← Nat.testBit_and]
        cases hx : (tm es r p &&& tm es r q).testBit w
        · simp
        · have := (both_bit.mp hx).1
          simp [this]
      rcases h5 with ⟨rfl, h5⟩ | ⟨rfl, v, hv, h5⟩
      · rw [if_neg (by decide), eS]
        exact ⟨fun _ => rfl, fun c => absurd (lp_one hpq hq ht h5) c⟩
      · rw [if_pos rfl]
        exact ⟨fun c => absurd c (lp_no hv h5), fun _ => rfl⟩
    · rw [if_neg (nI_ge (by omega) (by omega)), bitI (by omega) (by omega), gi (show r < 12 by omega) (by decide), clp (show r < 2 ^ 31 by omega), nI_1]
      by_cases hx : (tm es n p &&& tm es n q).testBit r = true
      · rw [if_neg (by rw [if_pos hx]; decide), hT.eq (show r < n by omega), shl1 (by omega)]
        have tr := tm_lt es hn r
        have r12 := p12 hn (show r < n by omega)
        obtain ⟨_, rp, rq, tp, tq⟩ := both_bit.mp hx
        rw [orI (by omega) (by omega)]
        have o1 : tm es n r ||| 2 ^ r < 2 ^ 12 := Nat.or_lt_two_pow tr r12
        rw [if_pos (sub_not0 (by omega) (by omega) (fun i hi => by
          rw [tb_or, tm_bit]
          by_cases ir : r = i
          · simp [ir]
          · have ih' : i < n ∧ TE es r i := by
              rw [hb i] at hi
              simp only [Bool.or_eq_true, Bool.and_eq_true, decide_eq_true_eq] at hi
              rcases hi with ⟨i1, i2⟩ | rfl | rfl
              · have b2 := both_bit.mp i2
                exact ⟨b2.1, te_close hw hs (p := p) (q := q) (by omega) (by omega) (by omega) (by omega) (by omega) (fun e => rp e.symm) (fun e => b2.2.1 e.symm) ht tp tq b2.2.2.2.1 b2.2.2.2.2⟩
              · exact ⟨by omega, tp.symm⟩
              · exact ⟨by omega, tq.symm⟩
            simp only [Bool.or_eq_true, Bool.and_eq_true, decide_eq_true_eq]
            exact Or.inl ⟨ih'.1, fun e => ir e.symm, tb_t.mpr ih'.2⟩))]
        rw [orI (by omega) (by omega)]
        have o2 : S ||| 2 ^ r < 2 ^ 12 := Nat.or_lt_two_pow hS r12
        have nb' : ∀ w, (S ||| 2 ^ r).testBit w = ((decide (w < r + 1) && (tm es n p &&& tm es n q).testBit w) || (decide (p = w) || decide (q = w))) := by
          intro w
          rw [tb_or, hb w]
          by_cases wr : r = w
          · subst wr
            simp [hx]
          · by_cases wl : w < r
            · simp [wr, wl, show w < r + 1 by omega]
            · simp [wr, wl, show ¬ w < r + 1 by omega]
        by_cases hrq : r ≤ q
        · rw [if_pos (nI_le hrq (by omega))]
          have e0 : l5 &&& 0 = 0 := by simp
          rw [e0]
          exact ih (r + 1) _ 0 (by omega) (by omega) o2 nb' (Or.inr ⟨rfl, r, hrq, hx⟩)
        · rw [if_neg (nI_ge (by omega) (by omega))]
          have e1 : l5 &&& 1 = l5 := by rcases h5 with ⟨rfl, _⟩ | ⟨rfl, _⟩ <;> decide
          rw [e1]
          refine ih (r + 1) _ l5 (by omega) (by omega) o2 nb' ?_
          rcases h5 with ⟨a, h5⟩ | h5
          · refine Or.inl ⟨a, fun v hv hb' => ?_⟩
            by_cases vr : v = r
            · omega
            · exact h5 v (by omega) hb'
          · exact Or.inr h5
      · rw [if_pos (by rw [if_neg hx]; rfl)]
        refine ih (r + 1) S l5 (by omega) (by omega) hS (fun w => ?_) ?_
        · rw [hb w]
          by_cases wr : w = r
          · subst wr
            simp [hx]
          · by_cases wl : w < r
            · simp [wl, show w < r + 1 by omega]
            · simp [wl, show ¬ w < r + 1 by omega]
        · rcases h5 with ⟨a, h5⟩ | h5
          · refine Or.inl ⟨a, fun v hv hb' => ?_⟩
            by_cases vr : v = r
            · subst vr; exact absurd hb' hx
            · exact h5 v (by omega) hb'
          · exact Or.inr h5
/-- one pair, the reference -/
theorem fin23 {es : List (Nat × Nat)} (hw : WL es) (hs : SP es) {n p q : Nat} (hn : n ≤ 12) (hpq : p < q) (hq : q < n) (nb : Int32) (low high : Nat → Int32) (k11 : Int32 → (Nat → Int32) → (Nat → Int32) → Int32 → Int32 → (Nat → Int32) → (Nat → Int32) → Int32 → Option ((Nat → Int32) × (Nat → Int32) × Int32 × Int32 × (Nat → Int32) × (Nat → Int32) × Int32)) (k23 : Int32 → Int32 → (Nat → Int32) → (Nat → Int32) → Int32 → Int32 → (Nat → Int32) → (Nat → Int32) → Int32 → Option ((Nat → Int32) × (Nat → Int32) × Int32 × Int32 × (Nat → Int32) × (Nat → Int32) × Int32)) (to car : Nat → Int32) (sn rk : Int32) {t : Nat → Int32} (hT : TT es n t) (P : Nat → Int32) {k : Nat} (hk : k < 144) :
    (LPr es n p q → FX7_finds_b23 (nI n) nb low high k11 k23 (nI p) (nI q) to car sn rk t P (nI k) = k23 (nI p) (nI (q + 1)) to car sn rk t (upd P k (nI (pm es n p q))) (nI (k + 1))) ∧
    (¬ LPr es n p q → FX7_finds_b23 (nI n) nb low high k11 k23 (nI p) (nI q) to car sn rk t P (nI k) = k23 (nI p) (nI (q + 1)) to car sn rk t P (nI k)) := by
  unfold FX7_finds_b23 FX7_finds_b177
  have tl := tm_lt es hn p
  have tl2 := tm_lt es hn q
  rw [if_neg (nI_ge (by omega) (by omega)), gi (show p < 12 by omega) (by decide), gi (show p < 12 by omega) (by decide), gi (show q < 12 by omega) (by decide), clp (show p < 2 ^ 31 by omega), clp (show q < 2 ^ 31 by omega), hT.eq (show p < n by omega), hT.eq hq, bitI (by omega) (by omega), tm_bit, nI_1]
  cases ht : tb es p q
  · have nl : ¬ LPr es n p q := fun x => tb_f.mp ht x.2.2.1
    simp only [Bool.and_false, Bool.false_eq_true, if_false, if_pos (show nI 0 = 0 from rfl)]
    exact ⟨fun x => absurd x nl, fun _ => trivial⟩
  · rw [decide_eq_true hq, decide_eq_true (show q ≠ p by omega)]
    simp only [Bool.and_true, if_true, if_neg (show ¬ nI 1 = 0 by decide)]
    rw [andI (by omega) (by omega), shl1 (by omega), shl1 (by omega), orI (Nat.lt_trans (p12 hn (show p < n by omega)) (by decide)) (Nat.lt_trans (p12 hn hq) (by decide))]
    exact fin76 hw hs hn hpq hq (tb_t.mp ht) nb low high k11 k23 to car sn rk hT P hk 5000 0 _ 1 (Nat.zero_le _) (by omega) (Nat.or_lt_two_pow (p12 hn (show p < n by omega)) (p12 hn hq)) (fun w => by rw [Nat.testBit_or, Nat.testBit_two_pow, Nat.testBit_two_pow]; simp) (Or.inl ⟨rfl, fun v hv => by omega⟩)
/-- one pair, the class -/
theorem par21 {es : List (Nat × Nat)} {n p q : Nat} (hn : n ≤ 12) (hpq : p < q) (hq : q < n) (k12 : Int32 → (Nat → Int32) → (Nat → Int32) → Int32 → (Nat → Int32) → (Nat → Int32) → (Nat → Int32) → Option ((Nat → Int32) × (Nat → Int32) × Int32 × (Nat → Int32) × (Nat → Int32) × (Nat → Int32))) (k21 : Int32 → Int32 → (Nat → Int32) → (Nat → Int32) → Int32 → (Nat → Int32) → (Nat → Int32) → (Nat → Int32) → Option ((Nat → Int32) × (Nat → Int32) × Int32 × (Nat → Int32) × (Nat → Int32) × (Nat → Int32))) {t : Nat → Int32} (hT : TT es n t) (P f qu ca : Nat → Int32) {k : Nat} (hk : k ≤ 24) :
    (LPr es n p q → k < 24 → FX3_findParts_b21 (nI n) k12 k21 (nI p) (nI q) t P (nI k) f qu ca = k21 (nI p) (nI (q + 1)) t (upd P k (nI (pm es n p q))) (nI (k + 1)) f qu ca) ∧
    (¬ LPr es n p q → FX3_findParts_b21 (nI n) k12 k21 (nI p) (nI q) t P (nI k) f qu ca = k21 (nI p) (nI (q + 1)) t P (nI k) f qu ca) := by
  unfold FX3_findParts_b21 FX3_findParts_b72 FX3_findParts_b126
  have tl := tm_lt es hn p
  have tl2 := tm_lt es hn q
  have pp := p12 hn (show p < n by omega)
  have qq := p12 hn hq
  have q0 : 0 < 2 ^ q := Nat.pow_pos (by decide)
  have hpm := pm_lt es hn (show p < n by omega) hq
  have epm : (nI (tm es n p) &&& nI (tm es n q)) ||| (nI (2 ^ p) ||| nI (2 ^ q)) = nI (pm es n p q) := by
    rw [andI (by omega) (by omega), orI (by omega) (by omega), orI (Nat.lt_of_le_of_lt Nat.and_le_left (by omega)) (Nat.lt_trans (Nat.or_lt_two_pow pp qq) (by decide))]
    rfl
  rw [if_neg (nI_ge (by omega) (by omega)), gi (show p < 12 by omega) (by decide), gi (show q < 12 by omega) (by decide), gi (show p < 12 by omega) (by decide), gi (show p < 12 by omega) (by decide), clp (show p < 2 ^ 31 by omega), clp (show q < 2 ^ 31 by omega), hT.eq (show p < n by omega), hT.eq hq, shl1 (by omega), shl1 (by omega), epm, sub1I q0, andI (by omega) (by omega), Nat.and_two_pow_sub_one_eq_mod, bitI (by omega) (by omega), tm_bit, nI_1, nI_1]
  have hm : pm es n p q % 2 ^ q < 2 ^ 12 := Nat.lt_of_le_of_lt (Nat.mod_le _ _) hpm
  have iff : nI (pm es n p q % 2 ^ q) = nI (2 ^ p) ↔ ∀ v, v < q → inP es n p q v → v = p := by
    rw [nI_eq (by omega) (by omega)]
    constructor
    · intro e v hv hi
      have := congrArg (fun x => x.testBit v) e
      simp only [Nat.testBit_mod_two_pow, hv, decide_true, Bool.true_and, pm_in.mpr hi, Nat.testBit_two_pow] at this
      exact (of_decide_eq_true this.symm).symm
    · intro x
      apply Nat.eq_of_testBit_eq
      intro v
      rw [Nat.testBit_mod_two_pow, Nat.testBit_two_pow]
      by_cases hv : v < q
      · cases hb : (pm es n p q).testBit v
        · have : ¬ p = v := by
            rintro rfl
            rw [pm_in.mpr (Or.inl rfl)] at hb
            cases hb
          simp [this]
        · have := x v hv (pm_in.mp hb)
          simp [this, hpq]
      · simp [hv, show ¬ p = v by omega]
  cases ht : tb es p q
  · have nl : ¬ LPr es n p q := fun x => tb_f.mp ht x.2.2.1
    simp only [Bool.and_false, Bool.false_eq_true, if_false, if_neg (show ¬ nI 0 = 1 by decide)]
    exact ⟨fun x => absurd x nl, fun _ => by split <;> rfl⟩
  · rw [decide_eq_true hq, decide_eq_true (show q ≠ p by omega)]
    simp only [Bool.and_true, if_true, if_pos (show nI 1 = 1 from rfl)]
    by_cases c : ∀ v, v < q → inP es n p q v → v = p
    · rw [if_pos (iff.mpr c), if_neg (by decide)]
      refine ⟨fun _ hk' => ?_, fun x => absurd ⟨hpq, hq, tb_t.mp ht, c⟩ x⟩
      rw [if_neg (show ¬ (24 : Int32) ≤ nI k from nI_ge hk' (by decide)), gi hk' (by decide), clp (by omega)]
    · rw [if_neg (fun e => c (iff.mp e))]
      exact ⟨fun x => absurd x.2.2.2 c, fun _ => rfl⟩
/-- all pairs, both sides -/
def PPost (x : Option ((Nat → Int32) × (Nat → Int32) × Int32 × (Nat → Int32) × (Nat → Int32) × (Nat → Int32))) (y : Option ((Nat → Int32) × (Nat → Int32) × Int32 × Int32 × (Nat → Int32) × (Nat → Int32) × Int32)) (es : List (Nat × Nat)) : Prop := ∃ t6 P6 f qu ca to car sn rk t7 P7, ∃ k : Nat, k ≤ 24 ∧ x = some (t6, P6, nI k, f, qu, ca) ∧ y = some (to, car, sn, rk, t7, P7, nI k) ∧ Lay f es ∧ Lay to es ∧ ∀ i, i < k → P6 i = P7 i ∧ ∃ m : Nat, m < 2 ^ 12 ∧ P6 i = nI m
theorem pp21 {es : List (Nat × Nat)} (hw : WL es) (hs : SP es) {n p : Nat} (hn : n ≤ 12) (hes : ∀ e, e ∈ es → e.1 < n ∧ e.2 < n) (hp : p < n) (nb : Int32) (low high : Nat → Int32) {t6 t7 : Nat → Int32} (h6 : TT es n t6) (h7 : TT es n t7) (to car : Nat → Int32) (sn rk : Int32) (f qu ca : Nat → Int32)
    {k12 : Int32 → (Nat → Int32) → (Nat → Int32) → Int32 → (Nat → Int32) → (Nat → Int32) → (Nat → Int32) → Option ((Nat → Int32) × (Nat → Int32) × Int32 × (Nat → Int32) × (Nat → Int32) × (Nat → Int32))} {k11 : Int32 → (Nat → Int32) → (Nat → Int32) → Int32 → Int32 → (Nat → Int32) → (Nat → Int32) → Int32 → Option ((Nat → Int32) × (Nat → Int32) × Int32 × Int32 × (Nat → Int32) × (Nat → Int32) × Int32)}
    (hk : ∀ (P6 P7 : Nat → Int32) (k : Nat), k ≤ 24 → Left es n (p + 1) (p + 2) k → (∀ i, i < k → P6 i = P7 i ∧ ∃ m : Nat, m < 2 ^ 12 ∧ P6 i = nI m) → PPost (k12 (nI (p + 1)) t6 P6 (nI k) f qu ca) (k11 (nI (p + 1)) to car sn rk t7 P7 (nI k)) es) :
    ∀ (fu q : Nat) (P6 P7 : Nat → Int32) (k : Nat), p < q → q ≤ n → n - q < fu → k ≤ 24 → Left es n p q k → (∀ i, i < k → P6 i = P7 i ∧ ∃ m : Nat, m < 2 ^ 12 ∧ P6 i = nI m) → PPost (FX3_findParts_h21 (nI n) k12 fu (nI p) (nI q) t6 P6 (nI k) f qu ca) (FX7_finds_h23 (nI n) nb low high k11 fu (nI p) (nI q) to car sn rk t7 P7 (nI k)) es := by
  intro fu
  induction fu with
  | zero => intro q _ _ _ _ _ h; omega
  | succ fu ih =>
    intro q P6 P7 k hpq hq hf hk24 hL hP
    show PPost (FX3_findParts_b21 (nI n) k12 (FX3_findParts_h21 (nI n) k12 fu) (nI p) (nI q) t6 P6 (nI k) f qu ca) (FX7_finds_b23 (nI n) nb low high k11 (FX7_finds_h23 (nI n) nb low high k11 fu) (nI p) (nI q) to car sn rk t7 P7 (nI k)) es
    by_cases h : n ≤ q
    · unfold FX3_findParts_b21 FX7_finds_b23
      rw [if_pos (nI_le h (by omega)), if_pos (nI_le h (by omega)), nI_1]
      exact hk P6 P7 k hk24 (hL.row h) hP
    · have c6 := par21 hn hpq (show q < n by omega) k12 (FX3_findParts_h21 (nI n) k12 fu) h6 P6 f qu ca hk24
      have c7 := fin23 hw hs hn hpq (show q < n by omega) nb low high k11 (FX7_finds_h23 (nI n) nb low high k11 fu) to car sn rk h7 P7 (k := k) (by omega)
      by_cases l : LPr es n p q
      · obtain ⟨k24, hL'⟩ := hL.take hw hs hn hes l
        rw [c6.1 l k24, c7.1 l]
        refine ih (q + 1) _ _ (k + 1) (by omega) (by omega) (by omega) (by omega) hL' (fun i hi => ?_)
        by_cases e : i = k
        · subst e
          rw [updS, updS]
          exact ⟨rfl, _, pm_lt es hn (by omega) (by omega), rfl⟩
        · rw [updN e, updN e]
          exact hP i (by omega)
      · rw [c6.2 l, c7.2 l]
        exact ih (q + 1) P6 P7 k (by omega) (by omega) (by omega) hk24 hL.skip hP
theorem pp12 {es : List (Nat × Nat)} (hw : WL es) (hs : SP es) {n : Nat} (hn : n ≤ 12) (hes : ∀ e, e ∈ es → e.1 < n ∧ e.2 < n) (nb : Int32) (low high : Nat → Int32) {t6 t7 : Nat → Int32} (h6 : TT es n t6) (h7 : TT es n t7) {to car : Nat → Int32} (sn rk : Int32) {f : Nat → Int32} (qu ca : Nat → Int32) (hl6 : Lay f es) (hl7 : Lay to es) :
    ∀ (fu p : Nat) (P6 P7 : Nat → Int32) (k : Nat), p ≤ n → n - p < fu → k ≤ 24 → Left es n p (p + 1) k → (∀ i, i < k → P6 i = P7 i ∧ ∃ m : Nat, m < 2 ^ 12 ∧ P6 i = nI m) → PPost (FX3_findParts_h12 (nI n) fu (nI p) t6 P6 (nI k) f qu ca) (FX7_finds_h11 (nI n) nb low high fu (nI p) to car sn rk t7 P7 (nI k)) es := by
  intro fu
  induction fu with
  | zero => intro p _ _ _ _ h; omega
  | succ fu ih =>
    intro p P6 P7 k hp hf hk24 hL hP
    show PPost (FX3_findParts_b12 (nI n) (FX3_findParts_h12 (nI n) fu) (nI p) t6 P6 (nI k) f qu ca) (FX7_finds_b11 (nI n) nb low high (FX7_finds_h11 (nI n) nb low high fu) (nI p) to car sn rk t7 P7 (nI k)) es
    unfold FX3_findParts_b12 FX7_finds_b11
    by_cases h : n ≤ p
    · rw [if_pos (nI_le h (by omega)), if_pos (nI_le h (by omega))]
      exact ⟨_, _, _, _, _, _, _, _, _, _, _, k, hk24, rfl, rfl, hl6, hl7, hP⟩
    · rw [if_neg (nI_ge (by omega) (by omega)), if_neg (nI_ge (by omega) (by omega)), nI_1]
      exact pp21 hw hs hn hes (show p < n by omega) nb low high h6 h7 to car sn rk f qu ca (fun P6 P7 k a b c => ih (p + 1) P6 P7 k (by omega) (by omega) a b c) 5000 (p + 1) P6 P7 k (by omega) (by omega) (by omega) hk24 hL hP
theorem GE_in {n nb : Nat} {br : Nat → Nat × Nat} {les gre : Nat → Int32} (hB : Br n nb br les gre) : ∀ e, e ∈ GE br nb → e.1 < n ∧ e.2 < n := by
  intro e he
  obtain ⟨i, hi, rfl⟩ := GE_mem he
  obtain ⟨a, b, _⟩ := hB.2.2 i hi
  exact ⟨by omega, by omega⟩
theorem GE_le (br : Nat → Nat × Nat) (m : Nat) : (GE br m).length ≤ m := by
  induction m with
  | zero => exact Nat.le_refl _
  | succ m ih => simp only [GE]; rw [gs_len]; split <;> omega
theorem parts_v {n nb : Nat} {br : Nat → Nat × Nat} {les gre low high : Nat → Int32} (hB6 : Br n nb br les gre) (hB7 : Br n nb br low high) (t6 P6 : Nat → Int32) (c6 : Int32) {f : Nat → Int32} (hl : Lay f (GE br nb)) (qu ca : Nat → Int32) (g car : Nat → Int32) (sn rk : Int32) (t7 P7 : Nat → Int32) (c7 : Int32) : PPost (FX3_findParts (nI n) t6 P6 c6 f qu ca) (FX7_finds (nI n) (nI nb) low high g car sn rk t7 P7 c7) (GE br nb) := by
  unfold FX3_findParts FX7_finds
  have h12 := hB6.1
  obtain ⟨t6', f', qu', ca', e6, T6, l6⟩ := findTies_v h12 t6 hl qu ca
  obtain ⟨t7', g', car', sn', e7, T7, l7, _⟩ := ties_v hB7 g car sn rk t7
  rw [e6, e7]
  simp only [Option.bind_some]
  have := GE_le br nb
  have h24 := hB6.2.1
  exact pp12 (GE_wl hB6.ok) (GE_sp br nb) h12 (GE_in hB6) (nI nb) low high T6 T7 sn' _ qu' ca' l6 l7 5000 0 P6 P7 0 (Nat.zero_le _) (by omega) (by omega) ⟨GE br nb, by omega, fun _ _ _ _ e he _ _ => he⟩ (fun i hi => by omega)
