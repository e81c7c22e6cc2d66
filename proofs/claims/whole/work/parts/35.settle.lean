/-! the frame settled, on both sides -/
theorem sm_ext {g : Nat → Nat} {n m : Nat} (h : n ≤ m) (e : ∀ i, n ≤ i → i < m → g i = 0) : sm g m = sm g n := by
  induction m with
  | zero => rw [show n = 0 by omega]
  | succ m ih =>
    rcases Nat.lt_or_ge n (m + 1) with h1 | h1
    · simp only [sm]; rw [ih (by omega) (fun i a b => e i a (by omega)), e m (by omega) (by omega)]; rfl
    · rw [show n = m + 1 by omega]
theorem pc_GM (ed : Nat → Nat × Nat) {m : Nat} (hm : m ≤ 24) : pc (GM ed m) 24 = (GE ed m).length := by
  rw [GE_len]
  unfold pc
  rw [sm_ext hm (fun i h1 h2 => by rw [GM_bit]; simp [show ¬ i < m by omega])]
  apply sm_congr
  intro i hi
  rw [GM_bit]
  simp [hi]
theorem GM24 (ed : Nat → Nat × Nat) {m : Nat} (hm : m ≤ 24) : GM ed m < 2 ^ 24 := Nat.lt_of_lt_of_le (GM_lt ed m) (Nat.pow_le_pow_right (by decide) hm)
theorem settle_v {n nb : Nat} {br : Nat → Nat × Nat} {les gre : Nat → Int32} (hB : Br n nb br les gre) (a b c d : Int32) (f qu ca : Nat → Int32) : ∃ f' qu' ca', FX3_settle a b c d f qu ca (nI n) (nI nb) les gre = some (nI (GM br nb), nI (GE br nb).length, 2 * nI n - nI (GE br nb).length, (if 2 ≤ n ∧ 2 * nI n - nI (GE br nb).length = 3 then 1 else 0), f', qu', ca') ∧ Lay f' (GE br nb) := by
  unfold FX3_settle
  obtain ⟨f', qu', ca', e, l⟩ := cw_v hB f qu ca
  have h12 := hB.1
  rw [e]
  simp only [Option.bind_some]
  rw [bitCount_v (GM24 br hB.2.1), pc_GM br hB.2.1]
  simp only [Option.bind_some]
  by_cases h2 : n < 2
  · rw [if_pos (show nI n < 2 from nI_lt h2 (by decide)), if_neg (by omega)]
    exact ⟨f', qu', ca', rfl, l⟩
  · rw [if_neg (show ¬ nI n < 2 from nI_nlt (show 2 ≤ n by omega) (by omega))]
    by_cases h3 : 2 * nI n - nI (GE br nb).length = 3
    · rw [if_pos h3, if_pos ⟨by omega, h3⟩]
      exact ⟨f', qu', ca', rfl, l⟩
    · rw [if_neg h3, if_neg (fun h => h3 h.2)]
      exact ⟨f', qu', ca', rfl, l⟩
theorem gs_len (es : List (Nat × Nat)) (e : Nat × Nat) : (gs es e).length = if tb es e.1 e.2 then es.length else es.length + 1 := by
  unfold gs
  split <;> rfl
theorem z01 (b : Bool) : (if b then (0 : Int32) else 1) = 0 ∨ (if b then (0 : Int32) else 1) = 1 := by cases b <;> simp
/-- the reference goes through all bars -/
theorem call_h {n nb : Nat} {br : Nat → Nat × Nat} {low high : Nat → Int32} (hB : Br n nb br low high) : ∀ (fu a : Nat) (f car : Nat → Int32) (sn : Int32), a ≤ nb → nb - a < fu → Lay f (GE br a) → (∀ i, i < a → car i = if gb br i then 1 else 0) → ∃ f' car' sn', FX7_carriesAll_h6 (nI nb) low high fu (nI a) f car sn (nI (GE br a).length) = some (f', car', sn', nI (GE br nb).length) ∧ Lay f' (GE br nb) ∧ ∀ i, i < nb → car' i = if gb br i then 1 else 0 := by
  intro fu
  induction fu with
  | zero => intro a _ _ _ _ h; omega
  | succ fu ih =>
    intro a f car sn ha hf hL hc
    obtain ⟨n12, nb24, hb⟩ := hB
    show ∃ f' car' sn', FX7_carriesAll_b6 (nI nb) low high (FX7_carriesAll_h6 (nI nb) low high fu) (nI a) f car sn (nI (GE br a).length) = _ ∧ _
    unfold FX7_carriesAll_b6
    by_cases h : nb ≤ a
    · have : a = nb := by omega
      subst this
      rw [if_pos (nI_le (Nat.le_refl _) (by omega))]
      exact ⟨f, car, sn, rfl, hL, hc⟩
    · obtain ⟨b1, b2, b3, b4⟩ := hb a (by omega)
      rw [if_neg (nI_ge (by omega) (by omega)), gi (by omega) (by decide), gi (by omega) (by decide), clp (by omega), b3, b4]
      obtain ⟨f1, sn1, e1, l1⟩ := comes_v hL (p := (br a).1) (q := (br a).2) (by omega) (by omega) (by omega) sn (nI (GE br a).length)
      rw [e1]
      simp only [Option.bind_some]
      rw [gi (by omega) (by decide), gd_t (z01 _), nI_1]
      have el : (if tb (GE br a) (br a).1 (br a).2 = true then nI (GE br a).length else nI (GE br a).length + 1) = nI (GE br (a + 1)).length := by
        simp only [GE]; rw [gs_len]; split <;> simp [nI_1]
      rw [el]
      refine ih (a + 1) f1 _ sn1 (by omega) (by omega) l1 (fun i hi => ?_)
      by_cases ei : i = a
      · subst ei
        rw [updS]
        unfold gb
        cases tb (GE br i) (br i).1 (br i).2 <;> simp
      · rw [updN ei]; exact hc i (by omega)
theorem call_v {n nb : Nat} {br : Nat → Nat × Nat} {low high : Nat → Int32} (hB : Br n nb br low high) (f car : Nat → Int32) (sn rk : Int32) : ∃ f' car' sn', FX7_carriesAll (nI nb) low high f car sn rk = some (f', car', sn', nI (GE br nb).length) ∧ Lay f' (GE br nb) ∧ ∀ i, i < nb → car' i = if gb br i then 1 else 0 := by
  unfold FX7_carriesAll
  obtain ⟨f0, e0, l0⟩ := empties_v f rk
  rw [e0]
  exact call_h hB 5000 0 f0 car sn (Nat.zero_le _) (by have := hB.2.1; omega) l0 (fun i h => by omega)
/-- the order without one bar -/
def wo (br : Nat → Nat × Nat) (b : Nat) : Nat → Nat × Nat := fun i => br (if i < b then i else i + 1)
theorem rkw_h {n nb : Nat} {br : Nat → Nat × Nat} {low high : Nat → Int32} (hB : Br n nb br low high) {b : Nat} (hb : b < nb) : ∀ (fu a : Nat) (f : Nat → Int32) (sn : Int32), a ≤ nb → nb - a < fu → Lay f (GE (wo br b) (if a ≤ b then a else a - 1)) → ∃ f' sn', FX7_rankWithout_h6 (nI b) (nI nb) low high fu (nI a) f sn (nI (GE (wo br b) (if a ≤ b then a else a - 1)).length) = some (nI (GE (wo br b) (nb - 1)).length, f', sn', nI (GE (wo br b) (nb - 1)).length) ∧ Lay f' (GE (wo br b) (nb - 1)) := by
  intro fu
  induction fu with
  | zero => intro a _ _ _ h; omega
  | succ fu ih =>
    intro a f sn ha hf hL
    have hB' := hB
    obtain ⟨n12, nb24, hbr⟩ := hB'
    show ∃ f' sn', FX7_rankWithout_b6 (nI b) (nI nb) low high (FX7_rankWithout_h6 (nI b) (nI nb) low high fu) (nI a) f sn _ = _ ∧ _
    unfold FX7_rankWithout_b6 FX7_rankWithout_b36
    by_cases h : nb ≤ a
    · have : a = nb := by omega
      subst this
      rw [if_neg (show ¬ a ≤ b by omega)] at hL ⊢
      rw [if_pos (nI_le (Nat.le_refl _) (by omega))]
      exact ⟨f, sn, rfl, hL⟩
    · rw [if_neg (nI_ge (by omega) (by omega)), nI_1]
      by_cases hab : a = b
      · subst hab
        rw [if_pos rfl]
        have := ih (a + 1) f sn (by omega) (by omega)
        rw [if_neg (show ¬ a + 1 ≤ a by omega), Nat.add_sub_cancel] at this
        rw [if_pos (Nat.le_refl a)] at hL ⊢
        exact this hL
      · rw [if_neg (fun e => hab ((nI_eq (by omega) (by omega)).mp e))]
        obtain ⟨b1, b2, b3, b4⟩ := hbr a (by omega)
        rw [gi (by omega) (by decide), gi (by omega) (by decide), clp (by omega), b3, b4]
        generalize hm : (if a ≤ b then a else a - 1) = m at hL ⊢
        have em : (if a + 1 ≤ b then a + 1 else a + 1 - 1) = m + 1 := by
          by_cases c : a ≤ b
          · rw [if_pos c] at hm; subst hm; rw [if_pos (by omega)]
          · rw [if_neg c] at hm; subst hm; rw [if_neg (by omega)]; omega
        have ew : wo br b m = br a := by
          unfold wo
          by_cases c : a ≤ b
          · rw [if_pos c] at hm; subst hm; rw [if_pos (by omega)]
          · rw [if_neg c] at hm; subst hm; rw [if_neg (by omega), show a - 1 + 1 = a by omega]
        obtain ⟨f1, sn1, e1, l1⟩ := comes_v hL (p := (br a).1) (q := (br a).2) (by omega) (by omega) (by omega) sn (nI (GE (wo br b) m).length)
        rw [e1]
        simp only [Option.bind_some]
        have gE : GE (wo br b) (m + 1) = gs (GE (wo br b) m) (br a) := by simp only [GE]; rw [ew]
        have el : (if tb (GE (wo br b) m) (br a).1 (br a).2 = true then nI (GE (wo br b) m).length else nI (GE (wo br b) m).length + 1) = nI (GE (wo br b) (m + 1)).length := by
          rw [gE, gs_len]; split <;> simp [nI_1]
        rw [el]
        have := ih (a + 1) f1 sn1 (by omega) (by omega)
        rw [em, gE] at this
        rw [gE]
        exact this l1
theorem rkw_v {n nb : Nat} {br : Nat → Nat × Nat} {low high : Nat → Int32} (hB : Br n nb br low high) {b : Nat} (hb : b < nb) (f : Nat → Int32) (sn rk : Int32) : ∃ f' sn', FX7_rankWithout (nI b) (nI nb) low high f sn rk = some (nI (GE (wo br b) (nb - 1)).length, f', sn', nI (GE (wo br b) (nb - 1)).length) ∧ Lay f' (GE (wo br b) (nb - 1)) := by
  unfold FX7_rankWithout
  obtain ⟨f0, e0, l0⟩ := empties_v f rk
  rw [e0]
  have := rkw_h hB hb 5000 0 f0 sn (Nat.zero_le _) (by have := hB.2.1; omega)
  rw [if_pos (Nat.zero_le b)] at this
  exact this l0
theorem rk_h {n nb : Nat} {br : Nat → Nat × Nat} {low high : Nat → Int32} (hB : Br n nb br low high) : ∀ (fu a : Nat) (f : Nat → Int32) (sn : Int32), a ≤ nb → nb - a < fu → Lay f (GE br a) → ∃ f' sn', FX7_rankWithout_h6 (-1) (nI nb) low high fu (nI a) f sn (nI (GE br a).length) = some (nI (GE br nb).length, f', sn', nI (GE br nb).length) ∧ Lay f' (GE br nb) := by
  intro fu
  induction fu with
  | zero => intro a _ _ _ h; omega
  | succ fu ih =>
    intro a f sn ha hf hL
    have hB' := hB
    obtain ⟨n12, nb24, hbr⟩ := hB'
    show ∃ f' sn', FX7_rankWithout_b6 (-1) (nI nb) low high (FX7_rankWithout_h6 (-1) (nI nb) low high fu) (nI a) f sn _ = _ ∧ _
    unfold FX7_rankWithout_b6 FX7_rankWithout_b36
    by_cases h : nb ≤ a
    · have : a = nb := by omega
      subst this
      rw [if_pos (nI_le (Nat.le_refl _) (by omega))]
      exact ⟨f, sn, rfl, hL⟩
    · rw [if_neg (nI_ge (by omega) (by omega)), nI_1, if_neg (nI_nm1 (by omega))]
      obtain ⟨b1, b2, b3, b4⟩ := hbr a (by omega)
      rw [gi (by omega) (by decide), gi (by omega) (by decide), clp (by omega), b3, b4]
      obtain ⟨f1, sn1, e1, l1⟩ := comes_v hL (p := (br a).1) (q := (br a).2) (by omega) (by omega) (by omega) sn (nI (GE br a).length)
      rw [e1]
      simp only [Option.bind_some]
      have el : (if tb (GE br a) (br a).1 (br a).2 = true then nI (GE br a).length else nI (GE br a).length + 1) = nI (GE br (a + 1)).length := by
        simp only [GE]; rw [gs_len]; split <;> simp [nI_1]
      rw [el]
      exact ih (a + 1) f1 sn1 (by omega) (by omega) l1
theorem rk_v {n nb : Nat} {br : Nat → Nat × Nat} {low high : Nat → Int32} (hB : Br n nb br low high) (f : Nat → Int32) (sn rk : Int32) : ∃ f' sn', FX7_rank (nI nb) low high f sn rk = some (nI (GE br nb).length, f', sn', nI (GE br nb).length) ∧ Lay f' (GE br nb) := by
  unfold FX7_rank FX7_rankWithout
  obtain ⟨f0, e0, l0⟩ := empties_v f rk
  rw [e0]
  obtain ⟨f', sn', e, l⟩ := rk_h hB 5000 0 f0 sn (Nat.zero_le _) (by have := hB.2.1; omega) l0
  have e' : FX7_rankWithout_h6 (-1) (nI nb) low high 5000 0 f0 sn 0 = some (nI (GE br nb).length, f', sn', nI (GE br nb).length) := e
  refine ⟨f', sn', ?_, l⟩
  simp only [Option.bind_some]
  rw [e']
  rfl
theorem sub_sub1 (a b : Int32) : a - b - 1 = a - (b + 1) := by
  apply Int32.toInt_inj.mp
  rw [Int32.toInt_sub, Int32.toInt_sub, Int32.toInt_sub, Int32.toInt_add]
  have h1 := Int32.toInt_lt a
  have h2 := Int32.le_toInt a
  have h3 := Int32.toInt_lt b
  have h4 := Int32.le_toInt b
  have e1 : (1 : Int32).toInt = 1 := by decide
  rw [e1]
  simp only [Int.bmod]
  omega
/-- with one more, without one -/
theorem with_core (p q : Int32) {n nb : Nat} {pins bars : Int32} {names les gre : Nat → Int32} {mpins mbars : Int32} {mname mlow mhigh : Nat → Int32} (h : FrR n nb pins bars names les gre mpins mbars mname mlow mhigh) (a b c d : Int32) (f qu ca g car : Nat → Int32) (sn rk : Int32) :
    ∃ (u : Int32 × Int32 × Int32 × Int32 × Int32 × (Nat → Int32) × (Nat → Int32) × (Nat → Int32)) (v : Int32 × (Nat → Int32) × (Nat → Int32) × Int32 × Int32), FX6_with p q pins bars les gre a b c d f qu ca = some u ∧ FX7_with p q mpins mbars mlow mhigh g car sn rk = some v ∧ u.1 = v.1 := by
  obtain ⟨br, hB6, hB7, _⟩ := h.br
  obtain ⟨h1, h2, rfl, rfl, rfl, rfl, h7, h8, h9⟩ := h
  unfold FX6_with FX7_with
  rcases two_cases p q (n := n) (by omega) with ⟨e1, e2⟩ | ⟨i, j, hi, hj, hij, rfl, rfl, e1, e2⟩
  · rw [e1, e2]
    exact ⟨_, _, rfl, rfl, rfl⟩
  · rw [e1, e2]
    simp only [Option.bind_some, if_neg (show ¬ (1 : Int32) = 0 by decide)]
    obtain ⟨f1, qu1, ca1, s1, l1⟩ := settle_v hB6 a b c d f qu ca
    obtain ⟨g1, car1, sn1, s2, l2, _⟩ := call_v hB7 g car sn rk
    rw [s1, s2]
    simp only [Option.bind_some]
    unfold FX3_isTied
    obtain ⟨f2, qu2, ca2, t1, _, _⟩ := cL6 l1 (p := i) (q := j) (by omega) (by omega) hij qu1 ca1
    obtain ⟨g2, sn2, t2, _⟩ := comes_v l2 (p := i) (q := j) (by omega) (by omega) hij sn1 (nI (GE br nb).length)
    rw [t1, t2]
    simp only [Option.bind_some]
    cases tb (GE br nb) i j
    · refine ⟨_, _, rfl, rfl, ?_⟩
      simp
      exact sub_sub1 _ _
    · exact ⟨_, _, rfl, rfl, rfl⟩
