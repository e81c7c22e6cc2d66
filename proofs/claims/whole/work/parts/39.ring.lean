/-! some of the bars, in their order -/
noncomputable def RB (keep : Nat → Bool) (br : Nat → Nat × Nat) : Nat → List (Nat × Nat)
  | 0 => []
  | a + 1 => if keep a then gs (RB keep br a) (br a) else RB keep br a
theorem RB_t {keep : Nat → Bool} {br : Nat → Nat × Nat} {a : Nat} (h : keep a = true) : RB keep br (a + 1) = gs (RB keep br a) (br a) := by simp only [RB, h, if_true]
theorem RB_f {keep : Nat → Bool} {br : Nat → Nat × Nat} {a : Nat} (h : keep a = false) : RB keep br (a + 1) = RB keep br a := by simp only [RB, h, Bool.false_eq_true, if_false]
theorem wcb_h {n nb : Nat} {br : Nat → Nat × Nat} {les gre : Nat → Int32} (hB : Br n nb br les gre) {b : Nat} (hb : b < nb) {keep : Nat → Bool} {m : Int32} (hm : ∀ i, i < b → ((m >>> (nI i &&& 31)) &&& 1) = if keep i then 1 else 0) : ∀ (fu a : Nat) (f qu ca : Nat → Int32), a ≤ b → b - a < fu → Lay f (RB keep br a) → ∃ f' qu' ca', FX3_wouldCarryBehind_h10 (nI b) m les gre fu (nI a) f qu ca = some ((if tb (RB keep br b) (br b).1 (br b).2 then 0 else 1), f', qu', ca') := by
  intro fu
  induction fu with
  | zero => intro a _ _ _ _ h; omega
  | succ fu ih =>
    intro a f qu ca ha hf hL
    obtain ⟨n12, nb24, hbb⟩ := hB
    show ∃ f' qu' ca', FX3_wouldCarryBehind_b10 (nI b) m les gre (FX3_wouldCarryBehind_h10 (nI b) m les gre fu) (nI a) f qu ca = _
    unfold FX3_wouldCarryBehind_b10
    by_cases h : b ≤ a
    · have : a = b := by omega
      subst this
      obtain ⟨b1, b2, b3, b4⟩ := hbb a hb
      rw [if_pos (nI_le (Nat.le_refl _) (by omega)), gi (by omega) (by decide), gi (by omega) (by decide), clp (by omega), b3, b4]
      obtain ⟨f1, qu1, ca1, e1, l1, l2⟩ := cL6 hL (p := (br a).1) (q := (br a).2) (by omega) (by omega) (by omega) qu ca
      rw [e1]
      simp only [Option.bind_some]
      refine ⟨f1, qu1, ca1, ?_⟩
      unfold gd
      rw [if_pos]
      cases tb (RB keep br a) (br a).1 (br a).2
      · exact Or.inr rfl
      · exact Or.inl rfl
    · rw [if_neg (nI_ge (by omega) (by omega)), hm a (by omega)]
      unfold FX3_wouldCarryBehind_b31 FX3_wouldCarryBehind_b83
      obtain ⟨b1, b2, b3, b4⟩ := hbb a (by omega)
      cases hk : keep a
      · simp only [Bool.false_eq_true, if_false, if_neg (show ¬ (0 : Int32) = 1 by decide), if_true, nI_1]
        exact ih (a + 1) f qu ca (by omega) (by omega) (by rw [RB_f (by simp [hk])]; exact hL)
      · simp only [if_true, if_neg (show ¬ (1 : Int32) = 0 by decide), nI_1]
        rw [gi (by omega) (by decide), gi (by omega) (by decide), clp (by omega), b3, b4]
        obtain ⟨f1, qu1, ca1, e1, l1, l2⟩ := cL6 hL (p := (br a).1) (q := (br a).2) (by omega) (by omega) (by omega) qu ca
        rw [e1]
        simp only [Option.bind_some]
        have gE : RB keep br (a + 1) = gs (RB keep br a) (br a) := RB_t hk
        by_cases tt : tb (RB keep br a) (br a).1 (br a).2 = true
        · rw [tt, if_pos rfl, if_pos rfl]
          exact ih (a + 1) f1 qu1 ca1 (by omega) (by omega) (by rw [gE]; unfold gs; rw [tt, if_pos rfl]; exact l1)
        · have tf : tb (RB keep br a) (br a).1 (br a).2 = false := by simpa using tt
          rw [if_neg tt, if_neg (show ¬ (1 : Int32) = 0 by decide)]
          unfold FX1_lay
          rw [gi (by omega) (by decide), gi (by omega) (by decide), mul2I, gi (by omega) (by decide), clp (by omega)]
          simp only [Option.bind_some]
          exact ih (a + 1) _ qu1 ca1 (by omega) (by omega) (by rw [gE]; unfold gs; rw [if_neg tt]; exact l1.lay (by omega) (by omega) (by omega) (l2 tf))
theorem wcb_v {n nb : Nat} {br : Nat → Nat × Nat} {les gre : Nat → Int32} (hB : Br n nb br les gre) {b : Nat} (hb : b < nb) {keep : Nat → Bool} {m : Int32} (hm : ∀ i, i < b → ((m >>> (nI i &&& 31)) &&& 1) = if keep i then 1 else 0) (f qu ca : Nat → Int32) : ∃ f' qu' ca', FX3_wouldCarryBehind (nI b) m f qu ca les gre = some ((if tb (RB keep br b) (br b).1 (br b).2 then 0 else 1), f', qu', ca') := by
  unfold FX3_wouldCarryBehind
  obtain ⟨f0, e0, l0⟩ := freeAll_v f
  rw [e0]
  exact wcb_h hB hb hm 5000 0 f0 qu ca (Nat.zero_le _) (by have := hB.2.1; omega) l0
theorem mwc_h {n nb : Nat} {br : Nat → Nat × Nat} {low high : Nat → Int32} (hB : Br n nb br low high) {b x : Nat} (hb : b < nb) (hx : x < b) {g : Nat → Bool} {car : Nat → Int32} (hm : ∀ i, i < b → car i = if g i then 1 else 0) : ∀ (fu a : Nat) (f : Nat → Int32) (sn rk : Int32), a ≤ b → b - a < fu → Lay f (RB (fun i => g i && !decide (i = x)) br a) → ∃ f' sn' rk', FX7_wouldCarry_h6 (nI b) (nI x) low high car fu (nI a) f sn rk = some ((if tb (RB (fun i => g i && !decide (i = x)) br b) (br b).1 (br b).2 then 0 else 1), f', sn', rk') := by
  intro fu
  induction fu with
  | zero => intro a _ _ _ _ h; omega
  | succ fu ih =>
    intro a f sn rk ha hf hL
    obtain ⟨n12, nb24, hbb⟩ := hB
    show ∃ f' sn' rk', FX7_wouldCarry_b6 (nI b) (nI x) low high car (FX7_wouldCarry_h6 (nI b) (nI x) low high car fu) (nI a) f sn rk = _
    unfold FX7_wouldCarry_b6
    by_cases h : b ≤ a
    · have : a = b := by omega
      subst this
      obtain ⟨b1, b2, b3, b4⟩ := hbb a hb
      rw [if_pos (nI_le (Nat.le_refl _) (by omega)), gi (by omega) (by decide), gi (by omega) (by decide), clp (by omega), b3, b4]
      obtain ⟨f1, sn1, e1, l1, l2⟩ := bL7 hL (p := (br a).1) (q := (br a).2) (by omega) (by omega) (by omega) sn
      rw [e1]
      simp only [Option.bind_some]
      refine ⟨f1, sn1, rk, ?_⟩
      unfold gd
      rw [if_pos]
      cases tb (RB (fun i => g i && !decide (i = x)) br a) (br a).1 (br a).2
      · exact Or.inr rfl
      · exact Or.inl rfl
    · rw [if_neg (nI_ge (by omega) (by omega)), gi (show a < 24 by omega) (by decide), clp (show a < 2 ^ 31 by omega), hm a (by omega)]
      unfold FX7_wouldCarry_b42
      obtain ⟨b1, b2, b3, b4⟩ := hbb a (by omega)
      cases hk : g a
      · simp only [Bool.false_eq_true, if_false, if_true, nI_1]
        exact ih (a + 1) f sn rk (by omega) (by omega) (by rw [RB_f (by simp [hk])]; exact hL)
      · simp only [if_true, if_neg (show ¬ (1 : Int32) = 0 by decide), nI_1]
        by_cases hax : a = x
        · rw [if_pos (by rw [hax])]
          exact ih (a + 1) f sn rk (by omega) (by omega) (by rw [RB_f (by simp [hax])]; exact hL)
        · rw [if_neg (fun e => hax ((nI_eq (by omega) (by omega)).mp e)), gi (by omega) (by decide), gi (by omega) (by decide), b3, b4]
          obtain ⟨f1, sn1, e1, l1⟩ := comes_v hL (p := (br a).1) (q := (br a).2) (by omega) (by omega) (by omega) sn rk
          rw [e1]
          simp only [Option.bind_some]
          exact ih (a + 1) f1 sn1 _ (by omega) (by omega) (by rw [RB_t (by simp [hk, hax])]; exact l1)
theorem mwc_v {n nb : Nat} {br : Nat → Nat × Nat} {low high : Nat → Int32} (hB : Br n nb br low high) {b x : Nat} (hb : b < nb) (hx : x < b) {g : Nat → Bool} {car : Nat → Int32} (hm : ∀ i, i < b → car i = if g i then 1 else 0) (f : Nat → Int32) (sn rk : Int32) : ∃ f' sn' rk', FX7_wouldCarry (nI b) (nI x) low high f car sn rk = some ((if tb (RB (fun i => g i && !decide (i = x)) br b) (br b).1 (br b).2 then 0 else 1), f', sn', rk') := by
  unfold FX7_wouldCarry
  obtain ⟨f0, e0, l0⟩ := empties_v f rk
  rw [e0]
  exact mwc_h hB hb hx hm 5000 0 f0 sn 0 (Nat.zero_le _) (by have := hB.2.1; omega) l0
