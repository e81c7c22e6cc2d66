/-! the reference, one bar the last -/
theorem step7 {W : Nat → Nat × Nat} {k : Nat} (h1 : (W k).1 < (W k).2) (h2 : (W k).2 < 12) {f : Nat → Int32} (hL : Lay f (GE W k)) (sn : Int32) : ∃ f' sn', FX7_comes (nI (W k).1) (nI (W k).2) f sn (nI (GE W k).length) = some ((if gb W k then 1 else 0), f', sn', nI (GE W (k + 1)).length) ∧ Lay f' (GE W (k + 1)) := by
  obtain ⟨f', sn', e, l⟩ := comes_v hL (p := (W k).1) (q := (W k).2) (by omega) (by omega) (by omega) sn (nI (GE W k).length)
  refine ⟨f', sn', ?_, l⟩
  rw [e]
  have eg : GE W (k + 1) = gs (GE W k) (W k) := rfl
  rw [eg]
  unfold gb gs
  cases tb (GE W k) (W k).1 (W k).2
  · simp only [Bool.false_eq_true, if_false, Bool.not_false, if_true, List.length_cons, nI_1]
  · simp only [if_true, Bool.not_true, Bool.false_eq_true, if_false]
theorem gd01 {α : Type} (b : Bool) (x : Option α) : gd ((if b then (1 : Int32) else 0) = 0 ∨ (if b then (1 : Int32) else 0) = 1) x = x := by
  unfold gd
  rw [if_pos]
  cases b
  · exact Or.inl rfl
  · exact Or.inr rfl
theorem car_up {W : Nat → Nat × Nat} {k : Nat} {car : Nat → Int32} (h : ∀ i, i < k → car i = if gb W i then 1 else 0) : ∀ i, i < k + 1 → (upd car k (if gb W k then 1 else 0)) i = if gb W i then 1 else 0 := by
  intro i hi
  by_cases e : i = k
  · subst e; exact updS
  · rw [updN e]; exact h i (by omega)
theorem mcl_h {n nb : Nat} {br : Nat → Nat × Nat} {low high : Nat → Int32} (hB : Br n nb br low high) {b : Nat} (hb : b < nb) : ∀ (fu a k : Nat) (f car : Nat → Int32) (sn : Int32), a ≤ nb → nb - a < fu → (a ≤ b ∧ k = a ∨ b < a ∧ k + 1 = a) → Lay f (GE (wl br nb b) k) → (∀ i, i < k → car i = if gb (wl br nb b) i then 1 else 0) →
    ∃ f' car' sn', FX7_carriesWithLast_h8 (nI b) (nI nb) low high fu (nI k) (nI a) f car sn (nI (GE (wl br nb b) k).length) = some (f', car', sn', nI (GE (wl br nb b) nb).length) ∧ Lay f' (GE (wl br nb b) nb) ∧ ∀ i, i < nb → car' i = if gb (wl br nb b) i then 1 else 0 := by
  intro fu
  induction fu with
  | zero => intro a _ _ _ _ _ h; omega
  | succ fu ih =>
    intro a k f car sn ha hf hk hL hc
    obtain ⟨n12, nb24, hbb⟩ := hB
    show ∃ f' car' sn', FX7_carriesWithLast_b8 (nI b) (nI nb) low high (FX7_carriesWithLast_h8 (nI b) (nI nb) low high fu) (nI k) (nI a) f car sn (nI (GE (wl br nb b) k).length) = _ ∧ _
    unfold FX7_carriesWithLast_b8 FX7_carriesWithLast_b49
    by_cases h : nb ≤ a
    · have ek : k + 1 = nb := by omega
      have eW : wl br nb b k = br b := by unfold wl; rw [if_pos (by omega)]
      obtain ⟨b1, b2, b3, b4⟩ := hbb b hb
      obtain ⟨f1, sn1, e1, l1⟩ := step7 (W := wl br nb b) (k := k) (by rw [eW]; exact b1) (by rw [eW]; omega) hL sn
      rw [eW] at e1
      rw [if_pos (nI_le h (by omega)), if_neg (show ¬ nI b < (0 : Int32) from nI_nlt (Nat.zero_le b) (by omega)), gi (show b < 24 by omega) (by decide), gi (show b < 24 by omega) (by decide), clp (show b < 2 ^ 31 by omega), b3, b4, e1]
      simp only [Option.bind_some]
      rw [gi (show k < 24 by omega) (by decide), clp (show k < 2 ^ 31 by omega), gd01]
      rw [ek] at l1 ⊢
      exact ⟨_, _, _, rfl, l1, by have := car_up hc; rw [ek] at this; exact this⟩
    · rw [if_neg (nI_ge (by omega) (by omega))]
      by_cases hab : a = b
      · rw [if_pos (by rw [hab]), nI_1]
        exact ih (a + 1) k f car sn (by omega) (by omega) (by omega) hL hc
      · have eW : wl br nb b k = br a := by
          unfold wl
          rw [if_neg (by omega)]
          by_cases q : k < b
          · rw [if_pos q]; congr 1; omega
          · rw [if_neg q]; congr 1; omega
        obtain ⟨b1, b2, b3, b4⟩ := hbb a (by omega)
        obtain ⟨f1, sn1, e1, l1⟩ := step7 (W := wl br nb b) (k := k) (by rw [eW]; exact b1) (by rw [eW]; omega) hL sn
        rw [eW] at e1
        rw [if_neg (fun e => hab ((nI_eq (by omega) (by omega)).mp e)), gi (show a < 24 by omega) (by decide), gi (show a < 24 by omega) (by decide), clp (show a < 2 ^ 31 by omega), b3, b4, e1]
        simp only [Option.bind_some]
        rw [gi (show k < 24 by omega) (by decide), clp (show k < 2 ^ 31 by omega), gd01, nI_1, nI_1]
        exact ih (a + 1) (k + 1) f1 _ sn1 (by omega) (by omega) (by omega) l1 (car_up hc)
theorem mcl_v {n nb : Nat} {br : Nat → Nat × Nat} {low high : Nat → Int32} (hB : Br n nb br low high) {b : Nat} (hb : b < nb) (f car : Nat → Int32) (sn rk : Int32) : ∃ f' car' sn', FX7_carriesWithLast (nI b) (nI nb) low high f car sn rk = some (f', car', sn', nI (GE (wl br nb b) nb).length) ∧ Lay f' (GE (wl br nb b) nb) ∧ ∀ i, i < nb → car' i = if gb (wl br nb b) i then 1 else 0 := by
  unfold FX7_carriesWithLast
  obtain ⟨f0, e0, l0⟩ := empties_v f rk
  rw [e0]
  exact mcl_h hB hb 5000 0 0 f0 car sn (Nat.zero_le _) (by have := hB.2.1; omega) (by omega) l0 (fun i h => by omega)
