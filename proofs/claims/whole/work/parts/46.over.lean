/-! over-tied bars -/
theorem Br.ok {n nb : Nat} {br : Nat → Nat × Nat} {les gre : Nat → Int32} (h : Br n nb br les gre) : OK br nb := by
  intro i hi
  have h1 := h.1
  obtain ⟨a, b, _, _⟩ := h.2.2 i hi
  exact ⟨by omega, by omega, by omega⟩
theorem wl_ex (br : Nat → Nat × Nat) {nb b : Nat} (hb : b < nb) (i : Nat) (hi : i < nb) : ∃ k, k < nb ∧ br k = wl br nb b i := by
  unfold wl
  by_cases h1 : i = nb - 1
  · exact ⟨b, hb, by rw [if_pos h1]⟩
  · rw [if_neg h1]
    by_cases h2 : i < b
    · exact ⟨i, hi, by rw [if_pos h2]⟩
    · exact ⟨i + 1, by omega, by rw [if_neg h2]⟩
theorem wl_sur (br : Nat → Nat × Nat) {nb b : Nat} (hb : b < nb) (i : Nat) (hi : i < nb) : ∃ k, k < nb ∧ wl br nb b k = br i := by
  unfold wl
  by_cases h1 : i = b
  · exact ⟨nb - 1, by omega, by rw [if_pos rfl, h1]⟩
  · by_cases h2 : i < b
    · exact ⟨i, hi, by rw [if_neg (by omega), if_pos h2]⟩
    · exact ⟨i - 1, by omega, by rw [if_neg (by omega), if_neg (by omega), show i - 1 + 1 = i by omega]⟩
theorem wl_ok {br : Nat → Nat × Nat} {nb b : Nat} (h : OK br nb) (hb : b < nb) : OK (wl br nb b) nb := by
  intro i hi
  obtain ⟨k, hk, e⟩ := wl_ex br hb i hi
  rw [← e]
  exact h k hk
theorem wl_len {br : Nat → Nat × Nat} {nb b : Nat} (h : OK br nb) (hb : b < nb) : (GE (wl br nb b) nb).length = (GE br nb).length :=
  Nat.le_antisymm (rk_le (wl_ok h hb) h (fun i hi => wl_ex br hb i hi)) (rk_le h (wl_ok h hb) (fun i hi => wl_sur br hb i hi))
noncomputable def ovb (br : Nat → Nat × Nat) (nb b : Nat) : Bool := !gb (wl br nb b) (nb - 1)
theorem ov_iff {br : Nat → Nat × Nat} {nb b : Nat} (h : OK br nb) (hb : b < nb) : ovb br nb b = true ↔ (GE (wo br b) (nb - 1)).length = (GE br nb).length := by
  have e1 := wl_len h hb
  have e2 : GE (wl br nb b) (nb - 1) = GE (wo br b) (nb - 1) := GE_congr (fun i hi => wl_wo br hi)
  have e3 : (GE (wl br nb b) nb).length = (GE (wl br nb b) (nb - 1)).length + (if gb (wl br nb b) (nb - 1) then 1 else 0) := by
    rw [GE_len, GE_len]
    rw [show nb = nb - 1 + 1 by omega]
    simp only [sm, Nat.add_sub_cancel]
  rw [e2, e1] at e3
  unfold ovb
  cases hg : gb (wl br nb b) (nb - 1)
  · rw [hg] at e3; simp at e3; simp; omega
  · rw [hg] at e3; simp at e3; simp; omega
theorem over_v {n nb : Nat} {br : Nat → Nat × Nat} {les gre : Nat → Int32} (hB : Br n nb br les gre) {b : Nat} (hb : b < nb) (f qu ca : Nat → Int32) : ∃ f' qu' ca', FX3_isOvertied (nI b) f qu ca (nI nb) les gre = some ((if ovb br nb b then 1 else 0), f', qu', ca') := by
  unfold FX3_isOvertied
  obtain ⟨f', qu', ca', e, l⟩ := cwl_v hB hb f qu ca
  have h24 := hB.2.1
  have g24 := GM24 (wl br nb b) h24
  rw [e]
  simp only [Option.bind_some]
  rw [sub1I (by omega), bitI (by omega) (by omega), GM_bit, decide_eq_true (by omega), Bool.true_and]
  unfold ovb
  cases gb (wl br nb b) (nb - 1)
  · exact ⟨f', qu', ca', rfl⟩
  · exact ⟨f', qu', ca', rfl⟩
theorem cov_h {n nb : Nat} {br : Nat → Nat × Nat} {les gre : Nat → Int32} (hB : Br n nb br les gre) : ∀ (fu a : Nat) (f qu ca : Nat → Int32), a ≤ nb → nb - a < fu → ∃ f' qu' ca', FX3_countOvertied_h4 (nI nb) les gre fu (nI (sm (fun i => if ovb br nb i then 1 else 0) a)) (nI a) f qu ca = some (nI (sm (fun i => if ovb br nb i then 1 else 0) nb), f', qu', ca') := by
  intro fu
  induction fu with
  | zero => intro a _ _ _ _ h; omega
  | succ fu ih =>
    intro a f qu ca ha hf
    have h24 := hB.2.1
    show ∃ f' qu' ca', FX3_countOvertied_b4 (nI nb) les gre (FX3_countOvertied_h4 (nI nb) les gre fu) _ (nI a) f qu ca = _
    unfold FX3_countOvertied_b4 FX3_countOvertied_b24
    by_cases h : nb ≤ a
    · have : a = nb := by omega
      subst this
      rw [if_pos (nI_le (Nat.le_refl _) (by omega))]
      exact ⟨_, _, _, rfl⟩
    · rw [if_neg (nI_ge (by omega) (by omega))]
      obtain ⟨f1, qu1, ca1, e1⟩ := over_v hB (b := a) (by omega) f qu ca
      rw [e1]
      simp only [Option.bind_some, nI_1]
      have go := ih (a + 1) f1 qu1 ca1 (by omega) (by omega)
      simp only [sm] at go
      cases ho : ovb br nb a
      · rw [ho] at go
        simpa using go
      · rw [ho] at go
        simpa using go
theorem cov7_h {n nb : Nat} {br : Nat → Nat × Nat} {low high : Nat → Int32} (hB : Br n nb br low high) : ∀ (fu a : Nat) (f : Nat → Int32) (sn rk : Int32), a ≤ nb → nb - a < fu → ∃ f' sn' rk', FX7_overtied_h9 (nI nb) low high fu (nI (GE br nb).length) (nI (sm (fun i => if ovb br nb i then 1 else 0) a)) (nI a) f sn rk = some (nI (sm (fun i => if ovb br nb i then 1 else 0) nb), f', sn', rk') := by
  intro fu
  induction fu with
  | zero => intro a _ _ _ _ h; omega
  | succ fu ih =>
    intro a f sn rk ha hf
    have h24 := hB.2.1
    show ∃ f' sn' rk', FX7_overtied_b9 (nI nb) low high (FX7_overtied_h9 (nI nb) low high fu) _ _ (nI a) f sn rk = _
    unfold FX7_overtied_b9 FX7_overtied_b32
    by_cases h : nb ≤ a
    · have : a = nb := by omega
      subst this
      rw [if_pos (nI_le (Nat.le_refl _) (by omega))]
      exact ⟨_, _, _, rfl⟩
    · rw [if_neg (nI_ge (by omega) (by omega))]
      obtain ⟨f1, sn1, e1, l1⟩ := rkw_v hB (b := a) (by omega) f sn rk
      rw [e1]
      simp only [Option.bind_some, nI_1]
      have go := ih (a + 1) f1 sn1 (nI (GE (wo br a) (nb - 1)).length) (by omega) (by omega)
      simp only [sm] at go
      have n1 : (GE br nb).length ≤ 24 := by
        have := pc_GM br h24
        rw [← this]
        unfold pc
        have := sm_le (g := fun i => if (GM br nb).testBit i then 1 else 0) (h := fun _ => 1) (n := 24) (fun i _ => by cases (GM br nb).testBit i <;> decide)
        have e : sm (fun _ => 1) 24 = 24 := by decide
        omega
      have n2 : (GE (wo br a) (nb - 1)).length ≤ 24 := by
        have := pc_GM (wo br a) (m := nb - 1) (by omega)
        rw [← this]
        unfold pc
        have := sm_le (g := fun i => if (GM (wo br a) (nb - 1)).testBit i then 1 else 0) (h := fun _ => 1) (n := 24) (fun i _ => by cases (GM (wo br a) (nb - 1)).testBit i <;> decide)
        have e : sm (fun _ => 1) 24 = 24 := by decide
        omega
      have iff := ov_iff hB.ok (b := a) (by omega)
      cases ho : ovb br nb a
      · rw [ho] at go iff
        rw [if_neg (fun e => by have := iff.mpr ((nI_eq (by omega) (by omega)).mp e); cases this)]
        have e0 : ∀ x : Int32, x + 0 = x := fun x => by simp
        rw [e0]
        simpa using go
      · rw [ho] at go iff
        rw [if_pos (by rw [iff.mp rfl])]
        simpa using go
theorem gd01' {α : Type} {x : Int32} {X : Option α} (h : x = 0 ∨ x = 1) : gd (x = 0 ∨ x = 1) X = X := gd_t h
theorem barAt_core (p1 p2 : Int32) {n nb : Nat} {pins bars : Int32} {names les gre : Nat → Int32} {mpins mbars : Int32} {mname mlow mhigh : Nat → Int32} (hF : FrR n nb pins bars names les gre mpins mbars mname mlow mhigh) (a b c d : Int32) (f qu ca g car : Nat → Int32) (sn rk : Int32) :
    ∃ (u : Int32 × Int32 × Int32 × Int32 × Int32 × (Nat → Int32) × (Nat → Int32) × (Nat → Int32)) (v : Int32 × (Nat → Int32) × (Nat → Int32) × Int32 × Int32), FX6_barAt p1 p2 pins bars les gre a b c d f qu ca = some u ∧ FX7_barAt p1 p2 mbars mlow mhigh g car sn rk = some v ∧ u.1 = v.1 := by
  obtain ⟨br, hB6, hB7, _⟩ := hF.br
  have heq := hF.eqs
  obtain ⟨h1, h2, rfl, rfl, rfl, rfl, h7, h8, h9⟩ := hF
  unfold FX6_barAt FX7_barAt
  rw [isIn_v]
  by_cases x0 : p2 < 0
  · rw [if_pos x0, if_pos x0]
    exact ⟨_, _, rfl, rfl, rfl⟩
  · rw [if_neg x0, if_neg x0]
    obtain ⟨k, hk, rfl⟩ := nI_of x0
    by_cases k3 : 3 < k
    · rw [if_neg (show ¬ nI k ≤ (3 : Int32) from nI_ge k3 hk), if_pos (show (3 : Int32) < nI k from nI_lt k3 hk)]
      exact ⟨_, _, rfl, rfl, rfl⟩
    · rw [if_pos (show nI k ≤ (3 : Int32) from nI_le (show k ≤ 3 by omega) (by decide)), if_neg (show ¬ (3 : Int32) < nI k from nI_nlt (show k ≤ 3 by omega) (by decide))]
      simp only [Option.bind_some, if_neg (show ¬ (1 : Int32) = 0 by decide)]
      rcases cases_lt p1 (n := nb) (by omega) with ⟨t, ht, rfl⟩ | hn
      · rw [place6_t ht (by omega), isInP_t ht (by omega)]
        simp only [Option.bind_some, if_neg (show ¬ (1 : Int32) = 0 by decide)]
        simp only [gi (show t < 24 by omega) (show 24 < 2 ^ 31 by decide), clp (show t < 2 ^ 31 by omega)]
        obtain ⟨q1, q2⟩ := heq t ht
        rcases (show k = 0 ∨ k = 1 ∨ k = 2 ∨ k = 3 by omega) with rfl | rfl | rfl | rfl
        · rw [if_pos (show nI 0 = 0 from rfl), if_neg (show ¬ (2 : Int32) ≤ nI 0 by decide), if_pos (show nI 0 = 0 from rfl), q1]
          exact ⟨_, _, rfl, rfl, rfl⟩
        · rw [if_neg (show ¬ nI 1 = 0 by decide), if_pos (show nI 1 = 1 from rfl), if_neg (show ¬ (2 : Int32) ≤ nI 1 by decide), if_neg (show ¬ nI 1 = 0 by decide), q2]
          exact ⟨_, _, rfl, rfl, rfl⟩
        · rw [if_neg (show ¬ nI 2 = 0 by decide), if_neg (show ¬ nI 2 = 1 by decide), if_pos (show nI 2 = 2 from rfl), if_pos (show (2 : Int32) ≤ nI 2 by decide)]
          obtain ⟨f1, qu1, ca1, s1, l1⟩ := settle_v hB6 a b c d f qu ca
          obtain ⟨g1, car1, sn1, s2, l2, hc⟩ := call_v hB7 g car sn rk
          rw [s1, s2]
          simp only [Option.bind_some]
          have g24 := GM24 br h2
          rw [if_pos (show nI 2 = 2 from rfl), hc t ht, bitI (by omega) (by omega), GM_bit, decide_eq_true ht, Bool.true_and]
          cases gb br t
          · exact ⟨_, _, rfl, rfl, rfl⟩
          · exact ⟨_, _, rfl, rfl, rfl⟩
        · rw [if_neg (show ¬ nI 3 = 0 by decide), if_neg (show ¬ nI 3 = 1 by decide), if_neg (show ¬ nI 3 = 2 by decide), if_pos (show (2 : Int32) ≤ nI 3 by decide)]
          obtain ⟨f1, qu1, ca1, s1⟩ := over_v hB6 ht f qu ca
          obtain ⟨g1, car1, sn1, s2, l2, hc⟩ := call_v hB7 g car sn rk
          rw [s1, s2]
          simp only [Option.bind_some]
          rw [if_neg (show ¬ nI 3 = 2 by decide)]
          obtain ⟨g2, sn2, s3, _⟩ := rkw_v hB7 ht g1 sn1 (nI (GE br nb).length)
          rw [s3]
          simp only [Option.bind_some]
          have n1 : (GE br nb).length < 2 ^ 31 := by
            have := GE_len br nb
            have l := sm_le (g := fun i => if gb br i then 1 else 0) (h := fun _ => 1) (n := nb) (fun i _ => by cases gb br i <;> decide)
            have e : ∀ m, sm (fun _ => 1) m = m := by
              intro m
              induction m with
              | zero => rfl
              | succ m ih => simp only [sm]; omega
            rw [e] at l
            omega
          have n2 : (GE (wo br t) (nb - 1)).length < 2 ^ 31 := by
            have := GE_len (wo br t) (nb - 1)
            have l := sm_le (g := fun i => if gb (wo br t) i then 1 else 0) (h := fun _ => 1) (n := nb - 1) (fun i _ => by cases gb (wo br t) i <;> decide)
            have e : ∀ m, sm (fun _ => 1) m = m := by
              intro m
              induction m with
              | zero => rfl
              | succ m ih => simp only [sm]; omega
            rw [e] at l
            omega
          have iff := ov_iff hB6.ok ht
          cases ho : ovb br nb t
          · rw [ho] at iff
            rw [if_neg (show ¬ nI (GE (wo br t) (nb - 1)).length = nI (GE br nb).length from fun e => by have := iff.mpr ((nI_eq n2 n1).mp e); cases this)]
            exact ⟨_, _, rfl, rfl, rfl⟩
          · rw [ho] at iff
            rw [if_pos (show nI (GE (wo br t) (nb - 1)).length = nI (GE br nb).length by rw [iff.mp rfl])]
            exact ⟨_, _, rfl, rfl, rfl⟩
      · rw [place6_f (by omega) hn, isInP_f (by omega) hn]
        exact ⟨_, _, rfl, rfl, rfl⟩
