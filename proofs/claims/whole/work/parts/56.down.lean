/-! down -/
theorem nm_far {L : List (Nat × Nat)} {n p : Nat} (h : ∀ e, e ∈ L → e.1 < n ∧ e.2 < n) (hp : n ≤ p) : nm L p = 0 := by
  refine bw_zero (fun i _ => ?_)
  cases x : adj L p i
  · rfl
  · rcases adj_mem x with y | y
    · have := h _ y; simp only at this; omega
    · have := h _ y; simp only at this; omega
theorem crun_h {n nb : Nat} {br : Nat → Nat × Nat} {les gre : Nat → Int32} (hB : Br n nb br les gre) (st : Int32) (go hh cm f qu ca : Nat → Int32) : ∀ (fu a : Nat) (near : Nat → Int32), a ≤ 12 → 12 - a < fu → (∀ p, p < a → near p = nI (nm (bl br nb) p)) → ∃ near', NR near' (bl br nb) ∧ FX4_run_h2 (nI n) (nI nb) les gre fu (nI a) near st go hh cm f qu ca = FX4_run_h47 (nI n) (nI nb) les gre 5000 (nI n) near' 0 go hh cm f qu ca := by
  intro fu
  induction fu with
  | zero => intro a _ _ h; omega
  | succ fu ih =>
    intro a near ha hf hN
    have h12 := hB.1
    show ∃ near', _ ∧ FX4_run_b2 (nI n) (nI nb) les gre (FX4_run_h2 (nI n) (nI nb) les gre fu) (nI a) near st go hh cm f qu ca = _
    unfold FX4_run_b2 FX4_run_b30
    by_cases h : 12 ≤ a
    · rw [if_pos (show (12 : Int32) ≤ nI a from nI_le h (by omega))]
      exact ⟨near, fun p hp => hN p (by omega), rfl⟩
    · rw [if_neg (show ¬ (12 : Int32) ≤ nI a from nI_ge (show a < 12 by omega) (by decide))]
      simp only [gi (show a < 12 by omega) (show 12 < 2 ^ 31 by decide), clp (show a < 2 ^ 31 by omega), nI_1]
      have inn : ∀ e, e ∈ bl br nb → e.1 < n ∧ e.2 < n := fun e he => by
        obtain ⟨i, hi, rfl⟩ := bl_mem.mp he
        obtain ⟨x, y, _⟩ := hB.2.2 i hi
        exact ⟨by omega, by omega⟩
      have step : ∀ x, x = nI (nm (bl br nb) a) → ∀ p, p < a + 1 → (upd near a x) p = nI (nm (bl br nb) p) := by
        intro x hx p hp
        by_cases e : p = a
        · subst e; rw [updS, hx]
        · rw [updN e]; exact hN p (by omega)
      by_cases c : n ≤ a
      · rw [if_pos (nI_le c (by omega))]
        exact ih (a + 1) _ (by omega) (by omega) (step 0 (by rw [nm_far inn c]; rfl))
      · rw [if_neg (nI_ge (by omega) (by omega)), nb6_v hB (by omega)]
        simp only [Option.bind_some]
        exact ih (a + 1) _ (by omega) (by omega) (step _ rfl)
theorem mrun_h {n nb : Nat} {br : Nat → Nat × Nat} {low high : Nat → Int32} (hB : Br n nb br low high) (to : Nat → Int32) (sn rk G : Int32) (dn : Nat → Int32) (ds th : Int32) : ∀ (fu a : Nat) (one other : Nat → Int32), a ≤ nb → nb - a < fu → TH one other br a → ∃ one' other', TH one' other' br nb ∧ FX7_takesDown_h20 (nI n) (nI nb) low high fu (nI a) to sn rk one other th G dn ds = FX7_takesDown_h58 (nI n) (nI nb) low high 5000 to sn rk one' other' th G dn ds := by
  intro fu
  induction fu with
  | zero => intro a _ _ _ h; omega
  | succ fu ih =>
    intro a one other ha hf hT
    have h24 := hB.2.1
    show ∃ one' other', _ ∧ FX7_takesDown_b20 (nI n) (nI nb) low high (FX7_takesDown_h20 (nI n) (nI nb) low high fu) (nI a) to sn rk one other th G dn ds = _
    unfold FX7_takesDown_b20
    by_cases h : nb ≤ a
    · have : a = nb := by omega
      subst this
      rw [if_pos (nI_le (Nat.le_refl _) (by omega))]
      exact ⟨one, other, hT, rfl⟩
    · obtain ⟨b1, b2, b3, b4⟩ := hB.2.2 a (by omega)
      rw [if_neg (nI_ge (by omega) (by omega))]
      simp only [gi (show a < 24 by omega) (show 24 < 2 ^ 31 by decide), gi (show a < 72 by omega) (show 72 < 2 ^ 31 by decide), clp (show a < 2 ^ 31 by omega), nI_1, b3, b4]
      refine ih (a + 1) _ _ (by omega) (by omega) (fun i hi => ?_)
      by_cases e : i = a
      · subst e; exact ⟨updS, updS⟩
      · rw [updN e, updN e]; exact hT i (by omega)
theorem GE_full {W : Nat → Nat × Nat} {m : Nat} (h : (GE W m).length = m) : GE W m = bl W m := by
  induction m with
  | zero => rfl
  | succ m ih =>
    simp only [GE] at h ⊢
    have l := GE_le W m
    rcases gs_cases (GE W m) (W m) with ⟨_, b⟩ | ⟨_, b⟩
    · rw [b] at h; omega
    · rw [b] at h ⊢
      simp only [List.length_cons] at h
      simp only [bl]
      rw [ih (by omega)]
theorem st3I {n L : Nat} (hn : n ≤ 12) (hL : L ≤ 24) : 2 * nI n - nI L = 3 ↔ L + 3 = 2 * n := by
  have c : ∀ n, n < 13 → ∀ L, L < 25 → (2 * nI n - nI L = 3 ↔ L + 3 = 2 * n) := by decide +kernel
  exact c n (by omega) L (by omega)
theorem ex0I {a b : Nat} (ha : a ≤ 24) (hb : b ≤ 24) : nI a - nI b ≤ 0 ↔ a ≤ b := by
  have c : ∀ n, n < 25 → ∀ L, L < 25 → (nI n - nI L ≤ 0 ↔ n ≤ L) := by decide +kernel
  exact c a (by omega) b (by omega)
theorem down_core (p1 p2 : Int32) {n nb : Nat} {pins bars : Int32} {names les gre : Nat → Int32} {mpins mbars : Int32} {mname mlow mhigh : Nat → Int32} (hF : FrR n nb pins bars names les gre mpins mbars mname mlow mhigh) (a b c d : Int32) (f qu ca near : Nat → Int32) (st : Int32) (go hh cm tf tq tc g : Nat → Int32) (sn rk : Int32) (one other : Nat → Int32) (th G : Int32) (dn : Nat → Int32) (ds : Int32) :
    ∃ (u : Int32 × Int32 × Int32 × Int32 × Int32 × (Nat → Int32) × (Nat → Int32) × (Nat → Int32) × (Nat → Int32) × Int32 × (Nat → Int32) × (Nat → Int32) × (Nat → Int32) × (Nat → Int32) × (Nat → Int32) × (Nat → Int32)) (v : Int32 × (Nat → Int32) × Int32 × Int32 × (Nat → Int32) × (Nat → Int32) × Int32 × Int32 × (Nat → Int32) × Int32), FX6_down p1 p2 pins bars les gre a b c d f qu ca near st go hh cm tf tq tc = some u ∧ FX7_down p1 p2 mpins mbars mlow mhigh g sn rk one other th G dn ds = some v ∧ u.1 = v.1 := by
  obtain ⟨br, hB6, hB7, _⟩ := hF.br
  obtain ⟨h1, h2, rfl, rfl, rfl, rfl, h7, h8, h9⟩ := hF
  unfold FX6_down FX7_down
  rw [isIn_v]
  by_cases x0 : p2 < 0
  · rw [if_pos x0, if_pos x0]
    exact ⟨_, _, rfl, rfl, rfl⟩
  · rw [if_neg x0, if_neg x0]
    obtain ⟨w, hw, rfl⟩ := nI_of x0
    by_cases w2 : 2 < w
    · rw [if_neg (show ¬ nI w ≤ (2 : Int32) from nI_ge w2 hw), if_pos (show (2 : Int32) < nI w from nI_lt w2 hw)]
      exact ⟨_, _, rfl, rfl, rfl⟩
    · rw [if_pos (show nI w ≤ (2 : Int32) from nI_le (show w ≤ 2 by omega) (by decide)), if_neg (show ¬ (2 : Int32) < nI w from nI_nlt (show w ≤ 2 by omega) (by decide))]
      simp only [Option.bind_some, if_neg (show ¬ (1 : Int32) = 0 by decide)]
      obtain ⟨f1, qu1, ca1, s1, l1⟩ := settle_v hB6 a b c d f qu ca
      obtain ⟨g1, sn1, rk1, s2⟩ := stiff_v hB7 g sn rk
      rw [s1, s2]
      simp only [Option.bind_some]
      have gl := GE_le br nb
      by_cases stf : 2 ≤ n ∧ 2 * nI n - nI (GE br nb).length = 3
      · simp only [if_pos stf, if_neg (show ¬ (1 : Int32) = 0 by decide)]
        unfold FX7_extras
        obtain ⟨g2, sn2, s3, _⟩ := rk_v hB7 g1 sn1 rk1
        rw [s3]
        simp only [Option.bind_some]
        by_cases full : (GE br nb).length = nb
        · rw [if_pos (by rw [full]), if_pos ((ex0I h2 (by omega)).mpr (by omega))]
          have eb := GE_full full
          have len := (st3I h1 (by omega)).mp stf.2
          have hD : DS (bl br nb) (fun v => decide (v < n)) n := by
            refine ⟨by rw [← eb]; exact GE_wl hB6.ok, fun e he => ?_, by rw [← eb]; exact GE_sp br nb, fun e he => ?_, sz_lt_n n (by omega), by rw [bl_len]; omega⟩
            · obtain ⟨i, hi, rfl⟩ := bl_mem.mp he
              exact (hB6.2.2 i hi).1
            · obtain ⟨i, hi, rfl⟩ := bl_mem.mp he
              obtain ⟨y1, y2, _⟩ := hB6.2.2 i hi
              exact ⟨decide_eq_true (by omega), decide_eq_true (by omega)⟩
          obtain ⟨near', hN, e6⟩ := crun_h hB6 st go hh cm tf tq tc 5000 0 near (by omega) (by omega) (fun p hp => by omega)
          obtain ⟨one', other', hT, e7⟩ := mrun_h hB7 g2 sn2 (nI (GE br nb).length) 0 dn 0 (nI nb) 5000 0 one other (Nat.zero_le _) (by omega) (fun i hi => by omega)
          obtain ⟨u, v, s, r6, r7, s12, us, vs, hDR⟩ := run_par h1 (nI n) (nI nb) les gre (nI nb) mlow mhigh 5000 n 0 nb 0 br (fun v => decide (v < n)) near' go hh cm tf tq tc g2 sn2 (nI (GE br nb).length) one' other' dn (by omega) (by omega) h2 hD (fun w hw => of_decide_eq_true hw) (by decide) (fun w hw => by simp at hw) hN hT (fun i hi => by omega)
          have e6' : FX4_run near st go hh cm tf tq tc (nI n) (nI nb) les gre = some u := e6.trans r6
          have e7' : FX7_takesDown (nI n) (nI nb) mlow mhigh g2 sn2 (nI (GE br nb).length) one other th G dn ds = some v := e7.trans r7
          rw [e6', e7']
          simp only [Option.bind_some]
          rw [us, vs]
          rcases cases_lt p1 (n := s) (by omega) with ⟨i, hi, rfl⟩ | hno
          · rw [isInP_t hi (by omega), if_neg (show ¬ nI i < (0 : Int32) from nI_nlt (Nat.zero_le i) (by omega)), if_pos (nI_lt hi (by omega))]
            simp only [Option.bind_some, if_neg (show ¬ (1 : Int32) = 0 by decide)]
            obtain ⟨q1, q2, q3⟩ := hDR i hi
            rw [mul3, nI_add, gi (show 3 * i + w < 36 by omega) (by decide), clp (show 3 * i + w < 2 ^ 31 by omega)]
            simp only [gi (show i < 12 by omega) (show 12 < 2 ^ 31 by decide), clp (show i < 2 ^ 31 by omega)]
            rcases (show w = 0 ∨ w = 1 ∨ w = 2 by omega) with rfl | rfl | rfl
            · rw [if_pos (show nI 0 = 0 from rfl)]
              exact ⟨_, _, rfl, rfl, q1⟩
            · rw [if_neg (show ¬ nI 1 = 0 by decide), if_pos (show nI 1 = 1 from rfl)]
              exact ⟨_, _, rfl, rfl, q2⟩
            · rw [if_neg (show ¬ nI 2 = 0 by decide), if_neg (show ¬ nI 2 = 1 by decide)]
              exact ⟨_, _, rfl, rfl, q3⟩
          · rw [isInP_f (by omega) hno]
            by_cases x : p1 < 0
            · rw [if_pos x]
              exact ⟨_, _, rfl, rfl, rfl⟩
            · obtain ⟨j, hj, rfl⟩ := nI_of x
              have hkj : s ≤ j := by
                by_cases c : s ≤ j
                · exact c
                · exact absurd rfl (hno j (by omega))
              rw [if_neg x, if_neg (nI_nlt hkj (by omega))]
              exact ⟨_, _, rfl, rfl, rfl⟩
        · rw [if_neg (fun e => full ((nI_eq (by omega) (by omega)).mp e)), if_neg (fun e => full (by have := (ex0I h2 (by omega)).mp e; omega))]
          exact ⟨_, _, rfl, rfl, rfl⟩
      · simp only [if_neg stf, if_true]
        exact ⟨_, _, rfl, rfl, rfl⟩
