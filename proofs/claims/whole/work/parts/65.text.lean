/-! text: bars -/
theorem nmo {n : Nat} (hn : n ≤ 12) {names mname : Nat → Int32} {wd : Nat → List Nat} (hwd : ∀ p, p < n → Wd (wd p) ∧ names p = nI (pk (wd p)) ∧ ∀ i, i < 4 → mname (4 * p + i) = nI ((wd p).getD i 0)) {t : Nat} (ht : t ≤ 30) {c m : Nat → Int32} (hcm : ∀ i, i < t → c i = m i) {b : Nat} (hb : b ≤ t) (st : Int32) :
    ∃ s e x r, s ≤ e ∧ e ≤ t ∧ FX5_nextWord c (nI t) st (nI b) = some (x, nI s, nI e) ∧ FX0_pinOfName x (nI n) names = some r ∧ ((r = -1 ∧ ∀ but fi se, FX7_nameOf but (nI n) (nI t) (nI b) (-1) mname m fi se = some (-1, nI e, nI s, nI s, nI e)) ∨ (∃ p, p < n ∧ r = nI p ∧ ∀ but fi se, (nI p = but → FX7_nameOf but (nI n) (nI t) (nI b) (-1) mname m fi se = some (nI p, nI e, nI s, nI s, nI e)) ∧ (¬ nI p = but → FX7_nameOf but (nI n) (nI t) (nI b) (-1) mname m fi se = some (nI p, nI e, -1, nI s, nI e)))) := by
  obtain ⟨s, e, bs, s_e, et, es, el, hh⟩ := nwd ht hcm hb st
  have nneg : ∀ f : Nat, f < 2 ^ 31 → ¬ nI f < (0 : Int32) := fun f hf => nI_nlt (b := 0) (Nat.zero_le _) hf
  have m1 : (-1 : Int32) < 0 := by decide
  have m2 : ¬ (0 : Int32) ≤ -1 := by decide
  rcases hh with ⟨bad, e6, e7⟩ | ⟨w, hw, hl, hm, e6, e7⟩
  · have nonm : ∀ p, p < n → ¬ names p = -1 := fun p hp => by rw [(hwd p hp).2.1]; exact nI_nm1 (hwd p hp).1.pkl.1
    refine ⟨s, e, -1, -1, s_e, et, e6, pon_h hn nonm 5000 0 (Nat.zero_le _) (by omega), Or.inl ⟨rfl, fun but fi se => ?_⟩⟩
    unfold FX7_nameOf
    rw [if_pos m1, e7]
    simp only [Option.bind_some]
    rw [if_neg (nneg s (by omega))]
  · obtain ⟨r, a, b', cc⟩ := wh_v hn hwd s_e (by omega) hw hl hm
    refine ⟨s, e, nI (pk w), r, s_e, et, e6, a, ?_⟩
    rcases cc with rfl | ⟨p, hp, rfl⟩
    · refine Or.inl ⟨rfl, fun but fi se => ?_⟩
      unfold FX7_nameOf FX7_nameOf_b36 FX7_fails
      rw [if_pos m1, e7]
      simp only [Option.bind_some]
      rw [if_pos m1, b']
      simp only [Option.bind_some]
      rw [if_pos m1, if_neg m2]
      rfl
    · refine Or.inr ⟨p, hp, rfl, fun but fi se => ⟨fun hq => ?_, fun hq => ?_⟩⟩
      · unfold FX7_nameOf FX7_nameOf_b36 FX7_fails
        rw [if_pos m1, e7]
        simp only [Option.bind_some]
        rw [if_pos m1, b']
        simp only [Option.bind_some]
        rw [if_neg (nneg p (by omega)), if_pos hq, if_neg m2]
        rfl
      · unfold FX7_nameOf
        rw [if_pos m1, e7]
        simp only [Option.bind_some]
        rw [if_pos m1, b']
        simp only [Option.bind_some]
        rw [if_neg (nneg p (by omega)), if_neg hq]
theorem bar_par {n nb : Nat} {pins bars : Int32} {names les gre : Nat → Int32} {mpins mbars : Int32} {mname mlow mhigh : Nat → Int32} (hF : FrR n nb pins bars names les gre mpins mbars mname mlow mhigh) {t : Nat} (ht : t ≤ 30) {c m : Nat → Int32} (hcm : ∀ i, i < t → c i = m i) {b : Nat} (hb : b ≤ t) (st fi se : Int32) {k6 k7 : Int32} (hk : (k6 = 1 ∧ k7 = 1) ∨ (k6 = 0 ∧ k7 = 2)) :
    ∃ r6 r7, FX6_doneAsBar k6 pins bars names les gre c (nI t) st (nI b) = some r6 ∧ FX7_toldOf k7 mpins mbars (nI t) (nI b) (-1) mname mlow mhigh m fi se = some r7 ∧ r6.1 = (if r7.2.2.2.1 < 0 then r7.1 else -100 - r7.2.2.2.1) ∧ ∃ nb', FrR n nb' pins r6.2.1 names r6.2.2.1 r6.2.2.2.1 mpins r7.2.1 mname r7.2.2.2.2.1 r7.2.2.2.2.2.1 := by
  have hF0 := hF
  obtain ⟨wd, hwd⟩ := hF.name
  obtain ⟨h1, h2, rfl, rfl, rfl, rfl, h7, h8, h9⟩ := hF
  unfold FX6_doneAsBar FX7_toldOf
  have nneg : ∀ f : Nat, f < 2 ^ 31 → ¬ nI f < (0 : Int32) := fun f hf => nI_nlt (b := 0) (Nat.zero_le _) hf
  have npos : ∀ f : Nat, f < 2 ^ 31 → (0 : Int32) ≤ nI f := fun f hf => nI_le (a := 0) (Nat.zero_le _) hf
  have m1 : (-1 : Int32) < 0 := by decide
  have m2 : ¬ (0 : Int32) ≤ -1 := by decide
  -- the reference with a fault f already, first name
  have nof : ∀ (but : Int32) (a f : Nat) (x y : Int32), f < 2 ^ 31 → FX7_nameOf but (nI n) (nI t) (nI a) (nI f) mname m x y = some (-1, nI a, nI f, x, y) := by
    intro but a f x y hf
    unfold FX7_nameOf
    rw [if_neg (nneg f hf)]
  have b23 : ∀ (l2 l3 x y a : Int32) (f : Nat), f < 2 ^ 31 → FX7_toldOf_b23 k7 (nI n) (nI t) mname m l2 l3 (nI nb) a (nI f) mlow mhigh x y = some (-1, nI nb, a, nI f, mlow, mhigh, x, y) := by
    intro l2 l3 x y a f hf
    unfold FX7_toldOf_b23
    rw [if_neg (nneg f hf)]
  obtain ⟨s, e, x, r, s_e, et, e6, p6, hr⟩ := nmo h1 hwd ht hcm hb st
  rw [e6]
  simp only [Option.bind_some]
  rw [p6]
  simp only [Option.bind_some]
  rcases hr with ⟨rfl, e7⟩ | ⟨p, hp, rfl, e7⟩
  · rw [if_pos rfl, e7]
    simp only [Option.bind_some]
    rw [nof _ e s _ _ (by omega)]
    simp only [Option.bind_some]
    rw [if_pos (npos s (by omega)), b23 _ _ _ _ _ s (by omega)]
    exact ⟨_, _, rfl, rfl, by rw [if_neg (nneg s (by omega))], nb, hF0⟩
  · rw [if_neg (nI_nm1 (by omega)), (e7 (-1) fi se).2 (nI_nm1 (by omega))]
    simp only [Option.bind_some]
    obtain ⟨s2, e2, x2, r2, s_e2, et2, e62, p62, hr2⟩ := nmo h1 hwd ht hcm et (nI s)
    rw [e62]
    simp only [Option.bind_some]
    rw [p62]
    simp only [Option.bind_some]
    unfold FX6_doneAsBar_b50
    rcases hr2 with ⟨rfl, e72⟩ | ⟨q, hq, rfl, e72⟩
    · rw [if_pos rfl, e72]
      simp only [Option.bind_some]
      rw [if_pos (npos s2 (by omega)), b23 _ _ _ _ _ s2 (by omega)]
      exact ⟨_, _, rfl, rfl, by rw [if_neg (nneg s2 (by omega))], nb, hF0⟩
    · rw [if_neg (nI_nm1 (by omega))]
      by_cases same : q = p
      · subst same
        rw [if_pos rfl, (e72 (nI q) (nI s) (nI e)).1 rfl]
        simp only [Option.bind_some]
        rw [if_pos (npos s2 (by omega)), b23 _ _ _ _ _ s2 (by omega)]
        exact ⟨_, _, rfl, rfl, by rw [if_neg (nneg s2 (by omega))], nb, hF0⟩
      · have ne : ¬ nI q = nI p := fun z => same ((nI_eq (by omega) (by omega)).mp z)
        rw [if_neg ne, (e72 (nI p) (nI s) (nI e)).2 ne]
        simp only [Option.bind_some]
        rw [if_neg m2]
        obtain ⟨e', q6⟩ := ends6 ht hcm et2 (nI s2)
        rw [q6, ends7 ht m (-1) et2]
        simp only [Option.bind_some]
        have sb := sk_bd m (t - e2) e2
        by_cases d : t ≤ sk m (t - e2) e2
        · simp only [if_pos d, if_neg (show ¬ (1 : Int32) = 0 by decide)]
          unfold FX7_toldOf_b23
          rw [if_pos m1]
          rcases hk with ⟨rfl, rfl⟩ | ⟨rfl, rfl⟩
          · rw [if_neg (show ¬ (1 : Int32) = 0 by decide), if_pos rfl]
            obtain ⟨r, bars', les', gre', mlow', mhigh', nb', g1, g2, hF'⟩ := bar_core (nI p) (nI q) hF0
            rw [g1, g2]
            exact ⟨_, _, rfl, rfl, by rw [if_pos m1], nb', hF'⟩
          · rw [if_pos rfl, if_neg (show ¬ (2 : Int32) = 1 by decide)]
            obtain ⟨r, bars', les', gre', mlow', mhigh', nb', g1, g2, hF'⟩ := off_core (nI p) (nI q) hF0
            rw [g1, g2]
            exact ⟨_, _, rfl, rfl, by rw [if_pos m1], nb', hF'⟩
        · simp only [if_neg d, if_true]
          rw [if_neg m2, b23 _ _ _ _ _ (sk m (t - e2) e2) (by omega)]
          exact ⟨_, _, rfl, rfl, by rw [if_neg (nneg _ (by omega))], nb, hF0⟩
theorem text_core {n nb : Nat} {pins bars : Int32} {names les gre : Nat → Int32} {mpins mbars : Int32} {mname mlow mhigh : Nat → Int32} (hF : FrR n nb pins bars names les gre mpins mbars mname mlow mhigh) {t : Nat} (ht : t ≤ 30) {c m : Nat → Int32} (hcm : ∀ i, i < t → c i = m i) (st bh at' fl fi se : Int32) :
    ∃ (u : Int32 × Int32 × Int32 × (Nat → Int32) × (Nat → Int32) × (Nat → Int32) × Int32 × Int32 × Int32) (v : Int32 × Int32 × Int32 × Int32 × Int32 × Int32 × (Nat → Int32) × (Nat → Int32) × (Nat → Int32) × Int32 × Int32), FX6_text pins bars names les gre c (nI t) st bh = some u ∧ FX7_text mpins mbars (nI t) at' fl mname mlow mhigh m fi se = some v ∧ u.1 = v.1 ∧ u.2.2.2.2.2.2.1 = nI 0 ∧ v.2.2.2.1 = nI 0 ∧ ∃ n' nb', FrR n' nb' u.2.1 u.2.2.1 u.2.2.2.1 u.2.2.2.2.1 u.2.2.2.2.2.1 v.2.1 v.2.2.1 v.2.2.2.2.2.2.1 v.2.2.2.2.2.2.2.1 v.2.2.2.2.2.2.2.2.1 := by
  have nneg : ∀ f : Nat, f < 2 ^ 31 → ¬ nI f < (0 : Int32) := fun f hf => nI_nlt (b := 0) (Nat.zero_le _) hf
  have npos : ∀ f : Nat, f < 2 ^ 31 → (0 : Int32) ≤ nI f := fun f hf => nI_le (a := 0) (Nat.zero_le _) hf
  have m1 : (-1 : Int32) < 0 := by decide
  have m2 : ¬ (0 : Int32) ≤ -1 := by decide
  unfold FX6_text FX7_text FX6_doneAsText FX5_firstWord FX5_empty
  obtain ⟨s, e, bs, s_e, et, es, el, hh⟩ := nwd ht hcm (b := 0) (Nat.zero_le _) st
  -- a fault at the first word
  have flt : ∃ (u : Int32 × Int32 × Int32 × (Nat → Int32) × (Nat → Int32) × (Nat → Int32) × Int32 × Int32 × Int32) (v : Int32 × Int32 × Int32 × Int32 × Int32 × Int32 × (Nat → Int32) × (Nat → Int32) × (Nat → Int32) × Int32 × Int32), some (-100 - nI s, pins, bars, names, les, gre, (0 : Int32), nI s, nI e) = some u ∧ some (-100 - nI s, mpins, mbars, (0 : Int32), nI e, nI s, mname, mlow, mhigh, nI s, nI e) = some v ∧ u.1 = v.1 ∧ u.2.2.2.2.2.2.1 = nI 0 ∧ v.2.2.2.1 = nI 0 ∧ ∃ n' nb', FrR n' nb' u.2.1 u.2.2.1 u.2.2.2.1 u.2.2.2.2.1 u.2.2.2.2.2.1 v.2.1 v.2.2.1 v.2.2.2.2.2.2.1 v.2.2.2.2.2.2.2.1 v.2.2.2.2.2.2.2.2.1 :=
    ⟨_, _, rfl, rfl, rfl, rfl, rfl, n, nb, hF⟩
  have flt7 : FX7_text_b42 m (-1) mpins mbars (nI t) (nI e) (nI s) mname mlow mhigh (nI s) (nI e) = some (-100 - nI s, mpins, mbars, 0, nI e, nI s, mname, mlow, mhigh, nI s, nI e) := by
    unfold FX7_text_b42 FX7_text_b69
    rw [if_neg (nneg s (by omega)), if_neg (nneg s (by omega))]
  rcases hh with ⟨bad, e6, e7⟩ | ⟨w, hw, hl, hm, e6, e7⟩
  · have e6' : FX5_nextWord c (nI t) st 0 = _ := e6
    have e7' : FX7_word (nI t) 0 (-1) m fi se = _ := e7 fi se
    rw [e6', e7']
    simp only [Option.bind_some]
    rw [if_neg (show ¬ (-1 : Int32) = 7367022 by decide), if_neg (show ¬ (-1 : Int32) = 6447474 by decide), if_neg (show ¬ (-1 : Int32) = 7300710 by decide), if_pos (npos s (by omega))]
    unfold FX7_text_b29 FX7_fails FX6_faultHere
    rw [if_neg m2, if_pos (npos s (by omega))]
    simp only [Option.bind_some]
    rw [flt7]
    exact flt
  · have e6' : FX5_nextWord c (nI t) st 0 = _ := e6
    have e7' : FX7_word (nI t) 0 (-1) m fi se = _ := e7 fi se
    rw [e6', e7']
    simp only [Option.bind_some]
    rw [if_neg m2, verb_v s_e (by omega) hw hl hm]
    simp only [Option.bind_some]
    by_cases c1 : w = [112, 105, 110]
    · rw [if_pos ((eqp hw).mpr c1), if_pos c1]
      unfold FX7_text_b29 FX7_text_b42 FX7_text_b69
      rw [if_pos (show (0 : Int32) ≤ 0 by decide), if_pos m1, if_pos rfl]
      obtain ⟨r6, r7, q6, q7, qa, n', hF'⟩ := pin_par hF ht hcm et (nI s) (nI s) (nI e)
      rw [q6, q7]
      simp only [Option.bind_some]
      by_cases d : r7.2.2.2.1 < 0
      · rw [if_pos d] at qa ⊢
        exact ⟨_, _, rfl, rfl, qa, rfl, rfl, n', nb, hF'⟩
      · rw [if_neg d] at qa ⊢
        exact ⟨_, _, rfl, rfl, qa, rfl, rfl, n', nb, hF'⟩
    · rw [if_neg (fun x => c1 ((eqp hw).mp x)), if_neg c1]
      by_cases c2 : w = [98, 97, 114]
      · rw [if_pos ((eqb hw).mpr c2), if_pos c2]
        unfold FX7_text_b29 FX7_text_b42 FX7_text_b69 FX6_doneAsText_b33 FX6_doneAsText_b46
        rw [if_pos ((eqb hw).mpr c2), if_pos (show (0 : Int32) ≤ 1 by decide), if_pos m1, if_neg (show ¬ (1 : Int32) = 0 by decide)]
        obtain ⟨r6, r7, q6, q7, qa, nb', hF'⟩ := bar_par hF ht hcm et (nI s) (nI s) (nI e) (k6 := 1) (k7 := 1) (Or.inl ⟨rfl, rfl⟩)
        rw [q6, q7]
        simp only [Option.bind_some]
        by_cases d : r7.2.2.2.1 < 0
        · rw [if_pos d] at qa ⊢
          exact ⟨_, _, rfl, rfl, qa, rfl, rfl, n, nb', hF'⟩
        · rw [if_neg d] at qa ⊢
          exact ⟨_, _, rfl, rfl, qa, rfl, rfl, n, nb', hF'⟩
      · rw [if_neg (fun x => c2 ((eqb hw).mp x)), if_neg c2]
        by_cases c3 : w = [111, 102, 102]
        · rw [if_pos ((eqo hw).mpr c3), if_pos c3]
          unfold FX7_text_b29 FX7_text_b42 FX7_text_b69 FX6_doneAsText_b33 FX6_doneAsText_b46
          rw [if_neg (fun x => c2 ((eqb hw).mp x)), if_pos (show (0 : Int32) ≤ 2 by decide), if_pos m1, if_neg (show ¬ (2 : Int32) = 0 by decide)]
          obtain ⟨r6, r7, q6, q7, qa, nb', hF'⟩ := bar_par hF ht hcm et (nI s) (nI s) (nI e) (k6 := 0) (k7 := 2) (Or.inr ⟨rfl, rfl⟩)
          rw [q6, q7]
          simp only [Option.bind_some]
          by_cases d : r7.2.2.2.1 < 0
          · rw [if_pos d] at qa ⊢
            exact ⟨_, _, rfl, rfl, qa, rfl, rfl, n, nb', hF'⟩
          · rw [if_neg d] at qa ⊢
            exact ⟨_, _, rfl, rfl, qa, rfl, rfl, n, nb', hF'⟩
        · rw [if_neg (fun x => c3 ((eqo hw).mp x)), if_neg c3]
          unfold FX7_text_b29 FX7_fails FX6_faultHere
          rw [if_neg m2, if_neg m2]
          simp only [Option.bind_some]
          rw [flt7]
          exact flt
