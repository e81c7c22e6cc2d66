/-! text -/
theorem isw_v {m : Nat → Int32} {s e : Nat} (hse : s ≤ e) (he : e ≤ 30) {w : List Nat} (hw : Wd w) (hl : w.length = e - s) (hm : ∀ i, i < e - s → m (s + i) = nI (w.getD i 0)) {a b c : Nat} (ha : a < 2 ^ 31) (hb : b < 2 ^ 31) (hc : c < 2 ^ 31) : FX7_isWord (nI a) (nI b) (nI c) m (nI s) (nI e) = some (if w = [a, b, c] then 1 else 0) := by
  unfold FX7_isWord
  rw [nI_sub hse]
  by_cases l3 : e - s = 3
  · rw [l3, if_pos (show nI 3 = 3 from rfl)]
    have e1 : nI s + 1 = nI (s + 1) := nI_1 _
    have e2 : nI s + 2 = nI (s + 2) := nI_add _ _
    rw [e1, e2, gi (show s < 30 by omega) (by decide), gi (show s + 1 < 30 by omega) (by decide), gi (show s + 2 < 30 by omega) (by decide), clp (show s < 2 ^ 31 by omega), clp (show s + 1 < 2 ^ 31 by omega), clp (show s + 2 < 2 ^ 31 by omega)]
    have m0 := hm 0 (by omega)
    have m1 := hm 1 (by omega)
    have m2 := hm 2 (by omega)
    rw [Nat.add_zero] at m0
    rcases hw.cases with ⟨x, rfl, _⟩ | ⟨x, y, rfl, _⟩ | ⟨x, y, z, rfl, _⟩ | ⟨x, y, z, d, rfl, _⟩
    · simp at hl; omega
    · simp at hl; omega
    · have n0 : m s = nI x := m0
      have n1 : m (s + 1) = nI y := m1
      have n2 : m (s + 2) = nI z := m2
      rw [n0, n1, n2]
      simp only [nI_eq (show x < 2 ^ 31 by omega) ha, nI_eq (show y < 2 ^ 31 by omega) hb, nI_eq (show z < 2 ^ 31 by omega) hc]
      by_cases c1 : x = a <;> by_cases c2 : y = b <;> by_cases c3 : z = c <;> simp [c1, c2, c3]
    · simp at hl; omega
  · have l4 := hw.2.1
    rw [if_neg (show ¬ nI (e - s) = (3 : Int32) from fun x => l3 ((nI_eq (b := 3) (by omega) (by decide)).mp x)), if_neg (fun x => l3 (by rw [← hl, x]; rfl))]
theorem verb_v {m : Nat → Int32} {s e : Nat} (hse : s ≤ e) (he : e ≤ 30) {w : List Nat} (hw : Wd w) (hl : w.length = e - s) (hm : ∀ i, i < e - s → m (s + i) = nI (w.getD i 0)) : FX7_verb m (nI s) (nI e) = some (if w = [112, 105, 110] then 0 else if w = [98, 97, 114] then 1 else if w = [111, 102, 102] then 2 else -1) := by
  unfold FX7_verb
  have e1 : FX7_isWord 112 105 110 m (nI s) (nI e) = _ := isw_v hse he hw hl hm (a := 112) (b := 105) (c := 110) (by decide) (by decide) (by decide)
  have e2 : FX7_isWord 98 97 114 m (nI s) (nI e) = _ := isw_v hse he hw hl hm (a := 98) (b := 97) (c := 114) (by decide) (by decide) (by decide)
  have e3 : FX7_isWord 111 102 102 m (nI s) (nI e) = _ := isw_v hse he hw hl hm (a := 111) (b := 102) (c := 102) (by decide) (by decide) (by decide)
  rw [e1]
  simp only [Option.bind_some]
  have ne1 : ¬ (1 : Int32) = 0 := by decide
  by_cases c1 : w = [112, 105, 110]
  · simp only [if_pos c1, if_neg ne1]
  · simp only [if_neg c1, if_true]
    rw [e2]
    simp only [Option.bind_some]
    by_cases c2 : w = [98, 97, 114]
    · simp only [if_pos c2, if_neg ne1]
    · simp only [if_neg c2, if_true]
      rw [e3]
      simp only [Option.bind_some]
      by_cases c3 : w = [111, 102, 102]
      · simp only [if_pos c3, if_neg ne1]
      · simp only [if_neg c3, if_true]
theorem wdp : Wd [112, 105, 110] := ⟨by decide, by decide, by decide⟩
theorem wdb : Wd [98, 97, 114] := ⟨by decide, by decide, by decide⟩
theorem wdo : Wd [111, 102, 102] := ⟨by decide, by decide, by decide⟩
theorem eqw {w v : List Nat} (hw : Wd w) (hv : Wd v) : nI (pk w) = nI (pk v) ↔ w = v := by
  rw [nI_eq hw.pkl.1 hv.pkl.1]
  exact ⟨fun h => pk_inj hw hv h, fun h => by rw [h]⟩
theorem eqp {w : List Nat} (hw : Wd w) : nI (pk w) = 7367022 ↔ w = [112, 105, 110] := eqw hw wdp
theorem eqb {w : List Nat} (hw : Wd w) : nI (pk w) = 6447474 ↔ w = [98, 97, 114] := eqw hw wdb
theorem eqo {w : List Nat} (hw : Wd w) : nI (pk w) = 7300710 ↔ w = [111, 102, 102] := eqw hw wdo
theorem ends7 {t : Nat} (ht : t ≤ 30) (m : Nat → Int32) (fl : Int32) {b : Nat} (hb : b ≤ t) : FX7_ends (nI t) (nI b) fl m = some (nI (sk m (t - b) b), (if t ≤ sk m (t - b) b then fl else if 0 ≤ fl then fl else nI (sk m (t - b) b))) := me0 ht m fl 5000 b hb (by omega)
theorem ends6 {t : Nat} (ht : t ≤ 30) {c m : Nat → Int32} (hcm : ∀ i, i < t → c i = m i) {b : Nat} (hb : b ≤ t) (st : Int32) : ∃ e, FX5_endsNext c (nI t) st (nI b) = some ((if t ≤ sk m (t - b) b then 1 else 0), nI (sk m (t - b) b), nI e) := by
  obtain ⟨s, e, bs, se, et, es, el, hh⟩ := nwd ht hcm hb st
  unfold FX5_endsNext
  have e6 : ∃ x, FX5_nextWord c (nI t) st (nI b) = some (x, nI s, nI e) := by
    rcases hh with ⟨_, e6, _⟩ | ⟨w, _, _, _, e6, _⟩
    · exact ⟨_, e6⟩
    · exact ⟨_, e6⟩
  obtain ⟨x, e6⟩ := e6
  refine ⟨e, ?_⟩
  rw [e6, ← es]
  simp only [Option.bind_some]
  by_cases c1 : t ≤ s
  · rw [if_pos (show nI s = nI t by rw [show s = t by omega]), if_pos c1]
  · rw [if_neg (show ¬ nI s = nI t from fun x => c1 (by have := (nI_eq (by omega) (by omega)).mp x; omega)), if_neg c1]
theorem np75 {n : Nat} (hn : n < 12) {t : Nat} {m : Nat → Int32} {s L : Nat} (hs : s + L ≤ 30) {w : List Nat} (hw : Wd w) (hl : w.length = L) (hm : ∀ i, i < L → m (s + i) = nI (w.getD i 0)) (at' fl fi se : Int32) (mname : Nat → Int32) : ∀ (fu k : Nat) (nam : Nat → Int32), k ≤ 4 → 4 - k < fu → (∀ i, i < k → nam (4 * n + i) = nI (w.getD i 0)) → (∀ i, i < 4 * n → nam i = mname i) → ∃ nam', FX7_newPin_h75 (nI t) m fu (nI s) (nI L) (nI k) (nI n) at' fl nam fi se = some (nI n, nI (n + 1), at', fl, nam', fi, se) ∧ (∀ i, i < 4 → nam' (4 * n + i) = nI (w.getD i 0)) ∧ ∀ i, i < 4 * n → nam' i = mname i := by
  intro fu
  have w4 := hw.2.1
  induction fu with
  | zero => intro k _ _ h; omega
  | succ fu ih =>
    intro k nam hk hf h1 h2
    show ∃ nam', FX7_newPin_b75 (nI t) m (FX7_newPin_h75 (nI t) m fu) (nI s) (nI L) (nI k) (nI n) at' fl nam fi se = _ ∧ _
    unfold FX7_newPin_b75 FX7_newPin_b109
    by_cases h : 4 ≤ k
    · rw [if_pos (show (4 : Int32) ≤ nI k from nI_le h (by omega)), nI_1, sub1I (by omega), Nat.add_sub_cancel]
      exact ⟨nam, rfl, fun i hi => h1 i (by omega), h2⟩
    · rw [if_neg (show ¬ (4 : Int32) ≤ nI k from nI_ge (show k < 4 by omega) (by decide)), mul4, nI_add, nI_add]
      simp only [gi (show 4 * n + k < 48 by omega) (show 48 < 2 ^ 31 by decide), clp (show 4 * n + k < 2 ^ 31 by omega), nI_1]
      have step : ∀ x, x = nI (w.getD k 0) → ∃ nam', FX7_newPin_h75 (nI t) m fu (nI s) (nI L) (nI (k + 1)) (nI n) at' fl (upd nam (4 * n + k) x) fi se = some (nI n, nI (n + 1), at', fl, nam', fi, se) ∧ (∀ i, i < 4 → nam' (4 * n + i) = nI (w.getD i 0)) ∧ ∀ i, i < 4 * n → nam' i = mname i := by
        intro x hx
        refine ih (k + 1) _ (by omega) (by omega) (fun i hi => ?_) (fun i hi => ?_)
        · by_cases e : i = k
          · subst e; rw [updS, hx]
          · rw [updN (by omega)]; exact h1 i (by omega)
        · rw [updN (by omega)]; exact h2 i hi
      by_cases c : L ≤ k
      · rw [if_pos (nI_le c (by omega))]
        exact step 0 (by rw [(hw.getD k).2 (by omega)]; rfl)
      · rw [if_neg (nI_ge (by omega) (by omega)), gi (show s + k < 30 by omega) (by decide), clp (show s + k < 2 ^ 31 by omega)]
        exact step _ (hm k (by omega))
theorem FrR.addpin {n nb : Nat} {pins bars : Int32} {names les gre : Nat → Int32} {mpins mbars : Int32} {mname mlow mhigh : Nat → Int32} (h : FrR n nb pins bars names les gre mpins mbars mname mlow mhigh) (hn : n < 12) {w : List Nat} (hw : Wd w) {nam : Nat → Int32} (h1 : ∀ i, i < 4 → nam (4 * n + i) = nI (w.getD i 0)) (h2 : ∀ i, i < 4 * n → nam i = mname i) : FrR (n + 1) nb (nI (n + 1)) bars (upd names n (nI (pk w))) les gre (nI (n + 1)) mbars nam mlow mhigh := by
  obtain ⟨a1, a2, a3, a4, a5, a6, a7, a8, a9⟩ := h
  refine ⟨by omega, a2, rfl, a4, rfl, a6, fun b hb => ?_, a8, fun p hp => ?_⟩
  · obtain ⟨p, q, b1, b2, b3⟩ := a7 b hb
    exact ⟨p, q, b1, by omega, b3⟩
  · by_cases e : p = n
    · subst e
      exact ⟨w, hw.1, hw.2.1, hw.2.2, updS, h1⟩
    · obtain ⟨v, v1, v2, v3, v4, v5⟩ := a9 p (by omega)
      exact ⟨v, v1, v2, v3, by rw [updN e]; exact v4, fun i hi => by rw [h2 _ (by omega)]; exact v5 i hi⟩
theorem pin_par {n nb : Nat} {pins bars : Int32} {names les gre : Nat → Int32} {mpins mbars : Int32} {mname mlow mhigh : Nat → Int32} (hF : FrR n nb pins bars names les gre mpins mbars mname mlow mhigh) {t : Nat} (ht : t ≤ 30) {c m : Nat → Int32} (hcm : ∀ i, i < t → c i = m i) {b : Nat} (hb : b ≤ t) (st fi se : Int32) :
    ∃ r6 r7, FX6_doneAsPin pins names c (nI t) st (nI b) = some r6 ∧ FX7_newPin mpins (nI t) (nI b) (-1) mname m fi se = some r7 ∧ r6.1 = (if r7.2.2.2.1 < 0 then r7.1 else -100 - r7.2.2.2.1) ∧ ∃ n', FrR n' nb r6.2.1 bars r6.2.2.1 les gre r7.2.1 mbars r7.2.2.2.2.1 mlow mhigh := by
  have hF0 := hF
  obtain ⟨wd, hwd⟩ := hF.name
  obtain ⟨h1, h2, rfl, rfl, rfl, rfl, h7, h8, h9⟩ := hF
  unfold FX6_doneAsPin FX7_newPin
  obtain ⟨s, e, bs, s_e, et, es, el, hh⟩ := nwd ht hcm hb st
  have nneg : ∀ f : Nat, f < 2 ^ 31 → ¬ nI f < (0 : Int32) := fun f hf => nI_nlt (b := 0) (Nat.zero_le _) hf
  have npos : ∀ f : Nat, f < 2 ^ 31 → (0 : Int32) ≤ nI f := fun f hf => nI_le (a := 0) (Nat.zero_le _) hf
  -- the reference with a fault already
  have flt7 : ∃ x, FX7_newPin_b33 (nI t) m (nI n) (nI e) (nI s) mname (nI s) (nI e) = some (-1, nI n, x, nI s, mname, nI s, nI e) := by
    unfold FX7_newPin_b33
    rw [ends7 ht m (nI s) et]
    simp only [Option.bind_some]
    rw [if_pos (npos s (by omega)), ite_self, if_neg (nneg s (by omega))]
    exact ⟨_, rfl⟩
  obtain ⟨x7, flt7⟩ := flt7
  have flt6 : FX6_doneAsPin_b27 c (nI t) (nI n) names (nI s) (nI e) = some (-100 - nI s, nI n, names, nI s, nI e) := rfl
  have fin : ∃ (r6 : Int32 × Int32 × (Nat → Int32) × Int32 × Int32) (r7 : Int32 × Int32 × Int32 × Int32 × (Nat → Int32) × Int32 × Int32), some (-100 - nI s, nI n, names, nI s, nI e) = some r6 ∧ some (-1, nI n, x7, nI s, mname, nI s, nI e) = some r7 ∧ r6.1 = (if r7.2.2.2.1 < 0 then r7.1 else -100 - r7.2.2.2.1) ∧ ∃ n', FrR n' nb r6.2.1 (nI nb) r6.2.2.1 les gre r7.2.1 (nI nb) r7.2.2.2.2.1 mlow mhigh :=
    ⟨_, _, rfl, rfl, by rw [if_neg (nneg s (by omega))], n, hF0⟩
  rcases hh with ⟨bad, e6, e7⟩ | ⟨w, hw, hl, hm, e6, e7⟩
  · rw [e6, e7]
    simp only [Option.bind_some]
    rw [if_pos (npos s (by omega)), flt7]
    have : FX6_isName (-1) = some 0 := by unfold FX6_isName; rw [if_pos rfl]
    rw [this]
    simp only [Option.bind_some, if_true]
    rw [flt6]
    exact fin
  · rw [e6, e7]
    simp only [Option.bind_some]
    rw [if_neg (show ¬ (0 : Int32) ≤ -1 by decide), verb_v s_e (by omega) hw hl hm]
    simp only [Option.bind_some]
    have b25 : FX7_newPin_b25 (nI t) m (nI n) (nI e) (-1) mname (nI s) (nI e) = some (-1, nI n, x7, nI s, mname, nI s, nI e) := by
      unfold FX7_newPin_b25 FX7_fails
      rw [if_neg (show ¬ (0 : Int32) ≤ -1 by decide)]
      simp only [Option.bind_some]
      exact flt7
    have nm1 : ¬ nI (pk w) = -1 := nI_nm1 hw.pkl.1
    unfold FX6_isName
    rw [if_neg nm1]
    by_cases c1 : w = [112, 105, 110]
    · simp only [if_pos ((eqp hw).mpr c1), if_pos c1, Option.bind_some, if_true]
      rw [if_pos (show (0 : Int32) ≤ 0 by decide), b25, flt6]
      exact fin
    · rw [if_neg (fun x => c1 ((eqp hw).mp x)), if_neg c1]
      by_cases c2 : w = [98, 97, 114]
      · simp only [if_pos ((eqb hw).mpr c2), if_pos c2, Option.bind_some, if_true]
        rw [if_pos (show (0 : Int32) ≤ 1 by decide), b25, flt6]
        exact fin
      · rw [if_neg (fun x => c2 ((eqb hw).mp x)), if_neg c2]
        by_cases c3 : w = [111, 102, 102]
        · simp only [if_pos ((eqo hw).mpr c3), if_pos c3, Option.bind_some, if_true]
          rw [if_pos (show (0 : Int32) ≤ 2 by decide), b25, flt6]
          exact fin
        · rw [if_neg (fun x => c3 ((eqo hw).mp x)), if_neg c3]
          simp only [Option.bind_some, if_neg (show ¬ (1 : Int32) = 0 by decide)]
          rw [if_neg (show ¬ (0 : Int32) ≤ -1 by decide)]
          obtain ⟨r, a, b', cc⟩ := wh_v h1 hwd s_e (by omega) hw hl hm
          rw [a, b']
          simp only [Option.bind_some]
          rcases cc with rfl | ⟨p, hp, rfl⟩
          · rw [if_pos rfl, if_pos (show (-1 : Int32) < 0 by decide)]
            unfold FX7_newPin_b33
            obtain ⟨e', q6⟩ := ends6 ht hcm et (nI s)
            rw [q6, ends7 ht m (-1) et]
            simp only [Option.bind_some]
            have sb := sk_bd m (t - e) e
            by_cases d : t ≤ sk m (t - e) e
            · simp only [if_pos d, if_neg (show ¬ (1 : Int32) = 0 by decide)]
              rw [if_pos (show (-1 : Int32) < 0 by decide)]
              unfold FX0_addPin
              by_cases n12 : n = 12
              · rw [if_neg (show ¬ nI n < (12 : Int32) from nI_nlt (show 12 ≤ n by omega) (by omega)), if_pos (show nI n = (12 : Int32) by rw [n12]; rfl)]
                simp only [Option.bind_some]
                exact ⟨_, _, rfl, rfl, by rw [if_pos (show (-1 : Int32) < 0 by decide)], n, hF0⟩
              · rw [if_pos (show nI n < (12 : Int32) from nI_lt (show n < 12 by omega) (by decide)), if_neg (show ¬ nI n = (12 : Int32) from fun x => n12 ((nI_eq (b := 12) (by omega) (by decide)).mp x)), gi (show n < 12 by omega) (by decide), clp (by omega), nI_1, sub1I (by omega), Nat.add_sub_cancel, nI_sub s_e]
                simp only [Option.bind_some]
                obtain ⟨nam, q7, w1, w2⟩ := np75 (n := n) (by omega) (t := t) (m := m) (s := s) (L := e - s) (by omega) hw hl hm (nI (sk m (t - e) e)) (-1) (nI s) (nI e) mname 5000 0 mname (by omega) (by omega) (fun i hi => by omega) (fun i _ => rfl)
                have q7' : FX7_newPin_h75 (nI t) m 5000 (nI s) (nI (e - s)) 0 (nI n) (nI (sk m (t - e) e)) (-1) mname (nI s) (nI e) = _ := q7
                rw [q7']
                exact ⟨_, _, rfl, rfl, by rw [if_pos (show (-1 : Int32) < 0 by decide)], n + 1, hF0.addpin (by omega) hw w1 w2⟩
            · simp only [if_neg d, if_true]
              rw [if_neg (show ¬ (0 : Int32) ≤ -1 by decide), if_neg (nneg _ (by omega))]
              exact ⟨_, _, rfl, rfl, by rw [if_neg (nneg _ (by omega))], n, hF0⟩
          · rw [if_neg (nI_nm1 (by omega)), if_neg (nneg p (by omega)), b25, flt6]
            exact fin
