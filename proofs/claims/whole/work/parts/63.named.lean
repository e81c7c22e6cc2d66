/-! whose name a word is; named -/
theorem pk_inj {w v : List Nat} (hw : Wd w) (hv : Wd v) (h : pk w = pk v) : w = v := by
  rcases hw.cases with ⟨a, rfl, _⟩ | ⟨a, b, rfl, _⟩ | ⟨a, b, c, rfl, _⟩ | ⟨a, b, c, d, rfl, _⟩ <;>
  rcases hv.cases with ⟨a', rfl, _⟩ | ⟨a', b', rfl, _⟩ | ⟨a', b', c', rfl, _⟩ | ⟨a', b', c', d', rfl, _⟩ <;>
  simp [pk] at h ⊢ <;> omega
theorem list_eq {l l' : List Nat} (h : l.length = l'.length) (h2 : ∀ i, i < l.length → l.getD i 0 = l'.getD i 0) : l = l' := by
  apply List.ext_getElem h
  intro i h1 h3
  have := h2 i h1
  rw [List.getD_eq_getElem?_getD, List.getD_eq_getElem?_getD, List.getElem?_eq_getElem h1, List.getElem?_eq_getElem h3] at this
  exact this
/-- the bytes from s on are the name w -/
def Mt (m : Nat → Int32) (s L : Nat) (w : List Nat) : Prop := w.length = L ∧ ∀ i, i < L → nI (w.getD i 0) = m (s + i)
theorem wh35 {mname m : Nat → Int32} {p n : Nat} (hp : p < 12) {w : List Nat} (hw : Wd w) (e : ∀ i, i < 4 → mname (4 * p + i) = nI (w.getD i 0)) {s L : Nat} (hs : s + L ≤ 30) (hL : w.length = L) (k2 : Int32 → Option Int32) : ∀ (fu j : Nat), j ≤ L → L - j < fu → (∀ i, i < j → nI (w.getD i 0) = m (s + i)) → (Mt m s L w → FX7_whose_h35 (nI n) mname m (nI s) (nI (s + L)) k2 fu (nI p) 1 (nI j) = some (nI p)) ∧ (¬ Mt m s L w → FX7_whose_h35 (nI n) mname m (nI s) (nI (s + L)) k2 fu (nI p) 1 (nI j) = k2 (nI (p + 1))) := by
  intro fu
  have w4 := hw.2.1
  have ne1 : ¬ (1 : Int32) = 0 := by decide
  have dL : nI (s + L) - nI s = nI L := by rw [nI_sub (by omega), Nat.add_sub_cancel_left]
  induction fu with
  | zero => intro j _ h; omega
  | succ fu ih =>
    intro j hj hf hm
    show (_ → FX7_whose_b35 (nI n) mname m (nI s) (nI (s + L)) k2 (FX7_whose_h35 (nI n) mname m (nI s) (nI (s + L)) k2 fu) (nI p) 1 (nI j) = _) ∧ (_ → FX7_whose_b35 (nI n) mname m (nI s) (nI (s + L)) k2 (FX7_whose_h35 (nI n) mname m (nI s) (nI (s + L)) k2 fu) (nI p) 1 (nI j) = _)
    unfold FX7_whose_b35 FX7_whose_b88 FX7_whose_b81
    rw [dL]
    by_cases h : L ≤ j
    · rw [if_pos (nI_le h (by omega)), if_neg ne1]
      exact ⟨fun _ => rfl, fun x => absurd ⟨hL, fun i hi => hm i (by omega)⟩ x⟩
    · rw [if_neg (nI_ge (by omega) (by omega)), if_neg ne1, mul4, nI_add, nI_add, gi (show 4 * p + j < 48 by omega) (by decide), gi (show s + j < 30 by omega) (by decide), clp (show 4 * p + j < 2 ^ 31 by omega), clp (show s + j < 2 ^ 31 by omega), e j (by omega), nI_1]
      by_cases c : nI (w.getD j 0) = m (s + j)
      · rw [if_pos c]
        refine ih (j + 1) (by omega) (by omega) (fun i hi => ?_)
        by_cases x : i = j
        · rw [x]; exact c
        · exact hm i (by omega)
      · rw [if_neg c]
        have no : ¬ Mt m s L w := fun x => c (x.2 j (by omega))
        refine ⟨fun x => absurd x no, fun _ => ?_⟩
        cases fu with
        | zero => omega
        | succ fu =>
          show FX7_whose_b35 (nI n) mname m (nI s) (nI (s + L)) k2 (FX7_whose_h35 (nI n) mname m (nI s) (nI (s + L)) k2 fu) (nI p) 0 (nI (j + 1)) = _
          unfold FX7_whose_b35 FX7_whose_b88
          rw [if_pos rfl, if_pos rfl, ite_self, nI_1]
theorem wh_par {n : Nat} (hn : n ≤ 12) {names mname m : Nat → Int32} {wd : Nat → List Nat} (hwd : ∀ p, p < n → Wd (wd p) ∧ names p = nI (pk (wd p)) ∧ ∀ i, i < 4 → mname (4 * p + i) = nI ((wd p).getD i 0)) {s L : Nat} (hs : s + L ≤ 30) (hL4 : L ≤ 4) {nv : Int32} (hM : ∀ p, p < n → (names p = nv ↔ Mt m s L (wd p))) : ∀ (fu a : Nat), a ≤ n → n - a < fu → ∃ r, FX0_pinOfName_h2 nv (nI n) names fu (nI a) = some r ∧ FX7_whose_h2 (nI n) mname m (nI s) (nI (s + L)) fu (nI a) = some r ∧ (r = -1 ∨ ∃ p, p < n ∧ r = nI p) := by
  intro fu
  have ne1 : ¬ (1 : Int32) = 0 := by decide
  have dL : nI (s + L) - nI s = nI L := by rw [nI_sub (by omega), Nat.add_sub_cancel_left]
  induction fu with
  | zero => intro a _ h; omega
  | succ fu ih =>
    intro a ha hf
    show ∃ r, FX0_pinOfName_b2 nv (nI n) names (FX0_pinOfName_h2 nv (nI n) names fu) (nI a) = some r ∧ FX7_whose_b2 (nI n) mname m (nI s) (nI (s + L)) (FX7_whose_h2 (nI n) mname m (nI s) (nI (s + L)) fu) (nI a) = some r ∧ _
    unfold FX0_pinOfName_b2 FX7_whose_b2 FX7_whose_b32
    by_cases h : n ≤ a
    · rw [if_pos (nI_le h (by omega)), if_pos (nI_le h (by omega))]
      exact ⟨-1, rfl, rfl, Or.inl rfl⟩
    · obtain ⟨w1, w2, w3⟩ := hwd a (by omega)
      have w4 := w1.2.1
      rw [if_neg (nI_ge (by omega) (by omega)), if_neg (nI_ge (by omega) (by omega)), gi (show a < 12 by omega) (by decide), clp (by omega), lof_v (by omega) w1 w3, dL, nI_1]
      simp only [Option.bind_some]
      have iff := hM a (by omega)
      by_cases c : (wd a).length = L
      · rw [if_pos (show nI (wd a).length = nI L by rw [c])]
        obtain ⟨q1, q2⟩ := wh35 (n := n) (m := m) (show a < 12 by omega) w1 w3 hs c (FX7_whose_h2 (nI n) mname m (nI s) (nI (s + L)) fu) 5000 0 (Nat.zero_le _) (by omega) (fun i hi => by omega)
        by_cases d : names a = nv
        · have e : FX7_whose_h35 (nI n) mname m (nI s) (nI (s + L)) (FX7_whose_h2 (nI n) mname m (nI s) (nI (s + L)) fu) 5000 (nI a) 1 0 = _ := q1 (iff.mp d)
          rw [if_pos d, e]
          exact ⟨_, rfl, rfl, Or.inr ⟨a, by omega, rfl⟩⟩
        · have e : FX7_whose_h35 (nI n) mname m (nI s) (nI (s + L)) (FX7_whose_h2 (nI n) mname m (nI s) (nI (s + L)) fu) 5000 (nI a) 1 0 = _ := q2 (fun x => d (iff.mpr x))
          rw [if_neg d, e]
          exact ih (a + 1) (by omega) (by omega)
      · rw [if_neg (show ¬ nI (wd a).length = nI L from fun x => c ((nI_eq (by omega) (by omega)).mp x)), if_neg (show ¬ names a = nv from fun x => c (iff.mp x).1)]
        have e : FX7_whose_h35 (nI n) mname m (nI s) (nI (s + L)) (FX7_whose_h2 (nI n) mname m (nI s) (nI (s + L)) fu) 5000 (nI a) 0 0 = FX7_whose_h2 (nI n) mname m (nI s) (nI (s + L)) fu (nI (a + 1)) := by
          show FX7_whose_b35 (nI n) mname m (nI s) (nI (s + L)) _ (FX7_whose_h35 (nI n) mname m (nI s) (nI (s + L)) _ 4999) (nI a) 0 0 = _
          unfold FX7_whose_b35 FX7_whose_b88
          rw [if_pos rfl, if_pos rfl, ite_self, nI_1]
        rw [e]
        exact ih (a + 1) (by omega) (by omega)
theorem pon_h {n : Nat} (hn : n ≤ 12) {names : Nat → Int32} {nv : Int32} (h : ∀ p, p < n → ¬ names p = nv) : ∀ (fu a : Nat), a ≤ n → n - a < fu → FX0_pinOfName_h2 nv (nI n) names fu (nI a) = some (-1) := by
  intro fu
  induction fu with
  | zero => intro a _ h; omega
  | succ fu ih =>
    intro a ha hf
    show FX0_pinOfName_b2 nv (nI n) names (FX0_pinOfName_h2 nv (nI n) names fu) (nI a) = _
    unfold FX0_pinOfName_b2
    by_cases c : n ≤ a
    · rw [if_pos (nI_le c (by omega))]
    · rw [if_neg (nI_ge (by omega) (by omega)), gi (show a < 12 by omega) (by decide), clp (by omega), if_neg (h a (by omega)), nI_1]
      exact ih (a + 1) (by omega) (by omega)
/-- a word's name, on both sides -/
theorem wh_v {n : Nat} (hn : n ≤ 12) {names mname m : Nat → Int32} {wd : Nat → List Nat} (hwd : ∀ p, p < n → Wd (wd p) ∧ names p = nI (pk (wd p)) ∧ ∀ i, i < 4 → mname (4 * p + i) = nI ((wd p).getD i 0)) {s e : Nat} (hse : s ≤ e) (he : e ≤ 30) {w : List Nat} (hw : Wd w) (hl : w.length = e - s) (hm : ∀ i, i < e - s → m (s + i) = nI (w.getD i 0)) : ∃ r, FX0_pinOfName (nI (pk w)) (nI n) names = some r ∧ FX7_whose (nI n) mname m (nI s) (nI e) = some r ∧ (r = -1 ∨ ∃ p, p < n ∧ r = nI p) := by
  have w4 := hw.2.1
  obtain ⟨r, a, b, c⟩ := wh_par hn hwd (m := m) (s := s) (L := e - s) (by omega) (by omega) (nv := nI (pk w)) (fun p hp => by
    obtain ⟨x1, x2, _⟩ := hwd p hp
    rw [x2, nI_eq x1.pkl.1 hw.pkl.1]
    constructor
    · intro h
      have := pk_inj x1 hw h
      rw [this]
      exact ⟨hl, fun i hi => (hm i hi).symm⟩
    · rintro ⟨h1, h2⟩
      have : wd p = w := list_eq (by omega) (fun i hi => by
        have q := h2 i (by omega)
        rw [hm i (by omega)] at q
        have g1 := (x1.getD i).1 hi
        have g2 := (hw.getD i).1 (by omega)
        exact (nI_eq (by omega) (by omega)).mp q)
      rw [this]) 5000 0 (Nat.zero_le _) (by omega)
  rw [show s + (e - s) = e by omega] at b
  exact ⟨r, a, b, c⟩
theorem named_core {n nb : Nat} {pins bars : Int32} {names les gre : Nat → Int32} {mpins mbars : Int32} {mname mlow mhigh : Nat → Int32} (hF : FrR n nb pins bars names les gre mpins mbars mname mlow mhigh) {t : Nat} (ht : t ≤ 30) {c m : Nat → Int32} (hcm : ∀ i, i < t → c i = m i) (st bh at' fl fi se : Int32) :
    ∃ (u : Int32 × Int32 × Int32 × Int32) (v : Int32 × Int32 × Int32 × Int32 × Int32 × Int32), FX6_named pins names c (nI t) st bh = some u ∧ FX7_named mpins (nI t) at' fl mname m fi se = some v ∧ u.1 = v.1 ∧ u.2.1 = nI 0 ∧ v.2.1 = nI 0 := by
  obtain ⟨wd, hwd⟩ := hF.name
  obtain ⟨h1, h2, rfl, rfl, rfl, rfl, h7, h8, h9⟩ := hF
  unfold FX6_named FX7_named FX5_wholeWord FX5_firstWord FX5_empty
  obtain ⟨s, e, bs, s_e, et, es, el, hh⟩ := nwd ht hcm (b := 0) (Nat.zero_le _) st
  have nonm : ∀ p, p < n → ¬ names p = -1 := fun p hp => by rw [(hwd p hp).2.1]; exact nI_nm1 (hwd p hp).1.pkl.1
  have z0 : (0 : Int32) = nI 0 := rfl
  -- all bytes are letters: then the word is the whole
  have whole : (∃ p, p < n ∧ Mt m 0 t (wd p)) → s = 0 ∧ e = t ∧ 1 ≤ t := by
    rintro ⟨p, hp, x1, x2⟩
    have w := (hwd p hp).1
    have l := w.pkl
    have all : ∀ i, i < t → lettr (m i) := fun i hi => by
      have := x2 i hi
      rw [Nat.zero_add] at this
      rw [← this]
      have g := (w.getD i).1 (by omega)
      exact lettr_i g.1 g.2
    have s0 : s = 0 := by
      rw [es, Nat.sub_zero, show t = (t - 1) + 1 by omega]
      simp only [sk]
      rw [if_neg (fun x => by
        have := (all 0 (by omega)).1
        rw [x] at this
        exact this (by decide))]
    refine ⟨s0, ?_, by omega⟩
    by_cases q : e < t
    · exact absurd (all e q) (el q)
    · omega
  have none6 : FX0_pinOfName (-1) (nI n) names = some (-1) := pon_h h1 nonm 5000 0 (Nat.zero_le _) (by omega)
  have ref0 : t ≤ 4 → (∀ p, p < n → ¬ Mt m 0 t (wd p)) → FX7_whose (nI n) mname m 0 (nI t) = some (-1) := by
    intro t4 no
    obtain ⟨r, a, b, _⟩ := wh_par h1 hwd (m := m) (s := 0) (L := t) (by omega) t4 (nv := -1) (fun p hp => ⟨fun x => absurd x (nonm p hp), fun x => absurd x (no p hp)⟩) 5000 0 (Nat.zero_le _) (by omega)
    have a' : FX0_pinOfName (-1) (nI n) names = some r := a
    rw [none6] at a'
    rw [Nat.zero_add] at b
    have b' : FX7_whose (nI n) mname m 0 (nI t) = some r := b
    rw [b', ← a']
  have fin : FX0_pinOfName (-1) (nI n) names = some (-1) → (∀ p, p < n → ¬ Mt m 0 t (wd p)) → ∃ v, (if nI t ≤ (4 : Int32) then ((FX7_whose (nI n) mname m 0 (nI t)).bind (fun r2 => (some (r2, (0 : Int32), (0 : Int32), (-1 : Int32), (0 : Int32), nI t)))) else (some ((-1), 0, 0, (-1), 0, nI t))) = some v ∧ v.1 = -1 ∧ v.2.1 = nI 0 := by
    intro _ no
    by_cases t4 : t ≤ 4
    · rw [if_pos (show nI t ≤ (4 : Int32) from nI_le t4 (by decide)), ref0 t4 no]
      exact ⟨_, rfl, rfl, rfl⟩
    · rw [if_neg (show ¬ nI t ≤ (4 : Int32) from nI_ge (show 4 < t by omega) (by omega))]
      exact ⟨_, rfl, rfl, rfl⟩
  rcases hh with ⟨bad, e6, _⟩ | ⟨w, hw, hl, hm, e6, _⟩
  · have e6' : FX5_nextWord c (nI t) st 0 = _ := e6
    have no : ∀ p, p < n → ¬ Mt m 0 t (wd p) := fun p hp x => by
      obtain ⟨a1, a2, a3⟩ := whole ⟨p, hp, x⟩
      have := (hwd p hp).1.pkl
      have := x.1
      omega
    rw [e6']
    simp only [Option.bind_some, ite_self]
    have nv : ∀ (X : Option (Int32 × Int32 × Int32)), X = some (-1, nI s, nI e) → X = some (-1, nI s, nI e) := fun _ x => x
    obtain ⟨v, v1, v2, v3⟩ := fin none6 no
    rw [none6]
    exact ⟨_, v, rfl, v1, v2.symm, rfl, v3⟩
  · have e6' : FX5_nextWord c (nI t) st 0 = _ := e6
    rw [e6']
    simp only [Option.bind_some]
    by_cases good : s = 0 ∧ e = t
    · obtain ⟨rfl, rfl⟩ := good
      rw [if_pos (show nI 0 = 0 from rfl), if_pos rfl]
      simp only [Option.bind_some]
      obtain ⟨r, a, b, _⟩ := wh_v h1 hwd (Nat.zero_le e) ht hw hl hm
      have b' : FX7_whose (nI n) mname m 0 (nI e) = some r := b
      have l4 := hw.2.1
      rw [a, if_pos (show nI e ≤ (4 : Int32) from nI_le (show e ≤ 4 by omega) (by decide)), b']
      exact ⟨_, _, rfl, rfl, rfl, rfl, rfl⟩
    · have no : ∀ p, p < n → ¬ Mt m 0 t (wd p) := fun p hp x => by
        obtain ⟨a1, a2, a3⟩ := whole ⟨p, hp, x⟩
        exact good ⟨a1, a2⟩
      obtain ⟨v, v1, v2, v3⟩ := fin none6 no
      have cl : (if nI s = 0 then (if nI e = nI t then some (nI (pk w), nI s, nI e) else some (-1, nI s, nI e)) else some (-1, nI s, nI e)) = some (-1, nI s, nI e) := by
        by_cases s0 : s = 0
        · rw [if_pos (by rw [s0]; rfl), if_neg (fun x => good ⟨s0, (nI_eq (by omega) (by omega)).mp x⟩)]
        · rw [if_neg (show ¬ nI s = (0 : Int32) from fun x => s0 ((nI_eq (b := 0) (by omega) (by decide)).mp x))]
      rw [cl]
      simp only [Option.bind_some]
      rw [none6]
      exact ⟨_, v, rfl, v1, v2.symm, rfl, v3⟩
