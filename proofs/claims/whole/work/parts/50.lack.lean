/-! lacking -/
def InN (es : List (Nat × Nat)) (n : Nat) : Prop := ∀ e, e ∈ es → e.1 ≠ e.2 ∧ e.1 < n ∧ e.2 < n
theorem InN.wl {es : List (Nat × Nat)} {n : Nat} (h : InN es n) (hn : n ≤ 12) : WL es := fun e he => ⟨(h e he).1, by have := (h e he).2.1; omega, by have := (h e he).2.2; omega⟩
theorem InN.add {es : List (Nat × Nat)} {n p q : Nat} (h : InN es n) (hpq : p ≠ q) (hp : p < n) (hq : q < n) : InN ((p, q) :: es) n := by
  intro e he
  rcases List.mem_cons.mp he with rfl | he
  · exact ⟨hpq, hp, hq⟩
  · exact h e he
theorem sz_lt_n : ∀ n, n < 13 → sz (fun v => decide (v < n)) = n := by decide +kernel
theorem ic_all {es : List (Nat × Nat)} {X : Nat → Bool} (h : ∀ e, e ∈ es → X e.1 = true ∧ X e.2 = true) : ic es X = es.length := by
  unfold ic
  rw [List.countP_eq_length]
  intro e he
  rw [(h e he).1, (h e he).2]; rfl
theorem InN.ic {es : List (Nat × Nat)} {n : Nat} (h : InN es n) : ic es (fun v => decide (v < n)) = es.length :=
  ic_all (fun e he => ⟨decide_eq_true (h e he).2.1, decide_eq_true (h e he).2.2⟩)
theorem InN.len {es : List (Nat × Nat)} {n : Nat} (h : InN es n) (hs : SP es) (hn : n ≤ 12) : es.length ≤ 21 := by
  by_cases h2 : 2 ≤ n
  · have := hs (fun v => decide (v < n)) (by rw [sz_lt_n n (by omega)]; exact h2)
    rw [h.ic, sz_lt_n n (by omega)] at this
    omega
  · cases es with
    | nil => exact Nat.zero_le _
    | cons e es =>
      have := h e List.mem_cons_self
      omega
theorem full_te {es : List (Nat × Nat)} {n p q : Nat} (h : InN es n) (hn : n ≤ 12) (hf : 2 * n ≤ es.length + 3) (hp : p < n) (hq : q < n) : TE es p q :=
  ⟨fun v => decide (v < n), decide_eq_true hp, decide_eq_true hq, by rw [h.ic, sz_lt_n n (by omega)]; exact hf⟩
noncomputable def lk (n : Nat) (es : List (Nat × Nat)) (p q : Nat) : List Nat :=
  if q < n then (if tb es p q then lk n es p (q + 1) else (100 * p + q) :: lk n ((p, q) :: es) p (q + 1)) else if p < n then lk n es (p + 1) (p + 2) else []
  termination_by (n - p, n - q)
theorem lk_t {n : Nat} {es : List (Nat × Nat)} {p q : Nat} (h : q < n) (ht : tb es p q = true) : lk n es p q = lk n es p (q + 1) := by
  rw [lk, if_pos h, if_pos ht]
theorem lk_f {n : Nat} {es : List (Nat × Nat)} {p q : Nat} (h : q < n) (ht : tb es p q = false) : lk n es p q = (100 * p + q) :: lk n ((p, q) :: es) p (q + 1) := by
  rw [lk, if_pos h, if_neg (by rw [ht]; decide)]
theorem lk_r {n : Nat} {es : List (Nat × Nat)} {p q : Nat} (h : n ≤ q) (hp : p < n) : lk n es p q = lk n es (p + 1) (p + 2) := by
  rw [lk, if_neg (by omega), if_pos hp]
theorem lk_e {n : Nat} {es : List (Nat × Nat)} {p q : Nat} (h : n ≤ q) (hp : n ≤ p) : lk n es p q = [] := by
  rw [lk, if_neg (by omega), if_neg (by omega)]
theorem lk_nil {n : Nat} {es : List (Nat × Nat)} (h : InN es n) (hn : n ≤ 12) (hf : 2 * n ≤ es.length + 3) : ∀ (m p q : Nat), (n - p) * 100 + (n - q) < m → p < q → lk n es p q = [] := by
  intro m
  induction m with
  | zero => intro p q h; omega
  | succ m ih =>
    intro p q hm hpq
    by_cases h1 : q < n
    · rw [lk_t h1 (tb_t.mpr (full_te h hn hf (by omega) h1))]
      exact ih p (q + 1) (by omega) (by omega)
    · by_cases h2 : p < n
      · rw [lk_r (by omega) h2]
        exact ih (p + 1) (p + 2) (by omega) (by omega)
      · exact lk_e (by omega) (by omega)
theorem lk_len {n : Nat} (hn : n ≤ 12) : ∀ (m p q : Nat) (es : List (Nat × Nat)), (n - p) * 100 + (n - q) < m → p < q → InN es n → SP es → (lk n es p q).length + es.length ≤ 21 := by
  intro m
  induction m with
  | zero => intro p q es h; omega
  | succ m ih =>
    intro p q es hm hpq hI hs
    by_cases h1 : q < n
    · cases ht : tb es p q
      · rw [lk_f h1 ht]
        have := ih p (q + 1) ((p, q) :: es) (by omega) (by omega) (hI.add (by omega) (by omega) h1) (hs.add (e := (p, q)) (tb_f.mp ht))
        simp only [List.length_cons] at this ⊢
        omega
      · rw [lk_t h1 ht]
        exact ih p (q + 1) es (by omega) (by omega) hI hs
    · by_cases h2 : p < n
      · rw [lk_r (by omega) h2]
        exact ih (p + 1) (p + 2) es (by omega) (by omega) hI hs
      · rw [lk_e (by omega) (by omega)]
        have := hI.len hs hn
        simpa using this
theorem mul100 (j : Nat) : (100 : Int32) * nI j = nI (100 * j) := pk_mul 100 j
/-- what the class answers: the list l comes behind k -/
def LA (p2 : Int32) (k : Nat) (l : List Nat) (r : Int32) : Prop := (p2 = -1 → r = nI (k + l.length)) ∧ (∀ i, i < l.length → p2 = nI (k + i) → r = nI (l.getD i 0)) ∧ (¬ p2 = -1 → (∀ i, i < l.length → ¬ p2 = nI (k + i)) → r = -12)
theorem LA.cons {p2 : Int32} {k : Nat} {l : List Nat} {r : Int32} {x : Nat} (hne : ¬ nI k = p2) (h : LA p2 (k + 1) l r) : LA p2 k (x :: l) r := by
  obtain ⟨a, b, c⟩ := h
  refine ⟨fun e => ?_, fun i hi e => ?_, fun h1 h2 => c h1 (fun i hi e => h2 (i + 1) (by simp; omega) (by rw [e]; congr 1; omega))⟩
  · rw [a e]; congr 1; simp only [List.length_cons]; omega
  · cases i with
    | zero => exact absurd e.symm hne
    | succ i =>
      simp only [List.length_cons] at hi
      have := b i (by omega) (by rw [e]; congr 1; omega)
      rw [this]
      simp
theorem la17 {n : Nat} (hn : n ≤ 12) {p : Nat} (hp : p < n) (p2 : Int32) {k5 : Int32 → Int32 → (Nat → Int32) → (Nat → Int32) → (Nat → Int32) → Option (Int32 × (Nat → Int32) × (Nat → Int32) × (Nat → Int32))}
    (hk : ∀ (es : List (Nat × Nat)) (k : Nat) (f qu ca : Nat → Int32), k ≤ es.length → InN es n → SP es → Lay f es → ∃ r f' qu' ca', k5 (nI k) (nI (p + 1)) f qu ca = some (r, f', qu', ca') ∧ LA p2 k (lk n es (p + 1) (p + 2)) r) :
    ∀ (fu q : Nat) (es : List (Nat × Nat)) (k : Nat) (f qu ca : Nat → Int32), p < q → q ≤ n → n - q < fu → k ≤ es.length → InN es n → SP es → Lay f es → ∃ r f' qu' ca', FX3_lackingAt_h17 (nI n) p2 k5 fu (nI k) (nI p) (nI q) f qu ca = some (r, f', qu', ca') ∧ LA p2 k (lk n es p q) r := by
  intro fu
  induction fu with
  | zero => intro q _ _ _ _ _ _ _ h; omega
  | succ fu ih =>
    intro q es k f qu ca hpq hq hf hk2 hI hs hL
    show ∃ r f' qu' ca', FX3_lackingAt_b17 (nI n) p2 k5 (FX3_lackingAt_h17 (nI n) p2 k5 fu) (nI k) (nI p) (nI q) f qu ca = _ ∧ _
    unfold FX3_lackingAt_b17 FX3_lackingAt_b65
    by_cases h : n ≤ q
    · rw [if_pos (nI_le h (by omega)), nI_1, lk_r h hp]
      exact hk es k f qu ca hk2 hI hs hL
    · rw [if_neg (nI_ge (by omega) (by omega))]
      obtain ⟨f1, qu1, ca1, e1, l1, l2⟩ := cL6 hL (p := p) (q := q) (by omega) (by omega) (by omega) qu ca
      rw [e1]
      simp only [Option.bind_some, nI_1]
      cases ht : tb es p q
      · simp only [Bool.false_eq_true, if_false, if_neg (show ¬ (1 : Int32) = 0 by decide)]
        have len := lk_len hn ((n - p) * 100 + (n - q) + 1) p q es (by omega) hpq hI hs
        rw [lk_f (by omega) ht] at len ⊢
        by_cases hc : nI k = p2
        · rw [if_pos hc, mul100, nI_add]
          refine ⟨_, _, _, _, rfl, fun e => ?_, fun i hi e => ?_, fun _ h2 => ?_⟩
          · rw [e] at hc; exact absurd hc (nI_nm1 (by have := hI.len hs hn; omega))
          · simp only [List.length_cons] at hi len
            rw [← hc, nI_eq (by omega) (by omega)] at e
            have : i = 0 := by omega
            subst this
            rfl
          · exact absurd hc.symm (h2 0 (by simp))
        · rw [if_neg hc]
          unfold FX1_lay
          rw [mul2I, gi (by omega) (by decide), clp (by omega)]
          simp only [Option.bind_some]
          obtain ⟨r, f', qu', ca', e2, la⟩ := ih (q + 1) ((p, q) :: es) (k + 1) _ qu1 ca1 (by omega) (by omega) (by omega) (by simp; omega) (hI.add (by omega) hp (by omega)) (hs.add (e := (p, q)) (tb_f.mp ht)) (l1.lay (by omega) (by omega) (by omega) (l2 ht))
          exact ⟨r, f', qu', ca', e2, la.cons hc⟩
      · simp only [if_true]
        rw [lk_t (by omega) ht]
        exact ih (q + 1) es k f1 qu1 ca1 (by omega) (by omega) (by omega) hk2 hI hs l1
theorem la5 {n : Nat} (hn : n ≤ 12) (p2 : Int32) : ∀ (fu p : Nat) (es : List (Nat × Nat)) (k : Nat) (f qu ca : Nat → Int32), p ≤ n → n - p < fu → k ≤ es.length → InN es n → SP es → Lay f es → ∃ r f' qu' ca', FX3_lackingAt_h5 (nI n) p2 fu (nI k) (nI p) f qu ca = some (r, f', qu', ca') ∧ LA p2 k (lk n es p (p + 1)) r := by
  intro fu
  induction fu with
  | zero => intro p _ _ _ _ _ _ h; omega
  | succ fu ih =>
    intro p es k f qu ca hp hf hk hI hs hL
    show ∃ r f' qu' ca', FX3_lackingAt_b5 (nI n) p2 (FX3_lackingAt_h5 (nI n) p2 fu) (nI k) (nI p) f qu ca = _ ∧ _
    unfold FX3_lackingAt_b5
    by_cases h : n ≤ p
    · rw [if_pos (nI_le h (by omega)), lk_e (by omega) h]
      by_cases c : p2 = -1
      · rw [if_pos c]
        exact ⟨_, _, _, _, rfl, fun _ => rfl, fun i hi => absurd hi (by simp), fun x => absurd c x⟩
      · rw [if_neg c]
        exact ⟨_, _, _, _, rfl, fun x => absurd x c, fun i hi => absurd hi (by simp), fun _ _ => rfl⟩
    · rw [if_neg (nI_ge (by omega) (by omega)), nI_1]
      exact la17 hn (by omega) p2 (fun es k f qu ca a b c d => ih (p + 1) es k f qu ca (by omega) (by omega) a b c d) 5000 (p + 1) es k f qu ca (by omega) (by omega) (by omega) hk hI hs hL
/-- what the reference writes -/
def LB (k : Nat) (l : List Nat) (L L' : Nat → Int32) (k' : Nat) : Prop := k' = k + l.length ∧ (∀ i, i < k → L' i = L i) ∧ ∀ i, i < l.length → L' (k + i) = nI (l.getD i 0)
theorem LB.cons {k : Nat} {l : List Nat} {L L' : Nat → Int32} {k' x : Nat} (h : LB (k + 1) l (upd L k (nI x)) L' k') : LB k (x :: l) L L' k' := by
  obtain ⟨a, b, c⟩ := h
  refine ⟨by simp only [List.length_cons]; omega, fun i hi => by rw [b i (by omega), updN (by omega)], fun i hi => ?_⟩
  cases i with
  | zero => rw [Nat.add_zero, b k (by omega), updS]; rfl
  | succ i =>
    simp only [List.length_cons] at hi
    have := c i (by omega)
    rw [show k + (i + 1) = k + 1 + i by omega, this]
    simp
theorem stopI {n L : Nat} (hn : n ≤ 12) (hL : L ≤ 21) : 2 * nI n - 3 ≤ nI L ↔ 2 * n ≤ L + 3 := by
  have c : ∀ n, n < 13 → ∀ L, L < 22 → (2 * nI n - 3 ≤ nI L ↔ 2 * n ≤ L + 3) := by decide +kernel
  exact c n (by omega) L (by omega)
theorem lb23 {n : Nat} (hn : n ≤ 12) {p : Nat} (hp : p < n) (nb : Int32) (low high car : Nat → Int32) {k11 : Int32 → (Nat → Int32) → (Nat → Int32) → Int32 → Int32 → (Nat → Int32) → Int32 → Option ((Nat → Int32) × (Nat → Int32) × Int32 × Int32 × (Nat → Int32) × Int32)}
    (hk : ∀ (es : List (Nat × Nat)) (k : Nat) (g : Nat → Int32) (sn : Int32) (L : Nat → Int32), k ≤ es.length → InN es n → SP es → Lay g es → ∃ g' sn' rk' L' k', k11 (nI (p + 1)) g car sn (nI es.length) L (nI k) = some (g', car, sn', rk', L', nI k') ∧ LB k (lk n es (p + 1) (p + 2)) L L' k') :
    ∀ (fu q : Nat) (es : List (Nat × Nat)) (k : Nat) (g : Nat → Int32) (sn : Int32) (L : Nat → Int32), p < q → q ≤ n → n - q < fu → k ≤ es.length → InN es n → SP es → Lay g es → ∃ g' sn' rk' L' k', FX7_findsLacking_h23 (nI n) nb low high k11 fu (nI p) (nI q) g car sn (nI es.length) L (nI k) = some (g', car, sn', rk', L', nI k') ∧ LB k (lk n es p q) L L' k' := by
  intro fu
  induction fu with
  | zero => intro q _ _ _ _ _ _ _ h; omega
  | succ fu ih =>
    intro q es k g sn L hpq hq hf hk2 hI hs hL
    show ∃ g' sn' rk' L' k', FX7_findsLacking_b23 (nI n) nb low high k11 (FX7_findsLacking_h23 (nI n) nb low high k11 fu) (nI p) (nI q) g car sn (nI es.length) L (nI k) = _ ∧ _
    unfold FX7_findsLacking_b23 FX7_findsLacking_b89 FX7_findsLacking_b83
    have len := hI.len hs hn
    by_cases h : n ≤ q
    · rw [if_pos (nI_le h (by omega)), nI_1, lk_r h hp]
      exact hk es k g sn L hk2 hI hs hL
    · rw [if_neg (nI_ge (by omega) (by omega))]
      by_cases full : 2 * n ≤ es.length + 3
      · rw [if_pos ((stopI hn len).mpr full), nI_1]
        rw [lk_nil hI hn full ((n - p) * 100 + (n - q) + 1) p q (by omega) hpq]
        have := hk es k g sn L hk2 hI hs hL
        rw [lk_nil hI hn full ((n - (p + 1)) * 100 + (n - (p + 2)) + 1) (p + 1) (p + 2) (by omega) (by omega)] at this
        exact this
      · rw [if_neg (fun e => full ((stopI hn len).mp e))]
        obtain ⟨g1, sn1, e1, l1⟩ := comes_v hL (p := p) (q := q) (by omega) (by omega) (by omega) sn (nI es.length)
        rw [e1]
        simp only [Option.bind_some, nI_1]
        cases ht : tb es p q
        · simp only [Bool.false_eq_true, if_false, if_neg (show ¬ (1 : Int32) = 0 by decide)]
          rw [gi (show k < 144 by omega) (by decide), clp (by omega), mul100, nI_add, lk_f (by omega) ht]
          have eg : gs es (p, q) = (p, q) :: es := by unfold gs; simp [ht]
          rw [eg] at l1
          obtain ⟨g', sn', rk', L', k', e2, lb⟩ := ih (q + 1) ((p, q) :: es) (k + 1) g1 sn1 (upd L k (nI (100 * p + q))) (by omega) (by omega) (by omega) (by simp; omega) (hI.add (by omega) hp (by omega)) (hs.add (e := (p, q)) (tb_f.mp ht)) l1
          exact ⟨g', sn', rk', L', k', e2, lb.cons⟩
        · simp only [if_true]
          rw [lk_t (by omega) ht]
          have eg : gs es (p, q) = es := by unfold gs; simp [ht]
          rw [eg] at l1
          exact ih (q + 1) es k g1 sn1 L (by omega) (by omega) (by omega) hk2 hI hs l1
theorem lb11 {n : Nat} (hn : n ≤ 12) (nb : Int32) (low high car : Nat → Int32) : ∀ (fu p : Nat) (es : List (Nat × Nat)) (k : Nat) (g : Nat → Int32) (sn : Int32) (L : Nat → Int32), p ≤ n → n - p < fu → k ≤ es.length → InN es n → SP es → Lay g es → ∃ g' sn' rk' L' k', FX7_findsLacking_h11 (nI n) nb low high fu (nI p) g car sn (nI es.length) L (nI k) = some (g', car, sn', rk', L', nI k') ∧ LB k (lk n es p (p + 1)) L L' k' := by
  intro fu
  induction fu with
  | zero => intro p _ _ _ _ _ _ h; omega
  | succ fu ih =>
    intro p es k g sn L hp hf hk hI hs hL
    show ∃ g' sn' rk' L' k', FX7_findsLacking_b11 (nI n) nb low high (FX7_findsLacking_h11 (nI n) nb low high fu) (nI p) g car sn (nI es.length) L (nI k) = _ ∧ _
    unfold FX7_findsLacking_b11
    by_cases h : n ≤ p
    · rw [if_pos (nI_le h (by omega)), lk_e (by omega) h]
      exact ⟨_, _, _, _, k, rfl, rfl, fun _ _ => rfl, fun i hi => absurd hi (by simp)⟩
    · rw [if_neg (nI_ge (by omega) (by omega)), nI_1]
      exact lb23 hn (by omega) nb low high car (fun es k g sn L a b c d => ih (p + 1) es k g sn L (by omega) (by omega) a b c d) 5000 (p + 1) es k g sn L (by omega) (by omega) (by omega) hk hI hs hL
theorem Br.inn {n nb : Nat} {br : Nat → Nat × Nat} {les gre : Nat → Int32} (hB : Br n nb br les gre) : InN (GE br nb) n := fun e he => ⟨(GE_wl hB.ok e he).1, (GE_in hB e he).1, (GE_in hB e he).2⟩
theorem lacking_core (p1 : Int32) {n nb : Nat} {pins bars : Int32} {names les gre : Nat → Int32} {mpins mbars : Int32} {mname mlow mhigh : Nat → Int32} (hF : FrR n nb pins bars names les gre mpins mbars mname mlow mhigh) (a b c d : Int32) (f qu ca g car : Nat → Int32) (sn rk : Int32) (L : Nat → Int32) (c7 : Int32) :
    ∃ (u : Int32 × Int32 × Int32 × Int32 × Int32 × (Nat → Int32) × (Nat → Int32) × (Nat → Int32)) (v : Int32 × (Nat → Int32) × (Nat → Int32) × Int32 × Int32 × (Nat → Int32) × Int32), FX6_lacking p1 pins bars les gre a b c d f qu ca = some u ∧ FX7_lacking p1 mpins mbars mlow mhigh g car sn rk L c7 = some v ∧ u.1 = v.1 := by
  obtain ⟨br, hB6, hB7, _⟩ := hF.br
  obtain ⟨h1, h2, rfl, rfl, rfl, rfl, h7, h8, h9⟩ := hF
  unfold FX6_lacking FX7_lacking FX7_findsLacking
  obtain ⟨f1, qu1, ca1, s1, l1⟩ := settle_v hB6 a b c d f qu ca
  obtain ⟨g1, car1, sn1, s2, l2, _⟩ := call_v hB7 g car sn rk
  rw [s1, s2]
  simp only [Option.bind_some]
  obtain ⟨r, f2, qu2, ca2, e6, la⟩ := la5 h1 p1 5000 0 (GE br nb) 0 f1 qu1 ca1 (Nat.zero_le _) (by omega) (Nat.zero_le _) hB6.inn (GE_sp br nb) l1
  obtain ⟨g2, sn2, rk2, L', k', e7, lb⟩ := lb11 h1 (nI nb) mlow mhigh car1 5000 0 (GE br nb) 0 g1 sn1 L (Nat.zero_le _) (by omega) (Nat.zero_le _) hB7.inn (GE_sp br nb) l2
  have e6' : FX3_lackingAt (nI n) p1 f1 qu1 ca1 = _ := e6
  have e7' : FX7_findsLacking_h11 (nI n) (nI nb) mlow mhigh 5000 0 g1 car1 sn1 (nI (GE br nb).length) L 0 = _ := e7
  rw [e6', e7']
  simp only [Option.bind_some]
  have len := lk_len h1 ((n - 0) * 100 + (n - 1) + 1) 0 1 (GE br nb) (by omega) (by omega) hB6.inn (GE_sp br nb)
  obtain ⟨rfl, _, lb⟩ := lb
  simp only [Nat.zero_add] at la lb ⊢
  by_cases x : p1 = -1
  · subst x
    rw [if_pos (show (-1 : Int32) ≤ -1 by decide), if_pos rfl]
    refine ⟨_, _, rfl, rfl, ?_⟩
    have := la.1 rfl
    rw [Nat.zero_add] at this
    exact this
  · rw [if_neg x]
    rcases cases_lt p1 (n := (lk n (GE br nb) 0 1).length) (by omega) with ⟨i, hi, rfl⟩ | hn
    · rw [isInP_t hi (by omega)]
      have ge : (-1 : Int32) ≤ nI i := by
        rw [Int32.le_iff_toInt_le, nI_toInt (by omega)]
        have : (-1 : Int32).toInt = -1 := by decide
        omega
      rw [if_pos ge]
      simp only [Option.bind_some, if_neg (show ¬ (1 : Int32) = 0 by decide)]
      rw [gi (show i < 144 by omega) (by decide), clp (by omega)]
      refine ⟨_, _, rfl, rfl, ?_⟩
      have t1 := la.2.1 i hi (by rw [Nat.zero_add])
      have t2 := lb i hi
      rw [t2]
      exact t1
    · rw [isInP_f (by omega) hn]
      simp only [Option.bind_some, if_true]
      by_cases ge : (-1 : Int32) ≤ p1
      · rw [if_pos ge]
        exact ⟨_, _, rfl, rfl, la.2.2 x (fun i hi => by rw [Nat.zero_add]; exact hn i hi)⟩
      · rw [if_neg ge]
        exact ⟨_, _, rfl, rfl, rfl⟩
