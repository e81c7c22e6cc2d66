def clq (f : Nat → Int32) (q : Nat) (qs : List Nat) (k : Nat) : Prop := f k = -1 ∨ ∃ w : Nat, w < 12 ∧ f k = nI w ∧ (w = q ∨ w ∈ qs)
def BI (f : Nat → Int32) (p q : Nat) (qs : List Nat) (s : Nat) (qu ca : Nat → Int32) : Prop :=
  qs.Nodup ∧ (∀ v ∈ qs, v < 12) ∧ q ∉ qs ∧ qs[0]? = some p ∧ (∀ v ∈ qs, v ≠ p → fr f v = 0) ∧ s < 4096 ∧ (∀ v, v < 12 → (s.testBit v = true ↔ v = q ∨ v ∈ qs)) ∧ (∀ i v : Nat, qs[i]? = some v → qu i = nI v) ∧ Way f qs ca
def Dn (f : Nat → Int32) (q : Nat) (qs : List Nat) (at_ e : Nat) : Prop := (∀ i v k : Nat, i < at_ → qs[i]? = some v → k / 2 = v → clq f q qs k) ∧ ∀ v k : Nat, qs[at_]? = some v → k / 2 = v → k < 2 * v + e → clq f q qs k
def Out (f : Nat → Int32) (p q : Nat) (res : Option (Int32 × (Nat → Int32) × (Nat → Int32) × (Nat → Int32))) : Prop := ∃ (b : Int32) (f' qu' ca' : Nat → Int32), res = some (b, f', qu', ca') ∧ ((b = 1 ∧ Keep f f' ∧ fr f' p = fr f p + 1 ∧ fr f' q = fr f q) ∨ (b = 0 ∧ f' = f ∧ ∃ R : Nat → Bool, R p = true ∧ R q = false ∧ (∀ v, R v = true → v < 12 ∧ (v ≠ p → fr f v = 0)) ∧ ∀ k, R (k / 2) = true → f k = -1 ∨ ∃ w : Nat, w < 12 ∧ f k = nI w ∧ (w = q ∨ R w = true)))
theorem BI.len {f : Nat → Int32} {p q : Nat} {qs : List Nat} {s : Nat} {qu ca : Nat → Int32} (h : BI f p q qs s qu ca) (hq : q < 12) : qs.length ≤ 11 := by
  have := nodup_len 12 (q :: qs) (List.nodup_cons.mpr ⟨h.2.2.1, h.1⟩) (fun v hv => (List.mem_cons.mp hv).elim (fun e => e ▸ hq) (h.2.1 v))
  simp at this
  omega
theorem BI.push {f : Nat → Int32} {p q : Nat} {qs : List Nat} {s : Nat} {qu ca : Nat → Int32} (h : BI f p q qs s qu ca) {w k u at_ : Nat} (hw : w < 12) (hn : w ∉ qs) (hwq : w ≠ q) (hf0 : fr f w = 0) (hk : k < 24) (hfk : f k = nI w) (hu : qs[at_]? = some u) (hku : k / 2 = u) : BI f p q (qs ++ [w]) (s ||| 2 ^ w) (upd qu qs.length (nI w)) (upd ca w (nI k)) := by
  obtain ⟨h1, h2, h3, h4, h5, h6, h7, h8, h9⟩ := h
  have hat := (List.getElem?_eq_some_iff.mp hu).1
  have old : ∀ i v : Nat, (qs ++ [w])[i]? = some v → (i < qs.length ∧ qs[i]? = some v) ∨ (i = qs.length ∧ v = w) := by
    intro i v hi
    rcases Nat.lt_or_ge i qs.length with hl | hl
    · rw [List.getElem?_append_left hl] at hi; exact Or.inl ⟨hl, hi⟩
    · rw [List.getElem?_append_right hl] at hi
      have hz := (List.getElem?_eq_some_iff.mp hi).1
      simp at hz
      have : i = qs.length := by omega
      subst this
      simp at hi
      exact Or.inr ⟨rfl, hi.symm⟩
  have lft : ∀ i v : Nat, qs[i]? = some v → (qs ++ [w])[i]? = some v := fun i v hi => by
    rw [List.getElem?_append_left (List.getElem?_eq_some_iff.mp hi).1]; exact hi
  refine ⟨?_, ?_, ?_, lft 0 p h4, ?_, ?_, ?_, ?_, ?_⟩
  · rw [List.nodup_append]
    refine ⟨h1, by simp, fun a ha b hb => ?_⟩
    simp at hb
    subst hb
    exact fun e => hn (e ▸ ha)
  · intro v hv
    rcases List.mem_append.mp hv with hv | hv
    · exact h2 v hv
    · simp at hv; subst hv; exact hw
  · intro hv
    rcases List.mem_append.mp hv with hv | hv
    · exact h3 hv
    · simp at hv; exact hwq hv.symm
  · intro v hv hvp
    rcases List.mem_append.mp hv with hv | hv
    · exact h5 v hv hvp
    · simp at hv; subst hv; exact hf0
  · exact Nat.or_lt_two_pow (n := 12) h6 (Nat.pow_lt_pow_right (by decide) hw)
  · intro v hv
    rw [tb_or, Bool.or_eq_true, h7 v hv, decide_eq_true_eq, List.mem_append, List.mem_singleton]
    constructor
    · rintro ((a | a) | a)
      · exact Or.inl a
      · exact Or.inr (Or.inl a)
      · exact Or.inr (Or.inr a.symm)
    · rintro (a | a | a)
      · exact Or.inl (Or.inl a)
      · exact Or.inl (Or.inr a)
      · exact Or.inr a.symm
  · intro i v hi
    rcases old i v hi with ⟨hl, hi⟩ | ⟨rfl, rfl⟩
    · rw [updN (by omega)]; exact h8 i v hi
    · exact updS
  · intro i v h0 hi
    rcases old i v hi with ⟨hl, hi⟩ | ⟨rfl, rfl⟩
    · obtain ⟨k', i', u', a1, a2, a3, a4, a5, a6⟩ := h9 i v h0 hi
      exact ⟨k', i', u', a1, by rw [updN (show v ≠ w from fun e => hn (e ▸ List.mem_of_getElem? hi))]; exact a2, a3, a4, lft i' u' a5, a6⟩
    · exact ⟨k, at_, u, hk, updS, hfk, hat, lft at_ u hu, hku⟩
theorem clq.mono {f : Nat → Int32} {q : Nat} {qs : List Nat} {w k : Nat} (h : clq f q qs k) : clq f q (qs ++ [w]) k := by
  rcases h with h | ⟨x, a, b, c⟩
  · exact Or.inl h
  · exact Or.inr ⟨x, a, b, c.elim Or.inl (fun h => Or.inr (List.mem_append_left _ h))⟩
theorem bring_in {f : Nat → Int32} (hw : WF f) {p q : Nat} (hp : p < 12) (hq : q < 12) {at_ u : Nat} {k21 : Int32 → Int32 → Int32 → (Nat → Int32) → (Nat → Int32) → (Nat → Int32) → Option (Int32 × (Nat → Int32) × (Nat → Int32) × (Nat → Int32))}
    (Hout : ∀ (qs : List Nat) (s : Nat) (qu ca : Nat → Int32), BI f p q qs s qu ca → qs[at_]? = some u → Dn f q qs (at_ + 1) 0 → Out f p q (k21 (nI s) (nI qs.length) (nI (at_ + 1)) f qu ca)) :
    ∀ (r fu : Nat) (qs : List Nat) (s : Nat) (qu ca : Nat → Int32), r ≤ 2 → r < fu → BI f p q qs s qu ca → qs[at_]? = some u → Dn f q qs at_ (2 - r) → Out f p q (FX1_bring_h46 (nI p) (nI q) k21 fu (nI s) (nI qs.length) (nI at_) (nI (2 * u + (2 - r))) f qu ca) := by
  intro r
  induction r with
  | zero =>
    intro fu qs s qu ca _ hfu hB hu hD
    obtain ⟨fu, rfl⟩ : ∃ x, fu = x + 1 := ⟨fu - 1, by omega⟩
    show Out f p q (FX1_bring_b46 (nI p) (nI q) k21 (FX1_bring_h46 (nI p) (nI q) k21 fu) (nI s) (nI qs.length) (nI at_) (nI (2 * u + (2 - 0))) f qu ca)
    have hlen := hB.len hq
    have hat := (List.getElem?_eq_some_iff.mp hu).1
    have u12 := hB.2.1 u (List.mem_of_getElem? hu)
    unfold FX1_bring_b46
    rw [gi (by omega) (by decide), clp (by omega), hB.2.2.2.2.2.2.2.1 at_ u hu, mul2I, nI_1, if_pos (nI_lt (by omega) (by omega)), nI_1]
    refine Hout qs s qu ca hB hu ⟨fun i v k hi hv hk => ?_, fun v k _ hk hlt => by omega⟩
    rcases Nat.lt_or_ge i at_ with h | h
    · exact hD.1 i v k h hv hk
    · have : i = at_ := by omega
      subst this
      have : v = u := Option.some.inj (hv.symm.trans hu)
      subst this
      exact hD.2 v k hu hk (by omega)
  | succ r ih =>
    intro fu qs s qu ca hr hfu hB hu hD
    obtain ⟨fu, rfl⟩ : ∃ x, fu = x + 1 := ⟨fu - 1, by omega⟩
    show Out f p q (FX1_bring_b46 (nI p) (nI q) k21 (FX1_bring_h46 (nI p) (nI q) k21 fu) (nI s) (nI qs.length) (nI at_) (nI (2 * u + (2 - (r + 1)))) f qu ca)
    have hlen := hB.len hq
    have hat := (List.getElem?_eq_some_iff.mp hu).1
    have u12 := hB.2.1 u (List.mem_of_getElem? hu)
    have ee : 2 * u + (2 - (r + 1)) + 1 = 2 * u + (2 - r) := by omega
    have k24 : 2 * u + (2 - (r + 1)) < 24 := by omega
    have ku : (2 * u + (2 - (r + 1))) / 2 = u := by omega
    have next : ∀ (qs' : List Nat), (∀ k, clq f q qs k → clq f q qs' k) → (∀ i v : Nat, qs'[i]? = some v → i ≤ at_ → qs[i]? = some v) → clq f q qs' (2 * u + (2 - (r + 1))) → Dn f q qs' at_ (2 - r) := by
      intro qs' hm hi hc
      refine ⟨fun i v k h hv hk => hm k (hD.1 i v k h (hi i v hv (by omega)) hk), fun v k hv hk hlt => ?_⟩
      have : v = u := Option.some.inj ((hi at_ v hv (Nat.le_refl _)).symm.trans hu)
      subst this
      rcases Nat.lt_or_ge k (2 * v + (2 - (r + 1))) with h | h
      · exact hm k (hD.2 v k hu hk h)
      · have : k = 2 * v + (2 - (r + 1)) := by omega
        subst this
        exact hc
    unfold FX1_bring_b46 FX1_bring_b150
    rw [gi (show at_ < 12 by omega) (by decide), clp (show at_ < 2 ^ 31 by omega), hB.2.2.2.2.2.2.2.1 at_ u hu, mul2I, nI_1, if_neg (nI_nlt (show 2 * u + (2 - (r + 1)) ≤ 2 * u + 1 by omega) (by omega)), gi k24 (by decide), clp (show 2 * u + (2 - (r + 1)) < 2 ^ 31 by omega), nI_1, ee]
    rcases hw _ k24 with h | ⟨w, w12, hfw, hne⟩
    · rw [if_pos h]
      exact ih fu qs s qu ca (by omega) (by omega) hB hu (next qs (fun _ h => h) (fun _ _ h _ => h) (Or.inl h))
    · rw [hfw, if_neg (m1_ne (by omega)), bitI (by have := hB.2.2.2.2.2.1; omega) (by omega)]
      by_cases hb : s.testBit w = true
      · rw [hb, if_pos rfl, if_pos (show nI 1 = 1 from rfl)]
        exact ih fu qs s qu ca (by omega) (by omega) hB hu (next qs (fun _ h => h) (fun _ _ h _ => h) (Or.inr ⟨w, w12, hfw, (hB.2.2.2.2.2.2.1 w w12).mp hb⟩))
      · rw [if_neg hb, if_neg (show ¬ nI 0 = 1 by decide), gi w12 (by decide), clp (show w < 2 ^ 31 by omega)]
        have hwn : w ≠ q ∧ w ∉ qs := by
          constructor
          · exact fun e => hb ((hB.2.2.2.2.2.2.1 w w12).mpr (Or.inl e))
          · exact fun e => hb ((hB.2.2.2.2.2.2.1 w w12).mpr (Or.inr e))
        rcases freePebble_v (f := f) w12 with ⟨h0, e⟩ | ⟨j, j24, jw, hj, e⟩
        · rw [e]
          simp only [Option.bind_some, if_pos rfl]
          rw [if_neg (show ¬ (12 : Int32) ≤ nI qs.length from nI_ge (show qs.length < 12 by omega) (by decide)), gi (show qs.length < 12 by omega) (by decide), clp (show qs.length < 2 ^ 31 by omega), shl1 (by omega), orI (by have := hB.2.2.2.2.2.1; omega) (Nat.lt_trans (Nat.pow_lt_pow_right (by decide) w12) (by decide)), nI_1]
          have hB2 := hB.push w12 hwn.2 hwn.1 h0 k24 hfw hu ku
          have := ih fu (qs ++ [w]) (s ||| 2 ^ w) (upd qu qs.length (nI w)) (upd ca w (nI (2 * u + (2 - (r + 1))))) (by omega) (by omega) hB2 (by rw [List.getElem?_append_left hat]; exact hu) (next (qs ++ [w]) (fun k h => h.mono) (fun i v hi hle => by rw [List.getElem?_append_left (by omega)] at hi; exact hi) (Or.inr ⟨w, w12, hfw, Or.inr (by simp)⟩))
          rw [List.length_append, List.length_singleton] at this
          exact this
        · rw [e]
          simp only [Option.bind_some, if_neg (m1_ne (show j < 2 ^ 31 by omega))]
          unfold FX1_turnRound
          have old : ∀ i v : Nat, (qs ++ [w])[i]? = some v → (i < qs.length ∧ qs[i]? = some v) ∨ (i = qs.length ∧ v = w) := by
            intro i v hi
            rcases Nat.lt_or_ge i qs.length with hl | hl
            · rw [List.getElem?_append_left hl] at hi; exact Or.inl ⟨hl, hi⟩
            · rw [List.getElem?_append_right hl] at hi
              have hz := (List.getElem?_eq_some_iff.mp hi).1
              simp at hz
              have : i = qs.length := by omega
              subst this
              simp at hi
              exact Or.inr ⟨rfl, hi.symm⟩
          have lft : ∀ i v : Nat, qs[i]? = some v → (qs ++ [w])[i]? = some v := fun i v hi => by
            rw [List.getElem?_append_left (List.getElem?_eq_some_iff.mp hi).1]; exact hi
          have hway : Way f (qs ++ [w]) (upd ca w (nI (2 * u + (2 - (r + 1))))) := by
            intro i v h0 hi
            rcases old i v hi with ⟨hl, hi⟩ | ⟨rfl, rfl⟩
            · obtain ⟨k', i', u', a1, a2, a3, a4, a5, a6⟩ := hB.2.2.2.2.2.2.2.2 i v h0 hi
              exact ⟨k', i', u', a1, by rw [updN (show v ≠ w from fun e => hwn.2 (e ▸ List.mem_of_getElem? hi))]; exact a2, a3, a4, lft i' u' a5, a6⟩
            · exact ⟨_, at_, u, k24, updS, hfw, hat, lft at_ u hu, ku⟩
          obtain ⟨f', e1, e2, e3, _, e5⟩ := turn_h (nI w) (nI j) (f0 := f) (qs := qs ++ [w]) (p := p) (q := q) (by
              rw [List.nodup_append]
              refine ⟨hB.1, by simp, fun a ha b hb => ?_⟩
              simp at hb
              subst hb
              exact fun e => hwn.2 (e ▸ ha)) (fun v hv => by
              rcases List.mem_append.mp hv with hv | hv
              · exact hB.2.1 v hv
              · simp at hv; subst hv; exact w12) (lft 0 p hB.2.2.2.1) (fun hv => by
              rcases List.mem_append.mp hv with hv | hv
              · exact hB.2.2.1 hv
              · simp at hv; exact hwn.1 hv.symm) hway qs.length 0 5000 w j f (by simp) (by omega) (by omega) hw j24 jw hj (fun _ _ _ _ _ _ => rfl)
          have e1' : FX1_turnRound_h9 (nI p) (nI w) (nI j) (upd ca w (nI (2 * u + (2 - (r + 1))))) 5000 (nI w) (nI j) 0 f = some f' := e1
          rw [e1']
          exact ⟨1, f', _, _, rfl, Or.inl ⟨rfl, e2, e5 (by omega), e3⟩⟩
theorem bring_out {f : Nat → Int32} (hw : WF f) {p q : Nat} (hp : p < 12) (hq : q < 12) : ∀ (fu at_ : Nat) (qs : List Nat) (s : Nat) (qu ca : Nat → Int32), 12 - at_ < fu → BI f p q qs s qu ca → at_ ≤ qs.length → Dn f q qs at_ 0 → Out f p q (FX1_bring_h21 (nI p) (nI q) fu (nI s) (nI qs.length) (nI at_) f qu ca) := by
  intro fu
  induction fu with
  | zero => intro _ _ _ _ _ h; omega
  | succ fu ih =>
    intro at_ qs s qu ca hf hB ha hD
    show Out f p q (FX1_bring_b21 (nI p) (nI q) (FX1_bring_h21 (nI p) (nI q) fu) (nI s) (nI qs.length) (nI at_) f qu ca)
    have hlen := hB.len hq
    unfold FX1_bring_b21
    by_cases h : qs.length ≤ at_
    · rw [if_pos (nI_le h (by omega))]
      refine ⟨0, f, qu, ca, rfl, Or.inr ⟨rfl, rfl, fun v => decide (v ∈ qs), ?_, ?_, ?_, ?_⟩⟩
      · exact decide_eq_true (List.mem_of_getElem? hB.2.2.2.1)
      · exact decide_eq_false hB.2.2.1
      · intro v hv
        have hv := of_decide_eq_true hv
        exact ⟨hB.2.1 v hv, hB.2.2.2.2.1 v hv⟩
      · intro k hk
        have hk := of_decide_eq_true hk
        obtain ⟨i, hi⟩ := List.mem_iff_getElem?.mp hk
        have hil := (List.getElem?_eq_some_iff.mp hi).1
        rcases hD.1 i _ k (by omega) hi rfl with a | ⟨w, a, b, c⟩
        · exact Or.inl a
        · exact Or.inr ⟨w, a, b, c.elim Or.inl (fun c => Or.inr (decide_eq_true c))⟩
    · have hat : at_ < qs.length := by omega
      obtain ⟨u, hu⟩ : ∃ u, qs[at_]? = some u := ⟨qs[at_], List.getElem?_eq_getElem hat⟩
      rw [if_neg (nI_ge hat (by omega)), if_neg (show ¬ (12 : Int32) ≤ nI at_ from nI_ge (show at_ < 12 by omega) (by decide)), gi (show at_ < 12 by omega) (by decide), clp (show at_ < 2 ^ 31 by omega), hB.2.2.2.2.2.2.2.1 at_ u hu, mul2I]
      exact bring_in hw hp hq (fun qs s qu ca hB2 hu2 hD2 => ih (at_ + 1) qs s qu ca (by omega) hB2 (by have := (List.getElem?_eq_some_iff.mp hu2).1; omega) hD2) 2 5000 qs s qu ca (by omega) (by omega) hB hu hD
theorem bring_v {f : Nat → Int32} (hw : WF f) {p q : Nat} (hp : p < 12) (hq : q < 12) (hpq : p ≠ q) (qu ca : Nat → Int32) : Out f p q (FX1_bring (nI p) (nI q) f qu ca) := by
  unfold FX1_bring
  rw [gd_t (show vp_in 0 12 from vin (i := 0) (by decide) (by decide)), shl1 (by omega), shl1 (by omega), orI (Nat.lt_trans (Nat.pow_lt_pow_right (by decide) hp) (by decide)) (Nat.lt_trans (Nat.pow_lt_pow_right (by decide) hq) (by decide))]
  refine bring_out hw hp hq 5000 0 [p] (2 ^ p ||| 2 ^ q) (upd qu 0 (nI p)) ca (by omega) ?_ (by simp) ⟨fun i v k h => by omega, fun v k _ hk hlt => by omega⟩
  refine ⟨by simp, fun v hv => by simp at hv; subst hv; exact hp, by simp; exact fun e => hpq e.symm, rfl, fun v hv hne => by simp at hv; exact absurd hv hne, Nat.or_lt_two_pow (n := 12) (Nat.pow_lt_pow_right (by decide) hp) (Nat.pow_lt_pow_right (by decide) hq), ?_, ?_, ?_⟩
  · intro v hv
    rw [tb_or, Bool.or_eq_true, Nat.testBit_two_pow, decide_eq_true_eq, decide_eq_true_eq, List.mem_singleton]
    constructor
    · rintro (a | a)
      · exact Or.inr a.symm
      · exact Or.inl a.symm
    · rintro (a | a)
      · exact Or.inr a.symm
      · exact Or.inl a.symm
  · intro i v hi
    match i, hi with
    | 0, hi => simp at hi; subst hi; exact updS
    | i + 1, hi => simp at hi
  · intro i v h0 hi
    match i, hi, h0 with
    | i + 1, hi, _ => simp at hi
/-- whether a bar would carry: both pebbles of both free, or a tight set of pins -/
def Carry (f : Nat → Int32) (p q : Nat) (b : Int32) (f' : Nat → Int32) : Prop := Keep f f' ∧ ((b = 1 ∧ fr f' p = 2 ∧ fr f' q = 2) ∨ (b = 0 ∧ Tight f p q))
theorem both_tight {f : Nat → Int32} {p q : Nat} (hp : p < 12) (hq : q < 12) (hpq : p ≠ q) {R S : Nat → Bool} (r1 : R p = true) (r3 : ∀ v, R v = true → v < 12 ∧ (v ≠ p → fr f v = 0)) (r4 : ∀ k, R (k / 2) = true → f k = -1 ∨ ∃ w : Nat, w < 12 ∧ f k = nI w ∧ (w = q ∨ R w = true)) (s1 : S q = true) (s3 : ∀ v, S v = true → v < 12 ∧ (v ≠ q → fr f v = 0)) (s4 : ∀ k, S (k / 2) = true → f k = -1 ∨ ∃ w : Nat, w < 12 ∧ f k = nI w ∧ (w = p ∨ S w = true)) (h3 : fr f p + fr f q ≤ 3) : Tight f p q := by
  refine closed_tight hp hq hpq (fun v => R v || S v) (by simp [r1]) (by simp [s1]) (fun k hk hx => ?_) (fun v hv hx h1 h2 => ?_) h3
  · rw [Bool.or_eq_true] at hx
    rcases hx with hx | hx
    · rcases r4 k hx with a | ⟨w, a, b, c⟩
      · exact Or.inl a
      · rw [b, clp (by omega)]
        right
        rcases c with rfl | c
        · simp [s1]
        · simp [c]
    · rcases s4 k hx with a | ⟨w, a, b, c⟩
      · exact Or.inl a
      · rw [b, clp (by omega)]
        right
        rcases c with rfl | c
        · simp [r1]
        · simp [c]
  · rw [Bool.or_eq_true] at hx
    rcases hx with hx | hx
    · exact (r3 v hx).2 h1
    · exact (s3 v hx).2 h2
theorem carry6_h {p q : Nat} (hp : p < 12) (hq : q < 12) (hpq : p ≠ q) : ∀ (fu i : Nat) (f qu ca : Nat → Int32), 4 - i < fu → i ≤ 4 → i ≤ fr f p + fr f q → WF f → ∃ (b : Int32) (f' qu' ca' : Nat → Int32), FX1_wouldCarry_h2 (nI p) (nI q) fu (nI i) f qu ca = some (b, f', qu', ca') ∧ Carry f p q b f' := by
  intro fu
  induction fu with
  | zero => intro _ _ _ _ h; omega
  | succ fu ih =>
    intro i f qu ca hfu hi hs hw
    show ∃ (b : Int32) (f' qu' ca' : Nat → Int32), FX1_wouldCarry_b2 (nI p) (nI q) (FX1_wouldCarry_h2 (nI p) (nI q) fu) (nI i) f qu ca = some (b, f', qu', ca') ∧ Carry f p q b f'
    have l1 := fr_le f p
    have l2 := fr_le f q
    have fin : 4 ≤ fr f p + fr f q → ∃ (b : Int32) (f' qu' ca' : Nat → Int32), FX1_wouldCarry_b48 (nI p) (nI q) f qu ca = some (b, f', qu', ca') ∧ Carry f p q b f' := by
      intro h4
      unfold FX1_wouldCarry_b48
      rw [countFree_v hp, countFree_v hq]
      simp only [Option.bind_some]
      rw [nI_add, show fr f p + fr f q = 4 by omega, if_pos (show nI 4 = 4 from rfl)]
      exact ⟨1, f, qu, ca, rfl, Keep.rf hw, Or.inl ⟨rfl, by omega, by omega⟩⟩
    unfold FX1_wouldCarry_b2 FX1_wouldCarry_b42
    by_cases h : 4 ≤ i
    · rw [if_pos (show (4 : Int32) ≤ nI i from nI_le h (by omega))]
      exact fin (by omega)
    · rw [if_neg (show ¬ (4 : Int32) ≤ nI i from nI_ge (show i < 4 by omega) (by decide)), countFree_v hp, countFree_v hq]
      simp only [Option.bind_some]
      rw [nI_add]
      by_cases h4 : 4 ≤ fr f p + fr f q
      · rw [if_pos (show (4 : Int32) ≤ nI (fr f p + fr f q) from nI_le h4 (by omega))]
        exact fin h4
      · rw [if_neg (show ¬ (4 : Int32) ≤ nI (fr f p + fr f q) from nI_ge (show fr f p + fr f q < 4 by omega) (by decide)), nI_1]
        obtain ⟨b, f1, qu1, ca1, e1, h1⟩ := bring_v hw hp hq hpq qu ca
        rw [e1]
        simp only [Option.bind_some]
        rcases h1 with ⟨rfl, k1, k2, k3⟩ | ⟨rfl, rfl, R, r1, r2, r3, r4⟩
        · rw [if_neg (show ¬ (1 : Int32) = 0 by decide)]
          obtain ⟨b, f', qu', ca', e, c1, c2⟩ := ih (i + 1) f1 qu1 ca1 (by omega) (by omega) (by omega) k1.1
          exact ⟨b, f', qu', ca', e, k1.trans c1, c2.elim Or.inl (fun h => Or.inr ⟨h.1, k1.tight h.2⟩)⟩
        · rw [if_pos rfl]
          obtain ⟨b, f2, qu2, ca2, e2, h2⟩ := bring_v hw hq hp (fun e => hpq e.symm) qu1 ca1
          rw [e2]
          simp only [Option.bind_some]
          rcases h2 with ⟨rfl, k1, k2, k3⟩ | ⟨rfl, rfl, S, s1, s2, s3, s4⟩
          · rw [if_neg (show ¬ (1 : Int32) = 0 by decide)]
            obtain ⟨b, f', qu', ca', e, c1, c2⟩ := ih (i + 1) f2 qu2 ca2 (by omega) (by omega) (by omega) k1.1
            exact ⟨b, f', qu', ca', e, k1.trans c1, c2.elim Or.inl (fun h => Or.inr ⟨h.1, k1.tight h.2⟩)⟩
          · rw [if_pos rfl]
            exact ⟨0, f2, qu2, ca2, rfl, Keep.rf hw, Or.inr ⟨rfl, both_tight hp hq hpq r1 r3 r4 s1 s3 s4 (by omega)⟩⟩
theorem carry6 {p q : Nat} (hp : p < 12) (hq : q < 12) (hpq : p ≠ q) {f : Nat → Int32} (hw : WF f) (qu ca : Nat → Int32) : ∃ (b : Int32) (f' qu' ca' : Nat → Int32), FX1_wouldCarry (nI p) (nI q) f qu ca = some (b, f', qu', ca') ∧ Carry f p q b f' :=
  carry6_h hp hq hpq 5000 0 f qu ca (by omega) (by omega) (by omega) hw
