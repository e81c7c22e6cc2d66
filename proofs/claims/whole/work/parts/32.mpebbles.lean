/-! the reference's search for a free pebble -/
theorem freeAt_v {f : Nat → Int32} {v : Nat} (hv : v < 12) : (fr f v = 0 ∧ FX7_freeAt (nI v) f = some (-1)) ∨ ∃ j : Nat, j < 24 ∧ j / 2 = v ∧ f j = -1 ∧ FX7_freeAt (nI v) f = some (nI j) := freePebble_v hv
theorem hasBoth_v {f : Nat → Int32} {v : Nat} (hv : v < 12) : FX7_hasBoth (nI v) f = some (if fr f v = 2 then 1 else 0) := by
  unfold FX7_hasBoth fr fe
  rw [mul2I, nI_1, gi (by omega) (by decide), gi (by omega) (by decide), clp (by omega), clp (by omega)]
  by_cases h1 : f (2 * v) = -1 <;> by_cases h2 : f (2 * v + 1) = -1 <;> simp [h1, h2]
/-- what a search from p gives, with the pins s seen before -/
def FrOut (f : Nat → Int32) (p s : Nat) (res : Option (Int32 × (Nat → Int32) × Int32)) : Prop := ∃ (b : Int32) (f' : Nat → Int32) (s' : Nat), res = some (b, f', nI s') ∧ s' < 4096 ∧ (∀ v, s.testBit v = true → s'.testBit v = true) ∧
  ((b = 1 ∧ Keep f f' ∧ fr f' p = fr f p + 1 ∧ ∀ k, s.testBit (k / 2) = true → f' k = f k) ∨
   (b = 0 ∧ f' = f ∧ s'.testBit p = true ∧ (∀ v, s'.testBit v = true → s.testBit v = false → v ≠ p → fr f v = 0) ∧ ∀ k, k < 24 → s'.testBit (k / 2) = true → s.testBit (k / 2) = false → f k = -1 ∨ ∃ w : Nat, w < 12 ∧ f k = nI w ∧ s'.testBit w = true))
/-- pins not seen -/
def uns (s : Nat) : Nat := sm (fun v => if s.testBit v then 0 else 1) 12
theorem uns_lt {s s' p : Nat} (hp : p < 12) (h0 : s.testBit p = false) (h1 : s'.testBit p = true) (hm : ∀ v, s.testBit v = true → s'.testBit v = true) : uns s' + 1 ≤ uns s := by
  unfold uns
  have a := sm_one (g := fun v => if v = p then 0 else if s.testBit v then 0 else 1) (h := fun v => if s.testBit v then 0 else 1) hp (fun v _ hv => by simp [hv])
  have b : sm (fun v => if s'.testBit v then 0 else 1) 12 ≤ sm (fun v => if v = p then 0 else if s.testBit v then 0 else 1) 12 := by
    apply sm_le
    intro v _
    by_cases hv : v = p
    · subst hv; simp [h1]
    · by_cases h2 : s.testBit v = true
      · simp [hv, h2, hm v h2]
      · simp [hv, h2]; split <;> omega
  simp [h0] at a
  omega
theorem tb12 {s v : Nat} (hs : s < 4096) (h : s.testBit v = true) : v < 12 := by
  rcases Nat.lt_or_ge v 12 with h1 | h1
  · exact h1
  · have h2 : 2 ^ 12 ≤ 2 ^ v := Nat.pow_le_pow_right (by decide) h1
    have : s < 2 ^ v := Nat.lt_of_lt_of_le hs h2
    rw [Nat.testBit_lt_two_pow this] at h
    cases h
theorem frees_in {f0 : Nat → Int32} (hw : WF f0) {p s0 d : Nat} (hp : p < 12) (hs0 : s0 < 4096) (hp0 : s0.testBit p = false)
    (ih : ∀ (q s : Nat), q < 12 → s < 4096 → s.testBit q = false → uns s ≤ d → FrOut f0 q s (FX7_frees d (nI q) f0 (nI s))) :
    ∀ (r fu s : Nat), r ≤ 2 → r < fu → s < 4096 → s.testBit p = true → (∀ v, s0.testBit v = true → s.testBit v = true) → uns s ≤ d →
      (∀ v, s.testBit v = true → s0.testBit v = false → v ≠ p → fr f0 v = 0) → (∀ k, k < 24 → s.testBit (k / 2) = true → s0.testBit (k / 2) = false → k / 2 ≠ p → f0 k = -1 ∨ ∃ w : Nat, w < 12 ∧ f0 k = nI w ∧ s.testBit w = true) →
      (∀ k, k / 2 = p → k < 2 * p + (2 - r) → f0 k = -1 ∨ ∃ w : Nat, w < 12 ∧ f0 k = nI w ∧ s.testBit w = true) →
      FrOut f0 p s0 (FX7_frees_h16 (nI p) (FX7_frees d) fu (nI (2 * p + (2 - r))) f0 (nI s)) := by
  intro r
  induction r with
  | zero =>
    intro fu s _ hfu hs hps hm hu h1 h2 h3
    obtain ⟨fu, rfl⟩ : ∃ x, fu = x + 1 := ⟨fu - 1, by omega⟩
    show FrOut f0 p s0 (FX7_frees_b16 (nI p) (FX7_frees d) (FX7_frees_h16 (nI p) (FX7_frees d) fu) (nI (2 * p + (2 - 0))) f0 (nI s))
    unfold FX7_frees_b16
    rw [mul2I, show nI (2 * p) + 2 = nI (2 * p + 2) from nI_add _ 2, if_pos (nI_le (by omega) (by omega))]
    refine ⟨0, f0, s, rfl, hs, hm, Or.inr ⟨rfl, rfl, hps, h1, fun k hk ha hb => ?_⟩⟩
    by_cases e : k / 2 = p
    · exact h3 k e (by omega)
    · exact h2 k hk ha hb e
  | succ r ihr =>
    intro fu s hr hfu hs hps hm hu h1 h2 h3
    obtain ⟨fu, rfl⟩ : ∃ x, fu = x + 1 := ⟨fu - 1, by omega⟩
    show FrOut f0 p s0 (FX7_frees_b16 (nI p) (FX7_frees d) (FX7_frees_h16 (nI p) (FX7_frees d) fu) (nI (2 * p + (2 - (r + 1)))) f0 (nI s))
    have k24 : 2 * p + (2 - (r + 1)) < 24 := by omega
    have kp : (2 * p + (2 - (r + 1))) / 2 = p := by omega
    have ee : 2 * p + (2 - (r + 1)) + 1 = 2 * p + (2 - r) := by omega
    unfold FX7_frees_b16 FX7_frees_b91 FX7_frees_b71
    rw [mul2I, show nI (2 * p) + 2 = nI (2 * p + 2) from nI_add _ 2, if_neg (nI_ge (by omega) (by omega)), gi k24 (by decide), clp (by omega), nI_1, ee]
    rcases hw _ k24 with h | ⟨w, w12, hfw, hne⟩
    · rw [if_pos h]
      exact ihr fu s (by omega) (by omega) hs hps hm hu h1 h2 (fun k hk hlt => by
        rcases Nat.lt_or_ge k (2 * p + (2 - (r + 1))) with a | a
        · exact h3 k hk a
        · have : k = 2 * p + (2 - (r + 1)) := by omega
          subst this; exact Or.inl h)
    · rw [hfw, if_neg (m1_ne (by omega)), bitI (by omega) (by omega)]
      by_cases hb : s.testBit w = true
      · rw [hb, if_pos rfl, if_pos (show nI 1 = 1 from rfl)]
        exact ihr fu s (by omega) (by omega) hs hps hm hu h1 h2 (fun k hk hlt => by
          rcases Nat.lt_or_ge k (2 * p + (2 - (r + 1))) with a | a
          · exact h3 k hk a
          · have : k = 2 * p + (2 - (r + 1)) := by omega
            subst this; exact Or.inr ⟨w, w12, hfw, hb⟩)
      · have hbf : s.testBit w = false := by simpa using hb
        have wp : w ≠ p := fun e => by subst e; exact hb hps
        rw [if_neg hb, if_neg (show ¬ nI 0 = 1 by decide)]
        rcases freeAt_v (f := f0) w12 with ⟨h0, e⟩ | ⟨j, j24, jw, hj, e⟩
        · rw [e]
          simp only [Option.bind_some, if_neg (show ¬ (0 : Int32) ≤ -1 by decide)]
          obtain ⟨b, f', s', e2, s4, sm', hres⟩ := ih w s w12 hs hbf hu
          rw [e2]
          simp only [Option.bind_some]
          rcases hres with ⟨rfl, g1, g2, g3⟩ | ⟨rfl, rfl, g1, g2, g3⟩
          · rw [if_neg (show ¬ (1 : Int32) = 0 by decide)]
            have fpos : fr f' w ≠ 0 := by omega
            rcases freeAt_v (f := f') w12 with ⟨h0', _⟩ | ⟨j, j24, jw, hj, e3⟩
            · exact absurd h0' fpos
            · rw [e3]
              simp only [Option.bind_some]
              rw [gi j24 (by decide), gi k24 (by decide), clp (by omega)]
              have hk' : f' (2 * p + (2 - (r + 1))) = nI w := by rw [g3 _ (by rw [kp]; exact hps)]; exact hfw
              obtain ⟨K1, K2, K3⟩ := turn1 g1.1 k24 j24 kp jw (fun e => wp e.symm) hk' hj
              refine ⟨1, _, s', rfl, s4, fun v hv => sm' v (hm v hv), Or.inl ⟨rfl, g1.trans K1, ?_, fun k hk => ?_⟩⟩
              · rw [K2]
                have : fr f' p = fr f0 p := by unfold fr fe; rw [g3 (2 * p) (by rw [show 2 * p / 2 = p by omega]; exact hps), g3 (2 * p + 1) (by rw [show (2 * p + 1) / 2 = p by omega]; exact hps)]
                omega
              · have n1 : k ≠ 2 * p + (2 - (r + 1)) := fun e => by subst e; rw [kp, hp0] at hk; cases hk
                have n2 : k ≠ j := fun e => by subst e; rw [jw] at hk; exact hb (hm w hk)
                rw [updN n1, updN n2]
                exact g3 k (hm _ hk)
          · rw [if_pos rfl]
            have hs'' : uns s' ≤ d := by have := uns_lt w12 hbf g1 sm'; omega
            refine ihr fu s' (by omega) (by omega) s4 (sm' p hps) (fun v hv => sm' v (hm v hv)) hs'' ?_ ?_ ?_
            · intro v hv hv0 hvp
              by_cases hv2 : s.testBit v = true
              · exact h1 v hv2 hv0 hvp
              · by_cases hvw : v = w
                · subst hvw; exact h0
                · exact g2 v hv (by simpa using hv2) hvw
            · intro k hk ha hb2 hkp
              by_cases hv2 : s.testBit (k / 2) = true
              · rcases h2 k hk hv2 hb2 hkp with a | ⟨x, a, b, c⟩
                · exact Or.inl a
                · exact Or.inr ⟨x, a, b, sm' x c⟩
              · exact g3 k hk ha (by simpa using hv2)
            · intro k hk hlt
              rcases Nat.lt_or_ge k (2 * p + (2 - (r + 1))) with a | a
              · rcases h3 k hk a with a | ⟨x, a, b, c⟩
                · exact Or.inl a
                · exact Or.inr ⟨x, a, b, sm' x c⟩
              · have : k = 2 * p + (2 - (r + 1)) := by omega
                subst this; exact Or.inr ⟨w, w12, hfw, g1⟩
        · rw [e]
          simp only [Option.bind_some, if_pos (nI_pos' (show j < 2 ^ 31 by omega))]
          rw [gi j24 (by decide), gi k24 (by decide), clp (by omega)]
          obtain ⟨K1, K2, K3⟩ := turn1 hw k24 j24 kp jw (fun e => wp e.symm) hfw hj
          refine ⟨1, _, s, rfl, hs, hm, Or.inl ⟨rfl, K1, K2, fun k hk => ?_⟩⟩
          have n1 : k ≠ 2 * p + (2 - (r + 1)) := fun e => by subst e; rw [kp, hp0] at hk; cases hk
          have n2 : k ≠ j := fun e => by subst e; rw [jw] at hk; exact hb (hm w hk)
          rw [updN n1, updN n2]
theorem frees_v {f : Nat → Int32} (hw : WF f) : ∀ (d p s : Nat), p < 12 → s < 4096 → s.testBit p = false → uns s ≤ d → FrOut f p s (FX7_frees d (nI p) f (nI s)) := by
  intro d
  induction d with
  | zero =>
    intro p s hp hs h0 hu
    have := uns_lt (s := s) (s' := s ||| 2 ^ p) hp h0 (by rw [tb_or]; simp) (fun v hv => by rw [tb_or, hv]; rfl)
    omega
  | succ d ih =>
    intro p s hp hs h0 hu
    show FrOut f p s (FX7_frees_0 (FX7_frees d) (nI p) f (nI s))
    unfold FX7_frees_0
    have p31 : 2 ^ p < 2 ^ 31 := Nat.pow_lt_pow_right (by decide) (by omega)
    have s4 : s ||| 2 ^ p < 4096 := Nat.or_lt_two_pow (n := 12) hs (Nat.pow_lt_pow_right (by decide) hp)
    rw [mul2I, shl1 (by omega), orI (by omega) p31]
    have hp1 : (s ||| 2 ^ p).testBit p = true := by rw [tb_or]; simp
    have hm : ∀ v, s.testBit v = true → (s ||| 2 ^ p).testBit v = true := fun v hv => by rw [tb_or, hv]; rfl
    have hun := uns_lt hp h0 hp1 hm
    have onlyp : ∀ v, (s ||| 2 ^ p).testBit v = true → s.testBit v = false → v = p := by
      intro v hv hv0
      rw [tb_or, hv0, Bool.false_or] at hv
      exact (of_decide_eq_true hv).symm
    have := frees_in hw hp hs h0 ih 2 5000 (s ||| 2 ^ p) (by omega) (by omega) s4 hp1 hm (by omega) (fun v hv hv0 hvp => absurd (onlyp v hv hv0) hvp) (fun k hk ha hb hkp => absurd (onlyp _ ha hb) hkp) (fun k hk hlt => by omega)
    exact this
theorem uns_le (s : Nat) : uns s ≤ 12 := by
  unfold uns
  have : ∀ n, sm (fun v => if s.testBit v then 0 else 1) n ≤ n := by
    intro n
    induction n with
    | zero => exact Nat.le_refl _
    | succ n ih => simp only [sm]; split <;> omega
  exact this 12
theorem brings7b {p q : Nat} (hp : p < 12) (hq : q < 12) (hpq : p ≠ q) : ∀ (fu : Nat) (f : Nat → Int32) (sn : Int32), 2 - fr f q < fu → WF f → fr f p = 2 → ∃ (b : Int32) (f' : Nat → Int32) (sn' : Int32), FX7_brings_h23 (nI p) (nI q) fu f sn = some (b, f', sn') ∧ Carry f p q b f' := by
  intro fu
  induction fu with
  | zero => intro _ _ h; omega
  | succ fu ih =>
    intro f sn hfu hw h2
    show ∃ (b : Int32) (f' : Nat → Int32) (sn' : Int32), FX7_brings_b23 (nI p) (nI q) (FX7_brings_h23 (nI p) (nI q) fu) f sn = some (b, f', sn') ∧ Carry f p q b f'
    unfold FX7_brings_b23
    rw [hasBoth_v hq]
    simp only [Option.bind_some]
    have lq := fr_le f q
    by_cases h : fr f q = 2
    · rw [if_pos h, if_neg (show ¬ (1 : Int32) = 0 by decide)]
      exact ⟨1, f, sn, rfl, Keep.rf hw, Or.inl ⟨rfl, h2, h⟩⟩
    · rw [if_neg h, if_pos rfl, shl1 (by omega)]
      have p4 : 2 ^ p < 4096 := Nat.pow_lt_pow_right (a := 2) (n := 12) (by decide) hp
      obtain ⟨b, f1, s1, e, s4, smo, hres⟩ := frees_v hw 13 q (2 ^ p) hq p4 (by rw [Nat.testBit_two_pow]; simp [hpq]) (by have := uns_le (2 ^ p); omega)
      rw [e]
      simp only [Option.bind_some]
      rcases hres with ⟨rfl, g1, g2, g3⟩ | ⟨rfl, rfl, g1, g2, g3⟩
      · rw [if_neg (show ¬ (1 : Int32) = 0 by decide)]
        have fp : fr f1 p = fr f p := by
          unfold fr fe
          rw [g3 (2 * p) (by rw [show 2 * p / 2 = p by omega, Nat.testBit_two_pow]; simp), g3 (2 * p + 1) (by rw [show (2 * p + 1) / 2 = p by omega, Nat.testBit_two_pow]; simp)]
        obtain ⟨b, f', sn', e2, c1, c2⟩ := ih f1 (nI s1) (by omega) g1.1 (by omega)
        exact ⟨b, f', sn', e2, g1.trans c1, c2.elim Or.inl (fun h => Or.inr ⟨h.1, g1.tight h.2⟩)⟩
      · rw [if_pos rfl]
        refine ⟨0, f1, nI s1, rfl, Keep.rf hw, Or.inr ⟨rfl, ?_⟩⟩
        have np : ∀ v, (2 ^ p).testBit v = false ↔ v ≠ p := fun v => by rw [Nat.testBit_two_pow]; simp; exact ⟨fun h e => h e.symm, fun h e => h e.symm⟩
        refine closed_tight hp hq hpq (fun v => s1.testBit v) (smo p (by rw [Nat.testBit_two_pow]; simp)) g1 (fun k hk hx => ?_) (fun v hv hx a1 a2 => g2 v hx ((np v).mpr a1) a2) (by omega)
        by_cases hkp : k / 2 = p
        · left
          obtain ⟨z1, z2⟩ := fr2 h2
          rcases (show k = 2 * p ∨ k = 2 * p + 1 by omega) with rfl | rfl
          · exact z1
          · exact z2
        · rcases g3 k hk hx ((np _).mpr hkp) with a | ⟨w, a, b, c⟩
          · exact Or.inl a
          · right; rw [b, clp (by omega)]; exact c
theorem brings7_h {p q : Nat} (hp : p < 12) (hq : q < 12) (hpq : p ≠ q) : ∀ (fu : Nat) (f : Nat → Int32) (sn : Int32), 2 - fr f p < fu → WF f → ∃ (b : Int32) (f' : Nat → Int32) (sn' : Int32), FX7_brings_h0 (nI p) (nI q) fu f sn = some (b, f', sn') ∧ Carry f p q b f' := by
  intro fu
  induction fu with
  | zero => intro _ _ h; omega
  | succ fu ih =>
    intro f sn hfu hw
    show ∃ (b : Int32) (f' : Nat → Int32) (sn' : Int32), FX7_brings_b0 (nI p) (nI q) (FX7_brings_h0 (nI p) (nI q) fu) f sn = some (b, f', sn') ∧ Carry f p q b f'
    unfold FX7_brings_b0
    rw [hasBoth_v hp]
    simp only [Option.bind_some]
    have lp := fr_le f p
    by_cases h : fr f p = 2
    · rw [if_pos h, if_neg (show ¬ (1 : Int32) = 0 by decide)]
      exact brings7b hp hq hpq 5000 f sn (by omega) hw h
    · rw [if_neg h, if_pos rfl]
      obtain ⟨b, f1, s1, e, s4, smo, hres⟩ := frees_v hw 13 p 0 hp (by decide) (by simp) (by have := uns_le 0; omega)
      have e' : FX7_frees 13 (nI p) f 0 = some (b, f1, nI s1) := e
      rw [e']
      simp only [Option.bind_some]
      rcases hres with ⟨rfl, g1, g2, g3⟩ | ⟨rfl, rfl, g1, g2, g3⟩
      · rw [if_neg (show ¬ (1 : Int32) = 0 by decide)]
        obtain ⟨b, f', sn', e2, c1, c2⟩ := ih f1 (nI s1) (by omega) g1.1
        exact ⟨b, f', sn', e2, g1.trans c1, c2.elim Or.inl (fun h => Or.inr ⟨h.1, g1.tight h.2⟩)⟩
      · rw [if_pos rfl]
        refine ⟨0, f1, nI s1, rfl, Keep.rf hw, Or.inr ⟨rfl, ?_⟩⟩
        -- the pins reached, and q beside them
        have a := laid_sum f1 (fun v => s1.testBit v)
        have cR : cnt f1 (fun v => s1.testBit v) = sm (fun k => if f1 k = -1 then 0 else if s1.testBit (k / 2) then 1 else 0) 24 := by
          unfold cnt
          apply sm_congr
          intro k hk
          unfold lf
          by_cases h5 : f1 k = -1
          · simp [h5]
          · rw [if_neg h5, if_neg h5]
            by_cases h6 : s1.testBit (k / 2) = true
            · rcases g3 k hk h6 (by simp) with x | ⟨w, x, y, z⟩
              · exact absurd x h5
              · rw [y, clp (by omega)]; simp [h6, z]
            · simp [h6]
        have d1 := sm_one (g := fun v => if s1.testBit v then fr f1 v else 0) (h := fun _ => 0) hp (fun v hv hne => by
          by_cases e2 : s1.testBit v = true
          · simp [e2, g2 v e2 (by simp) hne]
          · simp [e2])
        have d3 : sm (fun _ => 0) 12 = 0 := sm_zero (fun _ _ => rfl)
        simp only [g1, if_true] at d1
        have mono : cnt f1 (fun v => s1.testBit v) ≤ cnt f1 (fun v => s1.testBit v || decide (v = q)) := by
          unfold cnt
          apply sm_le
          intro k _
          unfold lf
          by_cases h5 : f1 k = -1
          · simp [h5]
          · rw [if_neg h5, if_neg h5]
            by_cases h6 : s1.testBit (k / 2) = true <;> by_cases h7 : s1.testBit (f1 k).toNatClampNeg = true <;> simp [h6, h7]
        have szq : sz (fun v => s1.testBit v || decide (v = q)) ≤ sz (fun v => s1.testBit v) + 1 := by
          show sm (fun v => if s1.testBit v || decide (v = q) then 1 else 0) 12 ≤ sm (fun v => if s1.testBit v then 1 else 0) 12 + 1
          have z1 := sm_one (g := fun v => if s1.testBit v || decide (v = q) then 1 else 0) (h := fun v => if s1.testBit v then 1 else 0) hq (fun v _ hne => by simp [hne])
          have z2 : (if (s1.testBit q || decide (q = q)) = true then 1 else 0) ≤ 1 := by split <;> omega
          omega
        refine ⟨fun v => s1.testBit v || decide (v = q), by simp [g1], by simp, ?_⟩
        omega
theorem brings7 {p q : Nat} (hp : p < 12) (hq : q < 12) (hpq : p ≠ q) {f : Nat → Int32} (hw : WF f) (sn : Int32) : ∃ (b : Int32) (f' : Nat → Int32) (sn' : Int32), FX7_brings (nI p) (nI q) f sn = some (b, f', sn') ∧ Carry f p q b f' :=
  brings7_h hp hq hpq 5000 f sn (by omega) hw
