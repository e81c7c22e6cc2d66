/-! the worst set, both sides -/
def oI (k : Nat) : Int32 := nI k - 21
theorem oI_lt {a b : Nat} (ha : a < 49) (hb : b < 49) : oI a < oI b ↔ a < b := by
  have c : ∀ a, a < 49 → ∀ b, b < 49 → (oI a < oI b ↔ a < b) := by decide +kernel
  exact c a ha b hb
theorem oI_eq {a b : Nat} (ha : a < 49) (hb : b < 49) : oI a = oI b ↔ a = b := by
  have c : ∀ a, a < 49 → ∀ b, b < 49 → (oI a = oI b ↔ a = b) := by decide +kernel
  exact c a ha b hb
theorem oI_c {i c : Nat} (hi : i ≤ 24) (hc : c ≤ 12) : nI i - (2 * nI c - 3) = oI (i + 24 - 2 * c) := by
  have d : ∀ i, i < 25 → ∀ c, c < 13 → nI i - (2 * nI c - 3) = oI (i + 24 - 2 * c) := by decide +kernel
  exact d i (by omega) c (by omega)
theorem oI_m {i c : Nat} (hi : i ≤ 24) (hc : c ≤ 12) : 3 - 2 * nI c + nI i = oI (i + 24 - 2 * c) := by
  have d : ∀ i, i < 25 → ∀ c, c < 13 → 3 - 2 * nI c + nI i = oI (i + 24 - 2 * c) := by decide +kernel
  exact d i (by omega) c (by omega)
theorem df_pos {a b : Nat} (ha : a ≤ 24) (hb : b ≤ 24) : (0 < nI a - nI b ↔ b < a) ∧ (nI a - nI b = 0 ↔ a = b) := by
  have d : ∀ a, a < 25 → ∀ b, b < 25 → (0 < nI a - nI b ↔ b < a) ∧ (nI a - nI b = 0 ↔ a = b) := by decide +kernel
  exact d a (by omega) b (by omega)
def vS (L : List (Nat × Nat)) (S : Nat) : Nat := iS L S + 24 - 2 * pc S 24
def bt (L : List (Nat × Nat)) (S T : Nat) : Prop := vS L T < vS L S ∨ (vS L S = vS L T ∧ (pc S 24 < pc T 24 ∨ (pc S 24 = pc T 24 ∧ S < T)))
/-- the best of those visited -/
def BS (L : List (Nat × Nat)) (V : Nat → Prop) (by' : Int32) (T : Nat) : Prop := (T = 0 ∧ ∀ S, V S → pc S 24 < 2) ∨ (T < 2 ^ 12 ∧ 2 ≤ pc T 24 ∧ V T ∧ by' = oI (vS L T) ∧ ∀ S, V S → 2 ≤ pc S 24 → S = T ∨ bt L T S)
theorem pc0 : pc 0 24 = 0 := by decide
theorem BS.few {L : List (Nat × Nat)} {V V' : Nat → Prop} {b : Int32} {T S : Nat} (h : BS L V b T) (hV : ∀ X, V' X ↔ V X ∨ X = S) (hS : pc S 24 < 2) : BS L V' b T := by
  rcases h with ⟨h1, h2⟩ | ⟨h1, h2, h3, h4, h5⟩
  · refine Or.inl ⟨h1, fun X hX => ?_⟩
    rcases (hV X).mp hX with x | rfl
    · exact h2 X x
    · exact hS
  · refine Or.inr ⟨h1, h2, (hV T).mpr (Or.inl h3), h4, fun X hX hc => ?_⟩
    rcases (hV X).mp hX with x | rfl
    · exact h5 X x hc
    · omega
theorem BS.new {L : List (Nat × Nat)} {V V' : Nat → Prop} {b : Int32} {T S : Nat} (h : BS L V b T) (hV : ∀ X, V' X ↔ V X ∨ X = S) (hS : 2 ≤ pc S 24) (h12 : S < 2 ^ 12) (hb : T = 0 ∨ bt L S T) : BS L V' (oI (vS L S)) S := by
  refine Or.inr ⟨h12, hS, (hV S).mpr (Or.inr rfl), rfl, fun X hX hc => ?_⟩
  rcases (hV X).mp hX with x | rfl
  · rcases h with ⟨h1, h2⟩ | ⟨h1, h2, h3, h4, h5⟩
    · have := h2 X x; omega
    · rcases hb with rfl | hb
      · rw [pc0] at h2; omega
      · rcases h5 X x hc with rfl | h6
        · exact Or.inr hb
        · right
          unfold bt at hb h6 ⊢
          omega
  · exact Or.inl rfl
theorem BS.old {L : List (Nat × Nat)} {V V' : Nat → Prop} {b : Int32} {T S : Nat} (h : BS L V b T) (hV : ∀ X, V' X ↔ V X ∨ X = S) (h0 : ¬ T = 0) (hb : ¬ bt L S T) : BS L V' b T := by
  rcases h with ⟨h1, h2⟩ | ⟨h1, h2, h3, h4, h5⟩
  · exact absurd h1 h0
  · refine Or.inr ⟨h1, h2, (hV T).mpr (Or.inl h3), h4, fun X hX hc => ?_⟩
    rcases (hV X).mp hX with x | rfl
    · exact h5 X x hc
    · by_cases e : X = T
      · exact Or.inl e
      · right
        unfold bt at hb ⊢
        omega
theorem BS.uniq {L : List (Nat × Nat)} {V V' : Nat → Prop} {b b' : Int32} {T T' : Nat} (h : BS L V b T) (h' : BS L V' b' T') (hV : ∀ X, V X ↔ V' X) {S0 : Nat} (h0 : V S0) (hc : 2 ≤ pc S0 24) : b = b' ∧ T = T' := by
  rcases h with ⟨h1, h2⟩ | ⟨h1, h2, h3, h4, h5⟩
  · have := h2 S0 h0; omega
  · rcases h' with ⟨g1, g2⟩ | ⟨g1, g2, g3, g4, g5⟩
    · have := g2 S0 ((hV S0).mp h0); omega
    · have e : T = T' := by
        rcases h5 T' ((hV T').mpr g3) g2 with x | x
        · exact x.symm
        · rcases g5 T ((hV T).mp h3) h2 with y | y
          · exact y
          · unfold bt at x y
            omega
      subst e
      exact ⟨by rw [h4, g4], rfl⟩
theorem iS_le (L : List (Nat × Nat)) (S : Nat) : iS L S ≤ L.length := List.countP_le_length
theorem vS_lt {L : List (Nat × Nat)} (hl : L.length ≤ 24) (S : Nat) : vS L S < 49 := by
  unfold vS
  have := iS_le L S
  omega
theorem weigh_v {L : List (Nat × Nat)} (hl : L.length ≤ 24) {V V' : Nat → Prop} {b : Int32} {T S : Nat} (h : BS L V b T) (hV : ∀ X, V' X ↔ V X ∨ X = S) (hS : 2 ≤ pc S 24) (h12 : S < 2 ^ 12) : ∃ b' T', FX3_weigh (nI S) (oI (vS L S)) b (nI T) = some (b', nI T') ∧ BS L V' b' T' := by
  have hT12 : T < 2 ^ 12 := by
    rcases h with ⟨h1, _⟩ | ⟨h1, _⟩
    · rw [h1]; decide
    · exact h1
  have q1 := pc_le S 24
  have q2 := pc_le T 24
  obtain ⟨d1, d2⟩ := df_pos (a := pc T 24) (b := pc S 24) q2 q1
  unfold FX3_weigh FX3_weigh_b49 FX3_weigh_b45 FX3_weigh_b50
  rw [bitCount_v (show T < 2 ^ 24 by omega), bitCount_v (show S < 2 ^ 24 by omega)]
  simp only [Option.bind_some]
  by_cases t0 : T = 0
  · subst t0
    have z : ∀ {α : Type} (X Y : α), (if nI 0 = 0 then X else Y) = X := fun X Y => if_pos rfl
    simp only [z, ite_self]
    exact ⟨_, _, rfl, h.new hV hS h12 (Or.inl rfl)⟩
  · have n0 : ¬ nI T = (0 : Int32) := fun e => t0 ((nI_eq (b := 0) (by omega) (by decide)).mp e)
    simp only [if_neg n0, if_neg (show ¬ (1 : Int32) = 0 by decide), if_true]
    have eb : b = oI (vS L T) := by
      rcases h with ⟨h1, _⟩ | ⟨_, _, _, h4, _⟩
      · exact absurd h1 t0
      · exact h4
    have v1 := vS_lt hl S
    have v2 := vS_lt hl T
    have new := fun hb => h.new hV hS h12 (Or.inr hb)
    have old := h.old hV t0
    by_cases c1 : vS L T < vS L S
    · rw [if_pos (by rw [eb]; exact (oI_lt v2 v1).mpr c1)]
      exact ⟨_, _, rfl, new (Or.inl c1)⟩
    · rw [if_neg (by rw [eb]; exact fun e => c1 ((oI_lt v2 v1).mp e))]
      by_cases c2 : vS L S = vS L T
      · rw [if_pos (by rw [eb, c2])]
        by_cases c3 : pc S 24 < pc T 24
        · rw [if_pos (d1.mpr c3)]
          exact ⟨_, _, rfl, new (Or.inr ⟨c2, Or.inl c3⟩)⟩
        · rw [if_neg (fun e => c3 (d1.mp e))]
          by_cases c4 : pc T 24 = pc S 24
          · rw [if_pos (d2.mpr c4)]
            by_cases c5 : T ≤ S
            · rw [if_pos (nI_le c5 (by omega))]
              exact ⟨_, _, rfl, old (by unfold bt; omega)⟩
            · rw [if_neg (nI_ge (by omega) (by omega))]
              exact ⟨_, _, rfl, new (Or.inr ⟨c2, Or.inr ⟨c4.symm, by omega⟩⟩)⟩
          · rw [if_neg (fun e => c4 (d2.mp e))]
            exact ⟨_, _, rfl, old (by unfold bt; omega)⟩
      · rw [if_neg (by rw [eb]; exact fun e => c2 ((oI_eq v1 v2).mp e))]
        exact ⟨_, _, rfl, old (by unfold bt; omega)⟩
theorem add_neg (a b : Int32) : a + b + -b = a := by
  rw [← Int32.sub_eq_add_neg, Int32.add_sub_cancel]
theorem seek_h {n : Nat} (hn : n ≤ 12) {L : List (Nat × Nat)} (hw : WL L) (hd : ND L) (hl : L.length ≤ 24) (nb : Int32) (les gre : Nat → Int32) {near : Nat → Int32} (hN : ∀ v, v < n → near v = nI (nm L v)) : ∀ (fu a : Nat) (b : Int32) (T : Nat), 1 ≤ a → a ≤ 2 ^ n → 2 ^ n - a < fu → BS L (fun S => ∃ j, j < a ∧ S = gr j) b T → ∃ b' T', FX3_seekWorst_h39 (nI n) nb les gre fu (nI (gr (a - 1))) (nI (iS L (gr (a - 1)))) (nI a) near b (nI T) = some (near, b', nI T') ∧ BS L (fun S => ∃ j, j < 2 ^ n ∧ S = gr j) b' T' := by
  intro fu
  have p12 : 2 ^ n ≤ 2 ^ 12 := Nat.pow_le_pow_right (by decide) hn
  induction fu with
  | zero => intro a _ _ _ _ h; omega
  | succ fu ih =>
    intro a b T h1 ha hf hB
    show ∃ b' T', FX3_seekWorst_b39 (nI n) nb les gre (FX3_seekWorst_h39 (nI n) nb les gre fu) (nI (gr (a - 1))) (nI (iS L (gr (a - 1)))) (nI a) near b (nI T) = _ ∧ _
    unfold FX3_seekWorst_b39 FX3_seekWorst_b97 FX3_seekWorst_b122
    rw [shl1 (by omega)]
    by_cases h : 2 ^ n ≤ a
    · have e : a = 2 ^ n := by omega
      rw [if_pos (nI_le h (by omega))]
      rw [e] at hB
      exact ⟨b, T, rfl, hB⟩
    · obtain ⟨g1, g2⟩ := gray (i := a) (by omega) (by omega)
      rw [if_neg (nI_ge (by omega) (by omega)), lb_v (show a < 2 ^ 12 by omega)]
      simp only [Option.bind_some]
      have ga : gr a < 2 ^ n := gr_lt (by omega)
      have gp : gr (a - 1) < 2 ^ n := gr_lt (by omega)
      generalize hv : lbr a 11 0 = v at g1 g2
      have pv : 2 ^ v = gr (a - 1) ^^^ gr a := by
        rw [← g2, ← Nat.xor_assoc, Nat.xor_self, Nat.zero_xor]
      have vn : v < n := by
        have : 2 ^ v < 2 ^ n := by rw [pv]; exact Nat.xor_lt_two_pow gp ga
        exact (Nat.pow_lt_pow_iff_right (by decide)).mp this
      have n12 := nm_lt L v
      have p2v : 2 ^ v < 2 ^ 12 := Nat.pow_lt_pow_right (by decide) g1
      have an : nm L v &&& gr (a - 1) < 2 ^ 12 := Nat.lt_of_le_of_lt Nat.and_le_left n12
      rw [gi (show v < 12 by omega) (by decide), clp (by omega), hN v vn, andI (by omega) (by omega), bitCount_v (by omega)]
      simp only [Option.bind_some]
      rw [shl1 (by omega), xorI (by omega) (by omega), g2, bitI (by omega) (by omega), bitCount_v (by omega)]
      simp only [Option.bind_some, nI_1]
      have bx : (gr a).testBit v = !(gr (a - 1)).testBit v := by
        rw [← g2, Nat.testBit_xor, Nat.testBit_two_pow]
        simp
      have iL : ∀ S, iS L S ≤ 24 := fun S => by
        have := iS_le L S
        omega
      have hV : ∀ X, (∃ j, j < a + 1 ∧ X = gr j) ↔ (∃ j, j < a ∧ X = gr j) ∨ X = gr a := by
        intro X
        constructor
        · rintro ⟨j, j1, j2⟩
          by_cases e : j = a
          · right; rw [j2, e]
          · exact Or.inl ⟨j, by omega, j2⟩
        · rintro (⟨j, j1, j2⟩ | x)
          · exact ⟨j, by omega, j2⟩
          · exact ⟨a, by omega, x⟩
      have c12 : pc (gr a) 24 ≤ 12 := by rw [pc12 (by omega)]; exact pc_le _ _
      have c12' := c12
      have go : ∀ x : Int32, x = nI (iS L (gr a)) → ∃ b' T', (if nI (pc (gr a) 24) < (2 : Int32) then FX3_seekWorst_h39 (nI n) nb les gre fu (nI (gr a)) x (nI (a + 1)) near b (nI T) else (FX3_weigh (nI (gr a)) (x - (2 * nI (pc (gr a) 24) - 3)) b (nI T)).bind (fun r4 => FX3_seekWorst_h39 (nI n) nb les gre fu (nI (gr a)) x (nI (a + 1)) near r4.1 r4.2)) = some (near, b', nI T') ∧ BS L (fun S => ∃ j, j < 2 ^ n ∧ S = gr j) b' T' := by
        intro x hx
        subst hx
        by_cases few : pc (gr a) 24 < 2
        · rw [if_pos (show nI (pc (gr a) 24) < (2 : Int32) from nI_lt few (by decide))]
          exact ih (a + 1) b T (by omega) (by omega) (by omega) (hB.few hV few)
        · rw [if_neg (show ¬ nI (pc (gr a) 24) < (2 : Int32) from nI_nlt (show 2 ≤ pc (gr a) 24 by omega) (by omega)), oI_c (iL _) c12']
          obtain ⟨b', T', e1, hB'⟩ := weigh_v hl hB hV (by omega) (by omega)
          have e1' : FX3_weigh (nI (gr a)) (oI (iS L (gr a) + 24 - 2 * pc (gr a) 24)) b (nI T) = some (b', nI T') := e1
          rw [e1']
          simp only [Option.bind_some]
          exact ih (a + 1) b' T' (by omega) (by omega) (by omega) hB'
      cases hb : (gr (a - 1)).testBit v
      · rw [hb] at bx
        rw [bx]
        simp only [Bool.not_false, if_true, if_pos (show nI 1 = 1 from rfl)]
        refine go _ ?_
        rw [nI_add, ← g2, iS_come hw hd g1 hb]
      · rw [hb] at bx
        rw [bx]
        simp only [Bool.not_true, Bool.false_eq_true, if_false, if_neg (show ¬ nI 0 = 1 by decide)]
        refine go _ ?_
        have back : gr a ^^^ 2 ^ v = gr (a - 1) := by rw [← g2, Nat.xor_assoc, Nat.xor_self, Nat.xor_zero]
        have cm := iS_come hw hd g1 bx
        rw [back] at cm
        have same : nm L v &&& gr (a - 1) = nm L v &&& gr a := by
          apply Nat.eq_of_testBit_eq
          intro w
          rw [Nat.testBit_and, Nat.testBit_and, ← g2, Nat.testBit_xor, Nat.testBit_two_pow, nm_bit]
          by_cases e : v = w
          · subst e
            have : adj L v v = false := by
              cases x : adj L v v
              · rfl
              · rcases adj_mem x with y | y <;> exact absurd rfl (hw _ y).1
            simp [this]
          · simp [e]
        rw [cm, same, ← nI_add]
        exact add_neg _ _
