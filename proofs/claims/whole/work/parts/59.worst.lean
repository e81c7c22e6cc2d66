/-! worst -/
theorem seek2_h {n nb : Nat} {br : Nat → Nat × Nat} {les gre : Nat → Int32} (hB : Br n nb br les gre) (b pn : Int32) : ∀ (fu a : Nat) (near : Nat → Int32) , a ≤ n → n - a < fu → (∀ p, p < a → near p = nI (nm (bl br nb) p)) → ∃ near', (∀ v, v < n → near' v = nI (nm (bl br nb) v)) ∧ FX3_seekWorst_h2 (nI n) (nI nb) les gre fu (nI a) near b pn = FX3_seekWorst_h39 (nI n) (nI nb) les gre 5000 0 0 1 near' b 0 := by
  intro fu
  induction fu with
  | zero => intro a _ _ h; omega
  | succ fu ih =>
    intro a near ha hf hN
    have h12 := hB.1
    show ∃ near', _ ∧ FX3_seekWorst_b2 (nI n) (nI nb) les gre (FX3_seekWorst_h2 (nI n) (nI nb) les gre fu) (nI a) near b pn = _
    unfold FX3_seekWorst_b2
    by_cases h : n ≤ a
    · rw [if_pos (nI_le h (by omega))]
      exact ⟨near, fun p hp => hN p (by omega), rfl⟩
    · rw [if_neg (nI_ge (by omega) (by omega)), nb6_v hB (by omega)]
      simp only [Option.bind_some]
      rw [gi (show a < 12 by omega) (by decide), clp (by omega), nI_1]
      refine ih (a + 1) _ (by omega) (by omega) (fun p hp => ?_)
      by_cases e : p = a
      · subst e; exact updS
      · rw [updN e]; exact hN p (by omega)
theorem mw68 {n nb : Nat} {br : Nat → Nat × Nat} {low high : Nat → Int32} (hB : Br n nb br low high) (p1 : Int32) {S : Nat} (hS : S < 2 ^ 12) (hc : 2 ≤ pc S 24) {V V' : Nat → Prop} (hV : ∀ X, V' X ↔ V X ∨ X = S) (hlt : ∀ X, V X → X < S) {b : Int32} {T : Nat} (hBS : BS (bl br nb) V b T) (k30 : Int32 → Int32 → Int32 → Option Int32) : ∀ (fu a : Nat), a ≤ nb → nb - a < fu → ∃ b' T', FX7_worst_h68 p1 (nI n) (nI nb) low high k30 fu (nI T) b (nI S) (nI (pc S 24)) (3 - 2 * nI (pc S 24) + nI (ic (bl br a) (fun v => S.testBit v))) (nI a) = k30 (nI T') b' (nI (S + 1)) ∧ BS (bl br nb) V' b' T' := by
  intro fu
  have h24 := hB.2.1
  have h12 := hB.1
  have hl : (bl br nb).length ≤ 24 := by rw [bl_len]; exact h24
  have hT12 : T < 2 ^ 12 := by
    rcases hBS with ⟨h1, _⟩ | ⟨h1, _⟩
    · rw [h1]; decide
    · exact h1
  induction fu with
  | zero => intro a _ h; omega
  | succ fu ih =>
    intro a ha hf
    show ∃ b' T', FX7_worst_b68 p1 (nI n) (nI nb) low high k30 (FX7_worst_h68 p1 (nI n) (nI nb) low high k30 fu) (nI T) b (nI S) (nI (pc S 24)) _ (nI a) = _ ∧ _
    unfold FX7_worst_b68 FX7_worst_b139 FX7_worst_b145
    by_cases h : nb ≤ a
    · have : a = nb := by omega
      subst this
      have c12 : pc S 24 ≤ 12 := by rw [pc12 hS]; exact pc_le _ _
      have iL := iS_le (bl br a) S
      have eo : 3 - 2 * nI (pc S 24) + nI (ic (bl br a) (fun v => S.testBit v)) = oI (vS (bl br a) S) := oI_m (i := iS (bl br a) S) (by omega) c12
      rw [if_pos (nI_le (Nat.le_refl _) (by omega)), eo, nI_1]
      by_cases t0 : T = 0
      · subst t0
        rw [if_pos (show nI 0 = 0 from rfl)]
        exact ⟨_, _, rfl, hBS.new hV hc hS (Or.inl rfl)⟩
      · have n0 : ¬ nI T = (0 : Int32) := fun e => t0 ((nI_eq (b := 0) (by omega) (by decide)).mp e)
        rw [if_neg n0]
        have ⟨eb, lt⟩ : b = oI (vS (bl br a) T) ∧ T < S := by
          rcases hBS with ⟨h1, _⟩ | ⟨_, _, h3, h4, _⟩
          · exact absurd h1 t0
          · exact ⟨h4, hlt T h3⟩
        have v1 := vS_lt hl S
        have v2 := vS_lt hl T
        have new := fun hb => hBS.new hV hc hS (Or.inr hb)
        have old := hBS.old hV t0
        by_cases c1 : vS (bl br a) S < vS (bl br a) T
        · rw [if_pos (by rw [eb]; exact (oI_lt v1 v2).mpr c1)]
          exact ⟨_, _, rfl, old (by unfold bt; omega)⟩
        · rw [if_neg (by rw [eb]; exact fun e => c1 ((oI_lt v1 v2).mp e))]
          by_cases c2 : vS (bl br a) S = vS (bl br a) T
          · rw [if_pos (by rw [eb, c2]), bits_v hT12]
            simp only [Option.bind_some]
            have q2 := pc_le T 24
            by_cases c3 : pc S 24 < pc T 24
            · rw [if_pos (nI_lt c3 (by omega))]
              exact ⟨_, _, rfl, new (Or.inr ⟨c2, Or.inl c3⟩)⟩
            · rw [if_neg (nI_nlt (by omega) (by omega))]
              exact ⟨_, _, rfl, old (by unfold bt; omega)⟩
          · rw [if_neg (by rw [eb]; exact fun e => c2 ((oI_eq v1 v2).mp e))]
            exact ⟨_, _, rfl, new (Or.inl (by omega))⟩
    · obtain ⟨b1, b2, b3, b4⟩ := hB.2.2 a (by omega)
      rw [if_neg (nI_ge (by omega) (by omega)), gi (show a < 24 by omega) (by decide), gi (show a < 24 by omega) (by decide), clp (by omega), b3, b4, bit2 (by omega) (by omega) (by omega), nI_1]
      have go := ih (a + 1) (by omega) (by omega)
      have e : ic (bl br (a + 1)) (fun v => S.testBit v) = ic (bl br a) (fun v => S.testBit v) + if S.testBit (br a).1 && S.testBit (br a).2 then 1 else 0 := by
        show ic (br a :: bl br a) _ = _
        rw [ic_cons]
      rw [e, ← nI_add, ← Int32.add_assoc] at go
      exact go
theorem mw30 {n nb : Nat} {br : Nat → Nat × Nat} {low high : Nat → Int32} (hB : Br n nb br low high) (p1 : Int32) : ∀ (fu a : Nat) (b : Int32) (T : Nat), a ≤ 2 ^ n → 2 ^ n - a < fu → BS (bl br nb) (fun S => S < a) b T → ∃ b' T', FX7_worst_h30 p1 (nI n) (nI nb) low high fu (nI T) b (nI a) = some (if p1 = 0 then 1000 + b' else nI T') ∧ BS (bl br nb) (fun S => S < 2 ^ n) b' T' := by
  intro fu
  have h24 := hB.2.1
  have h12 := hB.1
  have p12 : 2 ^ n ≤ 2 ^ 12 := Nat.pow_le_pow_right (by decide) h12
  induction fu with
  | zero => intro a _ _ _ h; omega
  | succ fu ih =>
    intro a b T ha hf hBS
    show ∃ b' T', FX7_worst_b30 p1 (nI n) (nI nb) low high (FX7_worst_h30 p1 (nI n) (nI nb) low high fu) (nI T) b (nI a) = _ ∧ _
    unfold FX7_worst_b30 FX7_worst_b145
    rw [shl1 (by omega)]
    by_cases h : 2 ^ n ≤ a
    · have e : a = 2 ^ n := by omega
      rw [if_pos (nI_le h (by omega))]
      rw [e] at hBS
      refine ⟨b, T, ?_, hBS⟩
      by_cases c : p1 = 0
      · rw [if_pos c, if_pos c]
      · rw [if_neg c, if_neg c]
    · rw [if_neg (nI_ge (by omega) (by omega)), bits_v (by omega)]
      simp only [Option.bind_some, nI_1]
      have hV : ∀ X, X < a + 1 ↔ X < a ∨ X = a := fun X => by omega
      have q := pc_le a 24
      by_cases c : 2 ≤ pc a 24
      · rw [if_pos (show (2 : Int32) ≤ nI (pc a 24) from nI_le c (by omega))]
        obtain ⟨b', T', e1, hB'⟩ := mw68 hB p1 (S := a) (by omega) c (V := fun S => S < a) (V' := fun S => S < a + 1) hV (fun X hX => hX) hBS (FX7_worst_h30 p1 (nI n) (nI nb) low high fu) 5000 0 (Nat.zero_le _) (by omega)
        have z : 3 - 2 * nI (pc a 24) + nI (ic (bl br 0) (fun v => a.testBit v)) = 3 - 2 * nI (pc a 24) := by
          show 3 - 2 * nI (pc a 24) + 0 = _
          simp
        rw [z] at e1
        have e1' : FX7_worst_h68 p1 (nI n) (nI nb) low high (FX7_worst_h30 p1 (nI n) (nI nb) low high fu) 5000 (nI T) b (nI a) (nI (pc a 24)) (3 - 2 * nI (pc a 24)) 0 = _ := e1
        rw [e1']
        exact ih (a + 1) b' T' (by omega) (by omega) hB'
      · rw [if_neg (show ¬ (2 : Int32) ≤ nI (pc a 24) from nI_ge (show pc a 24 < 2 by omega) (by decide))]
        exact ih (a + 1) b T (by omega) (by omega) (hBS.few hV (by omega))
theorem worst_core (p1 : Int32) {n nb : Nat} {pins bars : Int32} {names les gre : Nat → Int32} {mpins mbars : Int32} {mname mlow mhigh : Nat → Int32} (hF : FrR n nb pins bars names les gre mpins mbars mname mlow mhigh) (near : Nat → Int32) (a b : Int32) :
    ∃ (u : Int32 × (Nat → Int32) × Int32 × Int32) (v : Int32), FX6_worst p1 pins bars les gre near a b = some u ∧ FX7_worst p1 mpins mbars mlow mhigh = some v ∧ u.1 = v := by
  obtain ⟨br, hB6, hB7, inj⟩ := hF.br
  obtain ⟨h1, h2, rfl, rfl, rfl, rfl, h7, h8, h9⟩ := hF
  unfold FX6_worst FX7_worst
  rw [isIn_v]
  have two : (p1 = 0 ∨ p1 = 1) ∨ (¬ p1 = 0 ∧ ¬ p1 = 1) := by
    by_cases x : p1 = 0
    · exact Or.inl (Or.inl x)
    · by_cases y : p1 = 1
      · exact Or.inl (Or.inr y)
      · exact Or.inr ⟨x, y⟩
  rcases two with two | ⟨x, y⟩
  · have e3 : (if p1 < 0 then (0 : Int32) else if 1 < p1 then 0 else 1) = 1 := by rcases two with rfl | rfl <;> rfl
    rw [e3]
    simp only [Option.bind_some, if_neg (show ¬ (1 : Int32) = 0 by decide)]
    have e4 : ∀ {α : Type} (X Y : Option α), (if p1 = 0 then X else if p1 = 1 then X else Y) = X := by
      intro α X Y
      rcases two with rfl | rfl <;> simp
    rw [e4]
    unfold FX6_worst_b12
    by_cases n2 : 2 ≤ n
    · rw [if_pos (show (2 : Int32) ≤ nI n from nI_le n2 (by omega)), if_pos (show (2 : Int32) ≤ nI n from nI_le n2 (by omega))]
      have p4 : 4 ≤ 2 ^ n := Nat.pow_le_pow_right (n := 2) (by decide) n2
      have p12 : 2 ^ n ≤ 2 ^ 12 := Nat.pow_le_pow_right (by decide) h1
      have hw : WL (bl br nb) := fun e he => by obtain ⟨i, hi, rfl⟩ := bl_mem.mp he; exact hB6.ok i hi
      have hd : ∀ m, m ≤ nb → ND (bl br m) := by
        intro m
        induction m with
        | zero => intro _; trivial
        | succ m ih =>
          intro hm
          refine ⟨?_, ih (by omega)⟩
          cases x : adj (bl br m) (br m).1 (br m).2
          · rfl
          · exfalso
            rcases adj_mem x with y | y
            · obtain ⟨i, hi, e⟩ := bl_mem.mp y
              have := inj m i (by omega) (by omega) e
              omega
            · obtain ⟨i, hi, e⟩ := bl_mem.mp y
              have q1 := hB6.2.2 i (by omega)
              have q2 := hB6.2.2 m (by omega)
              rw [← e] at q1
              have := q1.1
              simp only at this
              omega
      obtain ⟨near', hN, e6⟩ := seek2_h hB6 a b 5000 0 near (Nat.zero_le _) (by omega) (fun p hp => by omega)
      obtain ⟨b6, T6, r6, B6⟩ := seek_h h1 hw (hd nb (Nat.le_refl _)) (by rw [bl_len]; exact h2) (nI nb) les gre hN 5000 1 a 0 (Nat.le_refl _) (by omega) (by omega) (Or.inl ⟨rfl, fun S ⟨j, j1, j2⟩ => by
        have : j = 0 := by omega
        rw [j2, this]; decide⟩)
      obtain ⟨b7, T7, r7, B7⟩ := mw30 hB7 p1 5000 0 0 0 (Nat.zero_le _) (by omega) (Or.inl ⟨rfl, fun S hS => by omega⟩)
      have i0 : iS (bl br nb) (gr (1 - 1)) = 0 := by
        show ic (bl br nb) (fun v => Nat.testBit 0 v) = 0
        unfold ic
        rw [List.countP_eq_zero]
        intro e _
        simp
      rw [i0] at r6
      have r6' : FX3_seekWorst_h39 (nI n) (nI nb) les gre 5000 0 0 1 near' a 0 = some (near', b6, nI T6) := r6
      have e6' : FX3_seekWorst near a b (nI n) (nI nb) les gre = some (near', b6, nI T6) := e6.trans r6'
      have r7' : FX7_worst_h30 p1 (nI n) (nI nb) mlow mhigh 5000 0 0 0 = some (if p1 = 0 then 1000 + b7 else nI T7) := r7
      rw [e6', r7']
      simp only [Option.bind_some]
      obtain ⟨eb, eT⟩ := B6.uniq B7 (fun X => by
        constructor
        · rintro ⟨j, j1, rfl⟩; exact gr_lt j1
        · intro hX; exact ⟨grI X, grI_lt hX, (gr_grI (by omega)).symm⟩) (S0 := 3) ⟨grI 3, grI_lt (by omega), (gr_grI (by decide)).symm⟩ (by decide)
      rw [eb, eT]
      by_cases c : p1 = 0
      · rw [if_pos c]
        exact ⟨_, _, rfl, rfl, by rw [if_pos c]⟩
      · rw [if_neg c]
        exact ⟨_, _, rfl, rfl, by rw [if_neg c]⟩
    · have n2' : ¬ (2 : Int32) ≤ nI n := nI_ge (show n < 2 by omega) (by decide)
      rw [if_neg n2', if_neg n2']
      exact ⟨_, _, rfl, rfl, rfl⟩
  · have e3 : (if p1 < 0 then (0 : Int32) else if 1 < p1 then 0 else 1) = 0 := by
      by_cases x0 : p1 < 0
      · rw [if_pos x0]
      · rw [if_neg x0]
        obtain ⟨k, hk, rfl⟩ := nI_of x0
        rw [if_pos]
        refine nI_lt (a := 1) ?_ hk
        rcases Nat.eq_zero_or_pos k with rfl | h0
        · exact absurd rfl x
        · rcases Nat.eq_or_lt_of_le h0 with h1 | h1
          · exact absurd (by rw [← h1]; rfl) y
          · exact h1
    rw [e3]
    simp only [Option.bind_some, if_neg x, if_neg y]
    exact ⟨_, _, rfl, rfl, rfl⟩
