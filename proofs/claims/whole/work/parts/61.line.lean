/-! the line -/
def LN (wd : Nat → List Nat) (br : Nat → Nat × Nat) : Nat → List Nat
  | 0 => []
  | a + 1 => LN wd br a ++ ((if a = 0 then [] else [32]) ++ (wd (br a).1 ++ (45 :: wd (br a).2)))
theorem LN_len {wd : Nat → List Nat} {br : Nat → Nat × Nat} {m : Nat} (h : ∀ i, i < m → (wd (br i).1).length ≤ 4 ∧ (wd (br i).2).length ≤ 4) : ∀ a, a ≤ m → (LN wd br a).length ≤ 10 * a := by
  intro a
  induction a with
  | zero => intro _; simp [LN]
  | succ a ih =>
    intro ha
    have i := ih (by omega)
    have q := h a (by omega)
    simp only [LN, List.length_append, List.length_cons]
    have : (if a = 0 then [] else [32] : List Nat).length ≤ 1 := by split <;> simp
    omega
theorem LN_ext (wd : Nat → List Nat) (br : Nat → Nat × Nat) {a : Nat} : ∀ b, a ≤ b → ∃ t, LN wd br b = LN wd br a ++ t := by
  intro b
  induction b with
  | zero => intro h; rw [show a = 0 by omega]; exact ⟨[], by simp⟩
  | succ b ih =>
    intro h
    by_cases e : a = b + 1
    · rw [e]; exact ⟨[], by simp⟩
    · obtain ⟨t, ht⟩ := ih (by omega)
      simp only [LN]
      rw [ht]
      exact ⟨t ++ ((if b = 0 then [] else [32]) ++ (wd (br b).1 ++ (45 :: wd (br b).2))), by rw [List.append_assoc]⟩
theorem getD_app {l t : List Nat} {i : Nat} (h : i < l.length) : (l ++ t).getD i 0 = l.getD i 0 := by
  rw [List.getD_eq_getElem?_getD, List.getD_eq_getElem?_getD, List.getElem?_append_left h]
theorem getD_app2 {l t : List Nat} {i : Nat} (h : l.length ≤ i) : (l ++ t).getD i 0 = t.getD (i - l.length) 0 := by
  rw [List.getD_eq_getElem?_getD, List.getD_eq_getElem?_getD, List.getElem?_append_right h]
/-- what is answered of a line -/
def LQ (p1 : Int32) (l : List Nat) (r : Int32) : Prop := (p1 = -1 → r = nI l.length) ∧ (∀ i, i < l.length → p1 = nI i → r = nI (l.getD i 0)) ∧ (¬ p1 = -1 → (∀ i, i < l.length → ¬ p1 = nI i) → r = -1)
theorem bsz_v {n nb : Nat} {br : Nat → Nat × Nat} {les gre names : Nat → Int32} (hB : Br n nb br les gre) {wd : Nat → List Nat} (hwd : ∀ p, p < n → Wd (wd p) ∧ names p = nI (pk (wd p))) {a : Nat} (ha : a < nb) : FX0_barSize (nI a) names les gre = some (nI ((wd (br a).1).length + 1 + (wd (br a).2).length)) := by
  unfold FX0_barSize
  have h12 := hB.1
  have h24 := hB.2.1
  obtain ⟨b1, b2, b3, b4⟩ := hB.2.2 a ha
  obtain ⟨x1, x2⟩ := hwd (br a).1 (by omega)
  obtain ⟨y1, y2⟩ := hwd (br a).2 (by omega)
  rw [gi (show a < 24 by omega) (by decide), clp (by omega), b3, let_v (by omega) x1 x2]
  simp only [Option.bind_some]
  rw [gi (show a < 24 by omega) (by decide), b4, let_v (by omega) y1 y2]
  simp only [Option.bind_some]
  rw [nI_1, nI_add]
theorem blt_v {n nb : Nat} {br : Nat → Nat × Nat} {les gre names : Nat → Int32} (hB : Br n nb br les gre) {wd : Nat → List Nat} (hwd : ∀ p, p < n → Wd (wd p) ∧ names p = nI (pk (wd p))) {a : Nat} (ha : a < nb) {i : Nat} (hi : i < (wd (br a).1).length + 1 + (wd (br a).2).length) : FX0_barLetter (nI a) (nI i) names les gre = some (nI ((wd (br a).1 ++ (45 :: wd (br a).2)).getD i 0)) := by
  unfold FX0_barLetter
  have h12 := hB.1
  have h24 := hB.2.1
  obtain ⟨b1, b2, b3, b4⟩ := hB.2.2 a ha
  obtain ⟨x1, x2⟩ := hwd (br a).1 (by omega)
  obtain ⟨y1, y2⟩ := hwd (br a).2 (by omega)
  have l1 := x1.2.1
  have l2 := y1.2.1
  rw [gi (show a < 24 by omega) (by decide), clp (by omega), b3, let_v (by omega) x1 x2]
  simp only [Option.bind_some]
  by_cases c : (wd (br a).1).length ≤ i
  · rw [if_pos (nI_le c (by omega)), getD_app2 c]
    by_cases e : i = (wd (br a).1).length
    · rw [if_pos (by rw [e]), e, Nat.sub_self]
      rfl
    · rw [if_neg (fun x => e ((nI_eq (by omega) (by omega)).mp x)), gi (show a < 24 by omega) (by decide), b4]
      have ei : nI i - nI (wd (br a).1).length - 1 = nI (i - (wd (br a).1).length - 1) := by
        have := nI_ac2 (wd (br a).1).length (i - (wd (br a).1).length)
        rw [nI_add, show i - (wd (br a).1).length + (wd (br a).1).length = i by omega] at this
        rw [this, sub1I (by omega)]
      rw [ei, ltr_v (by omega) y1 y2 (by omega), if_pos (by omega)]
      simp only [Option.bind_some]
      rw [show i - (wd (br a).1).length = (i - (wd (br a).1).length - 1) + 1 by omega]
      simp
  · rw [if_neg (nI_ge (by omega) (by omega)), gi (show a < 24 by omega) (by decide), ltr_v (by omega) x1 x2 (by omega), if_pos (by omega), getD_app (by omega)]
    rfl
theorem ln6_h {n nb : Nat} {br : Nat → Nat × Nat} {les gre names : Nat → Int32} (hB : Br n nb br les gre) {wd : Nat → List Nat} (hwd : ∀ p, p < n → Wd (wd p) ∧ names p = nI (pk (wd p))) (p1 : Int32) : ∀ (fu a : Nat), a ≤ nb → nb - a < fu → (∀ i, i < (LN wd br a).length → ¬ p1 = nI i) → ∃ r, FX6_line_h4 p1 (nI nb) names les gre fu (nI (LN wd br a).length) (nI a) = some r ∧ LQ p1 (LN wd br nb) r := by
  intro fu
  have h12 := hB.1
  have h24 := hB.2.1
  have hlen := LN_len (wd := wd) (br := br) (m := nb) (fun i hi => by
    obtain ⟨b1, b2, _⟩ := hB.2.2 i hi
    exact ⟨(hwd (br i).1 (by omega)).1.2.1, (hwd (br i).2 (by omega)).1.2.1⟩)
  induction fu with
  | zero => intro a _ h; omega
  | succ fu ih =>
    intro a ha hf hno
    have la := hlen a ha
    show ∃ r, FX6_line_b4 p1 (nI nb) names les gre (FX6_line_h4 p1 (nI nb) names les gre fu) (nI (LN wd br a).length) (nI a) = _ ∧ _
    unfold FX6_line_b4 FX6_line_b30 FX6_line_b65
    by_cases h : nb ≤ a
    · have : a = nb := by omega
      subst this
      rw [if_pos (nI_le (Nat.le_refl _) (by omega))]
      by_cases c : p1 = -1
      · rw [if_pos c]
        exact ⟨_, rfl, fun _ => rfl, fun i hi e => absurd e (hno i hi), fun x => absurd c x⟩
      · rw [if_neg c]
        exact ⟨_, rfl, fun x => absurd x c, fun i hi e => absurd e (hno i hi), fun _ _ => rfl⟩
    · have haN : a < nb := by omega
      have la1 := hlen (a + 1) haN
      rw [if_neg (nI_ge haN (by omega)), bsz_v hB hwd haN]
      simp only [Option.bind_some, nI_1]
      obtain ⟨t, ht⟩ := LN_ext wd br (a := a + 1) nb haN
      have eL : LN wd br (a + 1) = LN wd br a ++ ((if a = 0 then [] else [32]) ++ (wd (br a).1 ++ (45 :: wd (br a).2))) := rfl
      -- the bar itself, beginning at q
      have bar : ∀ q : Nat, q = (LN wd br a).length + (if a = 0 then [] else [32] : List Nat).length → (∀ i, i < q → ¬ p1 = nI i) → ∃ r, (if p1 < nI q then FX6_line_h4 p1 (nI nb) names les gre fu (nI q + nI ((wd (br a).1).length + 1 + (wd (br a).2).length)) (nI (a + 1)) else if nI q + nI ((wd (br a).1).length + 1 + (wd (br a).2).length) ≤ p1 then FX6_line_h4 p1 (nI nb) names les gre fu (nI q + nI ((wd (br a).1).length + 1 + (wd (br a).2).length)) (nI (a + 1)) else (FX0_barLetter (nI a) (p1 - nI q) names les gre).bind (fun r4 => some r4)) = some r ∧ LQ p1 (LN wd br nb) r := by
        intro q hq hnq
        have l1 : (LN wd br (a + 1)).length = q + ((wd (br a).1).length + 1 + (wd (br a).2).length) := by
          rw [eL, hq]
          simp only [List.length_append, List.length_cons]
          omega
        rw [nI_add, ← l1]
        by_cases neg : p1 < 0
        · have lt : p1 < nI q := by
            rw [Int32.lt_iff_toInt_lt] at neg ⊢
            rw [nI_toInt (by omega)]
            have : (0 : Int32).toInt = 0 := by decide
            omega
          rw [if_pos lt]
          exact ih (a + 1) haN (by omega) (fun i _ e => by rw [e] at neg; exact absurd neg (nI_nlt (b := 0) (Nat.zero_le i) (by omega)))
        · obtain ⟨i, hi, rfl⟩ := nI_of neg
          have qi : q ≤ i := by
            by_cases c : q ≤ i
            · exact c
            · exact absurd rfl (hnq i (by omega))
          rw [if_neg (nI_nlt qi (by omega))]
          by_cases c : (LN wd br (a + 1)).length ≤ i
          · rw [if_pos (nI_le c (by omega))]
            exact ih (a + 1) haN (by omega) (fun j hj e => by have := (nI_eq (by omega) (by omega)).mp e; omega)
          · rw [if_neg (nI_ge (by omega) (by omega))]
            have ei : nI i - nI q = nI (i - q) := by
              have := nI_ac2 q (i - q)
              rw [nI_add, show i - q + q = i by omega] at this
              exact this
            rw [ei, blt_v hB hwd haN (by omega)]
            have val : (LN wd br nb).getD i 0 = (wd (br a).1 ++ (45 :: wd (br a).2)).getD (i - q) 0 := by
              rw [ht, getD_app (by omega), eL, getD_app2 (by omega), getD_app2 (by omega)]
              congr 1
              omega
            have ln : (LN wd br (a + 1)).length ≤ (LN wd br nb).length := by rw [ht, List.length_append]; omega
            refine ⟨_, rfl, fun e => absurd e (nI_nm1 (by omega)), fun j hj e => ?_, fun _ x => absurd rfl (x i (by omega))⟩
            have lnb := hlen nb (Nat.le_refl _)
            have : i = j := (nI_eq (by omega) (by omega)).mp e
            subst this
            rw [val]
      by_cases a0 : a = 0
      · rw [if_pos (show nI a ≤ (0 : Int32) by rw [a0]; decide)]
        exact bar _ (by rw [if_pos a0]; rfl) hno
      · rw [if_neg (show ¬ nI a ≤ (0 : Int32) from nI_ge (show 0 < a by omega) (by omega))]
        by_cases c : p1 = nI (LN wd br a).length
        · rw [if_pos c]
          have ln : (LN wd br (a + 1)).length ≤ (LN wd br nb).length := by rw [ht, List.length_append]; omega
          have l1 : (LN wd br a).length < (LN wd br (a + 1)).length := by
            rw [eL, if_neg a0]
            simp only [List.length_append, List.length_cons]
            omega
          have lnb := hlen nb (Nat.le_refl _)
          refine ⟨_, rfl, fun e => ?_, fun j hj e => ?_, fun _ x => absurd c (x _ (by omega))⟩
          · rw [e] at c; exact absurd c.symm (nI_nm1 (by omega))
          · rw [c] at e
            have : (LN wd br a).length = j := (nI_eq (by omega) (by omega)).mp e
            subst this
            rw [ht, getD_app l1, eL, getD_app2 (Nat.le_refl _), if_neg a0, Nat.sub_self]
            rfl
        · rw [if_neg c]
          exact bar _ (by rw [if_neg a0]; rfl) (fun i hi e => by
            by_cases x : i = (LN wd br a).length
            · rw [x] at e; exact c e
            · exact hno i (by omega) e)
/-- the reference's row of letters -/
def LW (line : Nat → Int32) (l : List Nat) : Prop := ∀ i, i < l.length → line i = nI (l.getD i 0)
theorem LW.put {line : Nat → Int32} {l : List Nat} (h : LW line l) (x : Nat) : LW (upd line l.length (nI x)) (l ++ [x]) := by
  intro i hi
  simp only [List.length_append, List.length_cons, List.length_nil] at hi
  by_cases e : i = l.length
  · subst e
    rw [updS, getD_app2 (Nat.le_refl _), Nat.sub_self]
    rfl
  · rw [updN e, getD_app (by omega)]
    exact h i (by omega)
theorem puts_v {line : Nat → Int32} {l : List Nat} (h : LW line l) (x : Nat) (hl : l.length < 240) : ∃ line', FX7_puts (nI x) (nI l.length) line = some (nI (l ++ [x]).length, line') ∧ LW line' (l ++ [x]) := by
  unfold FX7_puts
  rw [gi hl (by decide), clp (by omega), nI_1]
  refine ⟨_, ?_, h.put x⟩
  rw [List.length_append]
  rfl
theorem pn_h {mname : Nat → Int32} {p : Nat} (hp : p < 12) {w : List Nat} (hw : Wd w) (e : ∀ i, i < 4 → mname (4 * p + i) = nI (w.getD i 0)) {l : List Nat} (hl : l.length + 4 ≤ 240) : ∀ (fu a : Nat) (line : Nat → Int32), a ≤ w.length → 4 - a < fu → LW line (l ++ w.take a) → ∃ line', FX7_putsName_h2 (nI p) mname fu (nI a) (nI (l ++ w.take a).length) line = some (nI (l ++ w).length, line') ∧ LW line' (l ++ w) := by
  intro fu
  have w4 := hw.2.1
  induction fu with
  | zero => intro a _ _ h; omega
  | succ fu ih =>
    intro a line ha hf hL
    show ∃ line', FX7_putsName_b2 (nI p) mname (FX7_putsName_h2 (nI p) mname fu) (nI a) _ line = _ ∧ _
    unfold FX7_putsName_b2
    rw [lof_v hp hw e]
    simp only [Option.bind_some]
    by_cases h : w.length ≤ a
    · have ea : w.take a = w := List.take_of_length_le h
      rw [if_pos (nI_le h (by omega)), ea]
      rw [ea] at hL
      exact ⟨line, rfl, hL⟩
    · rw [if_neg (nI_ge (by omega) (by omega)), mul4, nI_add, gi (show 4 * p + a < 48 by omega) (by decide), clp (by omega), e a (by omega), nI_1]
      have tl : (w.take a).length = a := by rw [List.length_take]; omega
      obtain ⟨line', e1, h1⟩ := puts_v hL (w.getD a 0) (by rw [List.length_append, tl]; omega)
      rw [e1]
      simp only [Option.bind_some]
      have et : l ++ w.take a ++ [w.getD a 0] = l ++ w.take (a + 1) := by
        rw [List.append_assoc, List.take_add_one, List.getElem?_eq_getElem (show a < w.length by omega), List.getD_eq_getElem?_getD, List.getElem?_eq_getElem (show a < w.length by omega)]
        rfl
      rw [et] at h1 ⊢
      exact ih (a + 1) line' (by omega) (by omega) h1
theorem pn_v {mname : Nat → Int32} {p : Nat} (hp : p < 12) {w : List Nat} (hw : Wd w) (e : ∀ i, i < 4 → mname (4 * p + i) = nI (w.getD i 0)) {l : List Nat} (hl : l.length + 4 ≤ 240) {line : Nat → Int32} (hL : LW line l) : ∃ line', FX7_putsName (nI p) (nI l.length) mname line = some (nI (l ++ w).length, line') ∧ LW line' (l ++ w) := by
  have := pn_h hp hw e hl 5000 0 line (Nat.zero_le _) (by omega) (by simpa using hL)
  rw [List.take_zero, List.append_nil] at this
  exact this
theorem ln7_h {n nb : Nat} {br : Nat → Nat × Nat} {low high mname : Nat → Int32} (hB : Br n nb br low high) {wd : Nat → List Nat} (hwd : ∀ p, p < n → Wd (wd p) ∧ ∀ i, i < 4 → mname (4 * p + i) = nI ((wd p).getD i 0)) (p1 : Int32) : ∀ (fu a : Nat) (line : Nat → Int32), a ≤ nb → nb - a < fu → LW line (LN wd br a) → ∃ r ld ln, FX7_line_h7 p1 (nI nb) mname low high fu (nI a) (nI (LN wd br a).length) line = some (r, ld, ln) ∧ LQ p1 (LN wd br nb) r := by
  intro fu
  have h12 := hB.1
  have h24 := hB.2.1
  have hlen := LN_len (wd := wd) (br := br) (m := nb) (fun i hi => by
    obtain ⟨b1, b2, _⟩ := hB.2.2 i hi
    exact ⟨(hwd (br i).1 (by omega)).1.2.1, (hwd (br i).2 (by omega)).1.2.1⟩)
  induction fu with
  | zero => intro a _ _ h; omega
  | succ fu ih =>
    intro a line ha hf hL
    have la := hlen a ha
    show ∃ r ld ln, FX7_line_b7 p1 (nI nb) mname low high (FX7_line_h7 p1 (nI nb) mname low high fu) (nI a) (nI (LN wd br a).length) line = _ ∧ _
    unfold FX7_line_b7 FX7_line_b25
    by_cases h : nb ≤ a
    · have : a = nb := by omega
      subst this
      rw [if_pos (nI_le (Nat.le_refl _) (by omega))]
      by_cases c : p1 = -1
      · rw [if_pos c]
        exact ⟨_, _, _, rfl, fun _ => rfl, fun i hi e => by rw [c] at e; exact absurd e.symm (nI_nm1 (by omega)), fun x => absurd c x⟩
      · rw [if_neg c]
        rcases cases_lt p1 (n := (LN wd br a).length) (by omega) with ⟨i, hi, rfl⟩ | hn
        · rw [isInP_t hi (by omega)]
          simp only [Option.bind_some, if_neg (show ¬ (1 : Int32) = 0 by decide)]
          rw [gi (show i < 240 by omega) (by decide), clp (by omega), hL i hi]
          refine ⟨_, _, _, rfl, fun e => absurd e c, fun j hj e => ?_, fun _ x => absurd rfl (x i hi)⟩
          have : i = j := (nI_eq (by omega) (by omega)).mp e
          rw [this]
        · rw [isInP_f (by omega) hn]
          simp only [Option.bind_some, if_true]
          exact ⟨_, _, _, rfl, fun e => absurd e c, fun j hj e => absurd e (hn j hj), fun _ _ => rfl⟩
    · have haN : a < nb := by omega
      obtain ⟨b1, b2, b3, b4⟩ := hB.2.2 a haN
      obtain ⟨x1, x2⟩ := hwd (br a).1 (by omega)
      obtain ⟨y1, y2⟩ := hwd (br a).2 (by omega)
      have l1 := x1.2.1
      have l2 := y1.2.1
      rw [if_neg (nI_ge haN (by omega))]
      simp only [gi (show a < 24 by omega) (show 24 < 2 ^ 31 by decide), clp (show a < 2 ^ 31 by omega), nI_1, b3, b4]
      have rest : ∀ (l0 : List Nat) (line : Nat → Int32), l0 = LN wd br a ++ (if a = 0 then [] else [32]) → LW line l0 → ∃ r ld ln, ((FX7_putsName (nI (br a).1) (nI l0.length) mname line).bind (fun r2 => ((FX7_puts 45 r2.1 r2.2).bind (fun r3 => ((FX7_putsName (nI (br a).2) r3.1 mname r3.2).bind (fun r5 => (FX7_line_h7 p1 (nI nb) mname low high fu (nI (a + 1)) r5.1 r5.2))))))) = some (r, ld, ln) ∧ LQ p1 (LN wd br nb) r := by
        intro l0 line e0 hL0
        have ll : l0.length ≤ (LN wd br a).length + 1 := by
          rw [e0, List.length_append]
          have : (if a = 0 then [] else [32] : List Nat).length ≤ 1 := by split <;> simp
          omega
        obtain ⟨ln1, e1, h1⟩ := pn_v (by omega) x1 x2 (l := l0) (by omega) hL0
        rw [e1]
        simp only [Option.bind_some]
        have ll1 : (l0 ++ wd (br a).1).length ≤ l0.length + 4 := by rw [List.length_append]; omega
        obtain ⟨ln2, e2, h2⟩ := puts_v h1 45 (by omega)
        have e2' : FX7_puts 45 (nI (l0 ++ wd (br a).1).length) ln1 = _ := e2
        rw [e2']
        simp only [Option.bind_some]
        have ll2 : (l0 ++ wd (br a).1 ++ [45]).length ≤ l0.length + 5 := by rw [List.length_append]; simp only [List.length_cons, List.length_nil]; omega
        obtain ⟨ln3, e3, h3⟩ := pn_v (by omega) y1 y2 (l := l0 ++ wd (br a).1 ++ [45]) (by omega) h2
        rw [e3]
        simp only [Option.bind_some]
        have eL : l0 ++ wd (br a).1 ++ [45] ++ wd (br a).2 = LN wd br (a + 1) := by
          rw [e0]
          simp only [LN, List.append_assoc, List.cons_append, List.nil_append]
        rw [eL] at h3 ⊢
        exact ih (a + 1) ln3 haN (by omega) h3
      by_cases a0 : a = 0
      · rw [if_pos (show nI a ≤ (0 : Int32) by rw [a0]; decide)]
        exact rest (LN wd br a) line (by rw [if_pos a0, List.append_nil]) hL
      · rw [if_neg (show ¬ nI a ≤ (0 : Int32) from nI_ge (show 0 < a by omega) (by omega))]
        obtain ⟨ln0, e0, h0⟩ := puts_v hL 32 (by omega)
        have e0' : FX7_puts 32 (nI (LN wd br a).length) line = _ := e0
        rw [e0']
        simp only [Option.bind_some]
        exact rest (LN wd br a ++ [32]) ln0 (by rw [if_neg a0]) h0
theorem line_core (p1 : Int32) {n nb : Nat} {pins bars : Int32} {names les gre : Nat → Int32} {mpins mbars : Int32} {mname mlow mhigh : Nat → Int32} (hF : FrR n nb pins bars names les gre mpins mbars mname mlow mhigh) (ld : Int32) (ln : Nat → Int32) :
    ∃ (u : Int32) (v : Int32 × Int32 × (Nat → Int32)), FX6_line p1 bars names les gre = some u ∧ FX7_line p1 mbars ld mname mlow mhigh ln = some v ∧ u = v.1 := by
  obtain ⟨br, hB6, hB7, _⟩ := hF.br
  obtain ⟨wd, hwd⟩ := hF.name
  obtain ⟨h1, h2, rfl, rfl, rfl, rfl, h7, h8, h9⟩ := hF
  obtain ⟨r, e6, q6⟩ := ln6_h hB6 (wd := wd) (fun p hp => ⟨(hwd p hp).1, (hwd p hp).2.1⟩) p1 5000 0 (Nat.zero_le _) (by omega) (fun i hi => absurd hi (by simp [LN]))
  obtain ⟨r', ld', ln', e7, q7⟩ := ln7_h hB7 (wd := wd) (fun p hp => ⟨(hwd p hp).1, (hwd p hp).2.2⟩) p1 5000 0 ln (Nat.zero_le _) (by omega) (fun i hi => absurd hi (by simp [LN]))
  refine ⟨r, _, e6, e7, ?_⟩
  show r = r'
  by_cases c : p1 = -1
  · rw [q6.1 c, q7.1 c]
  · by_cases d : ∃ i, i < (LN wd br nb).length ∧ p1 = nI i
    · obtain ⟨i, i1, i2⟩ := d
      rw [q6.2.1 i i1 i2, q7.2.1 i i1 i2]
    · have d' : ∀ i, i < (LN wd br nb).length → ¬ p1 = nI i := fun i hi e => d ⟨i, hi, e⟩
      rw [q6.2.2 c d', q7.2.2 c d']
