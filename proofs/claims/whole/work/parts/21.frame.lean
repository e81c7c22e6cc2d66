/-! bars come and go; the image -/
theorem mnI {i j : Nat} (hi : i < 2 ^ 31) (hj : j < 2 ^ 31) : (if nI j < nI i then nI j else nI i) = nI (min i j) := by
  by_cases h : j < i
  · rw [if_pos (nI_lt h hi), Nat.min_eq_right (by omega)]
  · rw [if_neg (nI_nlt (by omega) hj), Nat.min_eq_left (by omega)]
theorem mxI {i j : Nat} (hi : i < 2 ^ 31) (hj : j < 2 ^ 31) : (if nI i < nI j then nI j else nI i) = nI (max i j) := by
  by_cases h : i < j
  · rw [if_pos (nI_lt h hj), Nat.max_eq_right (by omega)]
  · rw [if_neg (nI_nlt (by omega) hi), Nat.max_eq_left (by omega)]
theorem FrR.add {n nb i j : Nat} {pins bars : Int32} {names les gre : Nat → Int32} {mpins mbars : Int32} {mname mlow mhigh : Nat → Int32} (h : FrR n nb pins bars names les gre mpins mbars mname mlow mhigh) (hb : nb < 24) (hij : i < j) (hj : j < n) (hn : ∀ b, b < nb → ¬ (les b = nI i ∧ gre b = nI j)) : FrR n (nb + 1) pins (nI (nb + 1)) names (upd les nb (nI i)) (upd gre nb (nI j)) mpins (nI (nb + 1)) mname (upd mlow nb (nI i)) (upd mhigh nb (nI j)) := by
  obtain ⟨h1, h2, h3, h4, h5, h6, h7, h8, h9⟩ := h
  refine ⟨h1, by omega, h3, rfl, h5, rfl, ?_, ?_, h9⟩
  · intro b hb'
    by_cases e : b = nb
    · subst e
      exact ⟨i, j, hij, hj, updS, updS, updS, updS⟩
    · obtain ⟨p, q, a⟩ := h7 b (by omega)
      exact ⟨p, q, by rw [updN e, updN e, updN e, updN e]; exact a⟩
  · intro b c hb' hc e1 e2
    by_cases eb : b = nb <;> by_cases ec : c = nb
    · omega
    · subst eb
      rw [updS, updN ec] at e1 e2
      exact absurd ⟨e1.symm, e2.symm⟩ (hn c (by omega))
    · subst ec
      rw [updS, updN eb] at e1 e2
      exact absurd ⟨e1, e2⟩ (hn b (by omega))
    · rw [updN eb, updN ec] at e1 e2
      exact h8 b c (by omega) (by omega) e1 e2
theorem bar_core (p q : Int32) {n nb : Nat} {pins bars : Int32} {names les gre : Nat → Int32} {mpins mbars : Int32} {mname mlow mhigh : Nat → Int32} (h : FrR n nb pins bars names les gre mpins mbars mname mlow mhigh) :
    ∃ (r bars' : Int32) (les' gre' mlow' mhigh' : Nat → Int32) (nb' : Nat), FX6_bar p q pins bars les gre = some (r, bars', les', gre') ∧ FX7_bar p q mpins mbars mlow mhigh = some (r, bars', mlow', mhigh') ∧ FrR n nb' pins bars' names les' gre' mpins bars' mname mlow' mhigh' := by
  have hq := h.eqs
  have h' := h
  obtain ⟨h1, h2, rfl, rfl, rfl, rfl, h7, h8, h9⟩ := h
  unfold FX6_bar FX7_bar
  rcases two_cases p q (n := n) (by omega) with ⟨e1, e2⟩ | ⟨i, j, hi, hj, hij, rfl, rfl, e1, e2⟩
  · rw [e1, e2]
    exact ⟨-2, _, les, gre, mlow, mhigh, nb, rfl, rfl, h'⟩
  · rw [e1, e2]
    obtain ⟨r, a1, a2, a3⟩ := place (nI i) (nI j) h2 hq
    simp only [Option.bind_some, if_neg (show ¬ (1 : Int32) = 0 by decide), a1, a2]
    rw [mnI (by omega) (by omega), mxI (by omega) (by omega)] at a3
    rcases a3 with ⟨rfl, a3⟩ | ⟨b, b1, rfl, b2⟩
    · rw [if_pos rfl, if_pos (show (-1 : Int32) < 0 by decide)]
      unfold FX0_addBar
      by_cases hb : nb < 24
      · rw [if_pos (show nI nb < 24 from nI_lt hb (by decide)), if_neg (show ¬ nI nb = 24 from fun e => by have := (nI_eq (b := 24) (by omega) (by decide)).mp e; omega)]
        rw [gi hb (by decide), gi hb (by decide), gi hb (by decide), gi hb (by decide), clp (by omega), mnI (by omega) (by omega), mxI (by omega) (by omega), nI_1, nI_pred]
        refine ⟨_, _, _, _, _, _, nb + 1, rfl, rfl, ?_⟩
        rcases Nat.lt_or_ge i j with hlt | hge
        · rw [Nat.min_eq_left (by omega), Nat.max_eq_right (by omega)] at a3 ⊢
          exact FrR.add h' hb hlt hj a3
        · rw [Nat.min_eq_right (by omega), Nat.max_eq_left (by omega)] at a3 ⊢
          exact FrR.add h' hb (by omega) hi a3
      · have : nb = 24 := by omega
        subst this
        rw [if_neg (show ¬ nI 24 < 24 by decide), if_pos (show nI 24 = 24 by decide)]
        exact ⟨_, _, _, _, _, _, 24, rfl, rfl, h'⟩
    · rw [if_neg (nI_nm1 (by omega)), if_neg (nI_pos (by omega))]
      exact ⟨-3, _, les, gre, mlow, mhigh, nb, rfl, rfl, h'⟩
/-- one bar taken out of a row -/
def shl (f : Nat → Int32) (i nb : Nat) : Nat → Int32 := fun k => if i ≤ k ∧ k + 1 < nb then f (k + 1) else f k
theorem shl_step {f : Nat → Int32} {i nb : Nat} (h : i + 1 < nb) : shl (upd f i (f (i + 1))) (i + 1) nb = shl f i nb := by
  funext k
  unfold shl
  by_cases h1 : i + 1 ≤ k ∧ k + 1 < nb
  · rw [if_pos h1, if_pos (by omega), updN (by omega)]
  · rw [if_neg h1]
    by_cases h2 : k = i
    · subst h2
      rw [updS, if_pos (by omega)]
    · rw [updN h2, if_neg (by omega)]
theorem shl_end {f : Nat → Int32} {i nb : Nat} (h : nb ≤ i + 1) : shl f i nb = f := by
  funext k
  unfold shl
  rw [if_neg (by omega)]
theorem drop6 (p1 : Int32) {nb : Nat} (hb : nb ≤ 24) : ∀ (f i : Nat) (les gre : Nat → Int32), i < nb → nb - i < f → FX0_dropBar_h2 p1 f (nI i) (nI nb) les gre = some (nI (nb - 1), shl les i nb, shl gre i nb) := by
  intro f
  induction f with
  | zero => intro i _ _ _ h; omega
  | succ f ih =>
    intro i les gre hi hf
    show FX0_dropBar_b2 p1 (FX0_dropBar_h2 p1 f) (nI i) (nI nb) les gre = _
    unfold FX0_dropBar_b2
    rw [nI_1]
    by_cases h : nb ≤ i + 1
    · rw [if_pos (nI_le h (by omega)), shl_end h, shl_end h, sub1I (by omega)]
    · rw [if_neg (nI_ge (by omega) (by omega)), gi (by omega) (by decide), gi (by omega) (by decide), gi (by omega) (by decide), gi (by omega) (by decide), clp (by omega), clp (by omega), ih (i + 1) _ _ (by omega) (by omega), shl_step (by omega), shl_step (by omega)]
theorem drop7 (p1 p2 v : Int32) {nb : Nat} (hb : nb ≤ 24) : ∀ (f i : Nat) (l3 : Int32) (les gre : Nat → Int32), i < nb → nb - i < f → FX7_off_h39 p1 p2 v f l3 (nI i) (nI (nb - 1)) les gre = some (l3, nI (nb - 1), shl les i nb, shl gre i nb) := by
  intro f
  induction f with
  | zero => intro i _ _ _ _ h; omega
  | succ f ih =>
    intro i l3 les gre hi hf
    show FX7_off_b39 p1 p2 v (FX7_off_h39 p1 p2 v f) l3 (nI i) (nI (nb - 1)) les gre = _
    unfold FX7_off_b39
    rw [nI_1]
    by_cases h : nb ≤ i + 1
    · rw [if_pos (nI_le (by omega) (by omega)), shl_end h, shl_end h]
    · rw [if_neg (nI_ge (by omega) (by omega)), gi (by omega) (by decide), gi (by omega) (by decide), gi (by omega) (by decide), gi (by omega) (by decide), clp (by omega), clp (by omega), ih (i + 1) _ _ _ (by omega) (by omega), shl_step (by omega), shl_step (by omega)]
theorem FrR.drop {n nb i : Nat} {pins bars : Int32} {names les gre : Nat → Int32} {mpins mbars : Int32} {mname mlow mhigh : Nat → Int32} (h : FrR n nb pins bars names les gre mpins mbars mname mlow mhigh) (hi : i < nb) : FrR n (nb - 1) pins (nI (nb - 1)) names (shl les i nb) (shl gre i nb) mpins (nI (nb - 1)) mname (shl mlow i nb) (shl mhigh i nb) := by
  obtain ⟨h1, h2, h3, h4, h5, h6, h7, h8, h9⟩ := h
  refine ⟨h1, by omega, h3, rfl, h5, rfl, ?_, ?_, h9⟩
  · intro b hb
    unfold shl
    by_cases c : i ≤ b ∧ b + 1 < nb
    · simp only [if_pos c]
      exact h7 (b + 1) (by omega)
    · simp only [if_neg c]
      exact h7 b (by omega)
  · intro b c hb hc e1 e2
    unfold shl at e1 e2
    by_cases c1 : i ≤ b ∧ b + 1 < nb <;> by_cases c2 : i ≤ c ∧ c + 1 < nb
    · simp only [if_pos c1, if_pos c2] at e1 e2
      have := h8 _ _ (by omega) (by omega) e1 e2
      omega
    · simp only [if_pos c1, if_neg c2] at e1 e2
      have := h8 _ _ (by omega) (by omega) e1 e2
      omega
    · simp only [if_neg c1, if_pos c2] at e1 e2
      have := h8 _ _ (by omega) (by omega) e1 e2
      omega
    · simp only [if_neg c1, if_neg c2] at e1 e2
      exact h8 _ _ (by omega) (by omega) e1 e2
theorem off_core (p q : Int32) {n nb : Nat} {pins bars : Int32} {names les gre : Nat → Int32} {mpins mbars : Int32} {mname mlow mhigh : Nat → Int32} (h : FrR n nb pins bars names les gre mpins mbars mname mlow mhigh) :
    ∃ (r bars' : Int32) (les' gre' mlow' mhigh' : Nat → Int32) (nb' : Nat), FX6_off p q pins bars les gre = some (r, bars', les', gre') ∧ FX7_off p q mpins mbars mlow mhigh = some (r, bars', mlow', mhigh') ∧ FrR n nb' pins bars' names les' gre' mpins bars' mname mlow' mhigh' := by
  have hq := h.eqs
  have h' := h
  obtain ⟨h1, h2, rfl, rfl, rfl, rfl, h7, h8, h9⟩ := h
  unfold FX6_off FX7_off
  rcases two_cases p q (n := n) (by omega) with ⟨e1, e2⟩ | ⟨i, j, hi, hj, hij, rfl, rfl, e1, e2⟩
  · rw [e1, e2]
    exact ⟨-2, _, les, gre, mlow, mhigh, nb, rfl, rfl, h'⟩
  · rw [e1, e2]
    obtain ⟨r, a1, a2, a3⟩ := place (nI i) (nI j) h2 hq
    simp only [Option.bind_some, if_neg (show ¬ (1 : Int32) = 0 by decide), a1, a2]
    rcases a3 with ⟨rfl, a3⟩ | ⟨b, b1, rfl, b2⟩
    · rw [if_pos rfl, if_neg (show ¬ (0 : Int32) ≤ -1 by decide)]
      exact ⟨-3, _, les, gre, mlow, mhigh, nb, rfl, rfl, h'⟩
    · rw [if_neg (nI_nm1 (by omega)), if_pos (nI_pos' (by omega)), sub1I (by omega)]
      unfold FX0_dropBar
      rw [drop6 _ h2 5000 b _ _ b1 (by omega), drop7 _ _ _ h2 5000 b _ _ _ b1 (by omega)]
      exact ⟨_, _, _, _, _, _, nb - 1, rfl, rfl, h'.drop b1⟩
theorem between_core (p q : Int32) {n nb : Nat} {pins bars : Int32} {names les gre : Nat → Int32} {mpins mbars : Int32} {mname mlow mhigh : Nat → Int32} (h : FrR n nb pins bars names les gre mpins mbars mname mlow mhigh) :
    ∃ r : Int32, FX6_between p q pins bars les gre = some r ∧ FX7_between p q mpins mbars mlow mhigh = some r := by
  have hq := h.eqs
  obtain ⟨h1, h2, rfl, rfl, rfl, rfl, h7, h8, h9⟩ := h
  unfold FX6_between FX7_between
  rcases two_cases p q (n := n) (by omega) with ⟨e1, e2⟩ | ⟨i, j, hi, hj, hij, rfl, rfl, e1, e2⟩
  · rw [e1, e2]
    exact ⟨-2, rfl, rfl⟩
  · rw [e1, e2]
    obtain ⟨r, a1, a2, a3⟩ := place (nI i) (nI j) h2 hq
    exact ⟨r, by simp [a1], by simp [a2]⟩
/-- the whole of a frame taken over -/
theorem take_v (a1 a2 : Int32) (a3 a4 a5 : Nat → Int32) (w1 w2 : Int32) (w3 w4 w5 : Nat → Int32) : FX0_takeFrom a1 a2 a3 a4 a5 w1 w2 w3 w4 w5 = some (w1, w2, va_cpy w3 a3 0 0 12, va_cpy w4 a4 0 0 24, va_cpy w5 a5 0 0 24) := by
  unfold FX0_takeFrom
  rw [gd_t (by decide), gd_t (by decide), gd_t (by decide)]
  rfl
theorem cpy0 {f g : Nat → Int32} {n k : Nat} (h : k < n) : va_cpy f g 0 0 n k = f k := by
  rw [pk_cpy_in (Nat.zero_le _) (by omega)]
  simp
/-- the reference's loops that copy -/
theorem img49 (vp vb : Int32) (nm lo hi : Nat → Int32) : ∀ (f i : Nat) (ip ib : Int32) (iN iL iH : Nat → Int32) (ik : Int32), i ≤ 24 → 24 - i < f → ∃ iL' iH', FX7_image_h49 vp vb nm lo hi f (nI i) ip ib iN iL iH ik = some (vp, ip, ib, iN, iL', iH', ik) ∧ (∀ k, (k < i → iL' k = iL k ∧ iH' k = iH k) ∧ (i ≤ k → k < 24 → iL' k = lo k ∧ iH' k = hi k)) := by
  intro f
  induction f with
  | zero => intro i _ _ _ _ _ _ _ h; omega
  | succ f ih =>
    intro i ip ib iN iL iH ik hi' hf
    show ∃ iL' iH', FX7_image_b49 vp vb nm lo hi (FX7_image_h49 vp vb nm lo hi f) (nI i) ip ib iN iL iH ik = _ ∧ _
    unfold FX7_image_b49
    by_cases h : 24 ≤ i
    · rw [if_pos (show (24 : Int32) ≤ nI i from nI_le h (by omega))]
      exact ⟨iL, iH, rfl, fun k => ⟨fun _ => ⟨rfl, rfl⟩, fun h1 h2 => by omega⟩⟩
    · rw [if_neg (show ¬ (24 : Int32) ≤ nI i from nI_ge (show i < 24 by omega) (by decide)), gi (by omega) (by decide), gi (by omega) (by decide), gi (by omega) (by decide), gi (by omega) (by decide), clp (by omega), nI_1]
      obtain ⟨a, b, e, hk⟩ := ih (i + 1) ip ib iN (upd iL i (lo i)) (upd iH i (hi i)) ik (by omega) (by omega)
      refine ⟨a, b, e, fun k => ⟨fun h1 => ?_, fun h1 h2 => ?_⟩⟩
      · have := (hk k).1 (by omega)
        rwa [updN (by omega), updN (by omega)] at this
      · rcases Nat.eq_or_lt_of_le h1 with rfl | h1
        · have := (hk i).1 (by omega)
          rwa [updS, updS] at this
        · exact (hk k).2 h1 h2
theorem img23 (vp vb : Int32) (nm lo hi : Nat → Int32) : ∀ (f i : Nat) (ip ib : Int32) (iN iL iH : Nat → Int32) (ik : Int32), i ≤ 48 → 48 - i < f → ∃ iN' iL' iH', FX7_image_h23 vp vb nm lo hi f (nI i) ip ib iN iL iH ik = some (vp, ip, ib, iN', iL', iH', ik) ∧ (∀ k, (k < i → iN' k = iN k) ∧ (i ≤ k → k < 48 → iN' k = nm k)) ∧ ∀ k, k < 24 → iL' k = lo k ∧ iH' k = hi k := by
  intro f
  induction f with
  | zero => intro i _ _ _ _ _ _ _ h; omega
  | succ f ih =>
    intro i ip ib iN iL iH ik hi' hf
    show ∃ iN' iL' iH', FX7_image_b23 vp vb nm lo hi (FX7_image_h23 vp vb nm lo hi f) (nI i) ip ib iN iL iH ik = _ ∧ _
    unfold FX7_image_b23
    by_cases h : 48 ≤ i
    · rw [if_pos (show (48 : Int32) ≤ nI i from nI_le h (by omega))]
      obtain ⟨a, b, e, hk⟩ := img49 vp vb nm lo hi 5000 0 ip ib iN iL iH ik (by omega) (by omega)
      exact ⟨iN, a, b, e, fun k => ⟨fun _ => rfl, fun h1 h2 => by omega⟩, fun k hk' => (hk k).2 (Nat.zero_le _) hk'⟩
    · rw [if_neg (show ¬ (48 : Int32) ≤ nI i from nI_ge (show i < 48 by omega) (by decide)), gi (by omega) (by decide), gi (by omega) (by decide), clp (by omega), nI_1]
      obtain ⟨x, a, b, e, hk, hk2⟩ := ih (i + 1) ip ib (upd iN i (nm i)) iL iH ik (by omega) (by omega)
      refine ⟨x, a, b, e, fun k => ⟨fun h1 => ?_, fun h1 h2 => ?_⟩, hk2⟩
      · have := (hk k).1 (by omega)
        rwa [updN (by omega)] at this
      · rcases Nat.eq_or_lt_of_le h1 with rfl | h1
        · have := (hk i).1 (by omega)
          rwa [updS] at this
        · exact (hk k).2 h1 h2
theorem bck54 (jp jb : Int32) (nm lo hi : Nat → Int32) (jk : Int32) : ∀ (f i : Nat) (ip ib : Int32) (iN iL iH : Nat → Int32), i ≤ 24 → 24 - i < f → ∃ iL' iH', FX7_back_h54 jp jb nm lo hi jk f (nI i) ip ib iN iL iH = some (ip, ip, ib, iN, iL', iH') ∧ (∀ k, (k < i → iL' k = iL k ∧ iH' k = iH k) ∧ (i ≤ k → k < 24 → iL' k = lo k ∧ iH' k = hi k)) := by
  intro f
  induction f with
  | zero => intro i _ _ _ _ _ _ h; omega
  | succ f ih =>
    intro i ip ib iN iL iH hi' hf
    show ∃ iL' iH', FX7_back_b54 jp jb nm lo hi jk (FX7_back_h54 jp jb nm lo hi jk f) (nI i) ip ib iN iL iH = _ ∧ _
    unfold FX7_back_b54
    by_cases h : 24 ≤ i
    · rw [if_pos (show (24 : Int32) ≤ nI i from nI_le h (by omega))]
      exact ⟨iL, iH, rfl, fun k => ⟨fun _ => ⟨rfl, rfl⟩, fun h1 h2 => by omega⟩⟩
    · rw [if_neg (show ¬ (24 : Int32) ≤ nI i from nI_ge (show i < 24 by omega) (by decide)), gi (by omega) (by decide), gi (by omega) (by decide), gi (by omega) (by decide), gi (by omega) (by decide), clp (by omega), nI_1]
      obtain ⟨a, b, e, hk⟩ := ih (i + 1) ip ib iN (upd iL i (lo i)) (upd iH i (hi i)) (by omega) (by omega)
      refine ⟨a, b, e, fun k => ⟨fun h1 => ?_, fun h1 h2 => ?_⟩⟩
      · have := (hk k).1 (by omega)
        rwa [updN (by omega), updN (by omega)] at this
      · rcases Nat.eq_or_lt_of_le h1 with rfl | h1
        · have := (hk i).1 (by omega)
          rwa [updS, updS] at this
        · exact (hk k).2 h1 h2
theorem bck28 (jp jb : Int32) (nm lo hi : Nat → Int32) (jk : Int32) : ∀ (f i : Nat) (ip ib : Int32) (iN iL iH : Nat → Int32), i ≤ 48 → 48 - i < f → ∃ iN' iL' iH', FX7_back_h28 jp jb nm lo hi jk f (nI i) ip ib iN iL iH = some (ip, ip, ib, iN', iL', iH') ∧ (∀ k, (k < i → iN' k = iN k) ∧ (i ≤ k → k < 48 → iN' k = nm k)) ∧ ∀ k, k < 24 → iL' k = lo k ∧ iH' k = hi k := by
  intro f
  induction f with
  | zero => intro i _ _ _ _ _ _ h; omega
  | succ f ih =>
    intro i ip ib iN iL iH hi' hf
    show ∃ iN' iL' iH', FX7_back_b28 jp jb nm lo hi jk (FX7_back_h28 jp jb nm lo hi jk f) (nI i) ip ib iN iL iH = _ ∧ _
    unfold FX7_back_b28
    by_cases h : 48 ≤ i
    · rw [if_pos (show (48 : Int32) ≤ nI i from nI_le h (by omega))]
      obtain ⟨a, b, e, hk⟩ := bck54 jp jb nm lo hi jk 5000 0 ip ib iN iL iH (by omega) (by omega)
      exact ⟨iN, a, b, e, fun k => ⟨fun _ => rfl, fun h1 h2 => by omega⟩, fun k hk' => (hk k).2 (Nat.zero_le _) hk'⟩
    · rw [if_neg (show ¬ (48 : Int32) ≤ nI i from nI_ge (show i < 48 by omega) (by decide)), gi (by omega) (by decide), gi (by omega) (by decide), clp (by omega), nI_1]
      obtain ⟨x, a, b, e, hk, hk2⟩ := ih (i + 1) ip ib (upd iN i (nm i)) iL iH (by omega) (by omega)
      refine ⟨x, a, b, e, fun k => ⟨fun h1 => ?_, fun h1 h2 => ?_⟩, hk2⟩
      · have := (hk k).1 (by omega)
        rwa [updN (by omega)] at this
      · rcases Nat.eq_or_lt_of_le h1 with rfl | h1
        · have := (hk i).1 (by omega)
          rwa [updS] at this
        · exact (hk k).2 h1 h2
/-- FrR looks only at the pins and bars that are there -/
theorem FrR.congr {n nb : Nat} {pins bars : Int32} {names les gre : Nat → Int32} {mpins mbars : Int32} {mname mlow mhigh : Nat → Int32} {names' les' gre' mname' mlow' mhigh' : Nat → Int32} (h : FrR n nb pins bars names les gre mpins mbars mname mlow mhigh) (h1 : ∀ k, k < 12 → names' k = names k) (h2 : ∀ k, k < 24 → les' k = les k ∧ gre' k = gre k) (h3 : ∀ k, k < 48 → mname' k = mname k) (h4 : ∀ k, k < 24 → mlow' k = mlow k ∧ mhigh' k = mhigh k) : FrR n nb pins bars names' les' gre' mpins mbars mname' mlow' mhigh' := by
  obtain ⟨a1, a2, a3, a4, a5, a6, a7, a8, a9⟩ := h
  refine ⟨a1, a2, a3, a4, a5, a6, ?_, ?_, ?_⟩
  · intro b hb
    rw [(h2 b (by omega)).1, (h2 b (by omega)).2, (h4 b (by omega)).1, (h4 b (by omega)).2]
    exact a7 b hb
  · intro b c hb hc e1 e2
    rw [(h2 b (by omega)).1, (h2 c (by omega)).1] at e1
    rw [(h2 b (by omega)).2, (h2 c (by omega)).2] at e2
    exact a8 b c hb hc e1 e2
  · intro p hp
    obtain ⟨w, w1, w2, w3, w4, w5⟩ := a9 p hp
    exact ⟨w, w1, w2, w3, by rw [h1 p (by omega)]; exact w4, fun i hi => by rw [h3 _ (by omega)]; exact w5 i hi⟩
