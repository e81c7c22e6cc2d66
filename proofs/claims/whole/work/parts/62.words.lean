/-! words of the tape -/
def lettr (x : Int32) : Prop := ¬ x < 97 ∧ ¬ 122 < x
theorem lettr_n {x : Int32} (h : lettr x) : ∃ k : Nat, 97 ≤ k ∧ k ≤ 122 ∧ x = nI k := by
  obtain ⟨h1, h2⟩ := h
  have h0 : ¬ x < 0 := fun e => h1 (Int32.lt_trans e (by decide))
  obtain ⟨k, hk, rfl⟩ := nI_of h0
  refine ⟨k, ?_, ?_, rfl⟩
  · by_cases c : 97 ≤ k
    · exact c
    · exact absurd (show nI k < (97 : Int32) from nI_lt (show k < 97 by omega) (by decide)) h1
  · by_cases c : k ≤ 122
    · exact c
    · exact absurd (show (122 : Int32) < nI k from nI_lt (show 122 < k by omega) hk) h2
theorem lettr_i {k : Nat} (h1 : 97 ≤ k) (h2 : k ≤ 122) : lettr (nI k) := ⟨nI_nlt h1 (by omega), nI_nlt h2 (by decide)⟩
noncomputable def sk (m : Nat → Int32) : Nat → Nat → Nat
  | 0, p => p
  | f + 1, p => if m p = 32 then sk m f (p + 1) else p
noncomputable def le (m : Nat → Int32) : Nat → Nat → Nat
  | 0, p => p
  | f + 1, p => @ite _ (lettr (m p)) (Classical.propDecidable _) (le m f (p + 1)) p
theorem sk_bd (m : Nat → Int32) : ∀ (f p : Nat), p ≤ sk m f p ∧ sk m f p ≤ p + f := by
  intro f
  induction f with
  | zero => intro p; simp [sk]
  | succ f ih =>
    intro p
    simp only [sk]
    have := ih (p + 1)
    split <;> omega
theorem le_bd (m : Nat → Int32) : ∀ (f p : Nat), p ≤ le m f p ∧ le m f p ≤ p + f ∧ (∀ i, p ≤ i → i < le m f p → lettr (m i)) ∧ (le m f p < p + f → ¬ lettr (m (le m f p))) := by
  intro f
  induction f with
  | zero => intro p; simp only [le]; exact ⟨Nat.le_refl _, Nat.le_refl _, fun i _ _ => by omega, fun h => by omega⟩
  | succ f ih =>
    intro p
    simp only [le]
    have := ih (p + 1)
    by_cases c : lettr (m p)
    · rw [if_pos c]
      refine ⟨by omega, by omega, fun i h1 h2 => ?_, fun h => this.2.2.2 (by omega)⟩
      by_cases e : i = p
      · rw [e]; exact c
      · exact this.2.2.1 i (by omega) h2
    · rw [if_neg c]
      exact ⟨by omega, by omega, fun i h1 h2 => by omega, fun _ => c⟩
theorem le_t {m : Nat → Int32} {t p : Nat} (h : p < t) (c : lettr (m p)) : le m (t - p) p = le m (t - (p + 1)) (p + 1) := by
  rw [show t - p = (t - (p + 1)) + 1 by omega]
  simp only [le]
  rw [if_pos c]
theorem le_f {m : Nat → Int32} {t p : Nat} (h : p < t) (c : ¬ lettr (m p)) : le m (t - p) p = p := by
  rw [show t - p = (t - (p + 1)) + 1 by omega]
  simp only [le]
  rw [if_neg c]
/-- the letters from s on -/
noncomputable def wk (m : Nat → Int32) (s : Nat) : Nat → List Nat
  | 0 => []
  | k + 1 => wk m s k ++ [(m (s + k)).toNatClampNeg]
theorem wk_len (m : Nat → Int32) (s k : Nat) : (wk m s k).length = k := by
  induction k with
  | zero => rfl
  | succ k ih => simp only [wk, List.length_append, List.length_cons, List.length_nil]; omega
theorem pk_app (l : List Nat) (x : Nat) : pk (l ++ [x]) = pk l * 256 + x := by
  unfold pk
  rw [List.foldl_append]
  rfl
theorem wk_getD {m : Nat → Int32} {s k : Nat} (h : ∀ i, i < k → lettr (m (s + i))) : ∀ i, i < k → nI ((wk m s k).getD i 0) = m (s + i) := by
  induction k with
  | zero => intro i hi; omega
  | succ k ih =>
    intro i hi
    have ih' := ih (fun i hi => h i (by omega))
    simp only [wk]
    by_cases e : i = k
    · subst e
      obtain ⟨x, x1, x2, x3⟩ := lettr_n (h i hi)
      rw [getD_app2 (by rw [wk_len]; exact Nat.le_refl _), wk_len, Nat.sub_self]
      show nI (m (s + i)).toNatClampNeg = m (s + i)
      rw [x3, clp (by omega)]
    · rw [getD_app (by rw [wk_len]; omega)]
      exact ih' i (by omega)
theorem wk_mem {m : Nat → Int32} {s k : Nat} (h : ∀ i, i < k → lettr (m (s + i))) : ∀ x, x ∈ wk m s k → 97 ≤ x ∧ x ≤ 122 := by
  induction k with
  | zero => intro x hx; cases hx
  | succ k ih =>
    intro x hx
    simp only [wk, List.mem_append, List.mem_cons, List.not_mem_nil, or_false] at hx
    rcases hx with hx | hx
    · exact ih (fun i hi => h i (by omega)) x hx
    · obtain ⟨y, y1, y2, y3⟩ := lettr_n (h k (by omega))
      rw [hx, y3, clp (by omega)]
      exact ⟨y1, y2⟩
theorem wk_wd {m : Nat → Int32} {s k : Nat} (h : ∀ i, i < k → lettr (m (s + i))) (h1 : 1 ≤ k) (h4 : k ≤ 4) : Wd (wk m s k) := by
  refine ⟨fun e => ?_, by rw [wk_len]; exact h4, wk_mem h⟩
  have := wk_len m s k
  rw [e] at this
  simp at this
  omega
theorem pk_lt3 {m : Nat → Int32} {s k : Nat} (h : ∀ i, i < k → lettr (m (s + i))) (h3 : k ≤ 3) : pk (wk m s k) < 2 ^ 23 := by
  rcases Nat.eq_zero_or_pos k with rfl | hp
  · exact (by decide : pk [] < 2 ^ 23)
  · have w := wk_wd h hp (by omega)
    have l := wk_len m s k
    rcases w.cases with ⟨a, e, _⟩ | ⟨a, b, e, _⟩ | ⟨a, b, c, e, _⟩ | ⟨a, b, c, d, e, _⟩
    · rw [e]; simp [pk]; omega
    · rw [e]; simp [pk]; omega
    · rw [e]; simp [pk]; omega
    · rw [e] at l; simp at l; omega
theorem or256 {a x : Nat} (hx : x < 256) : a * 256 ||| x = a * 256 + x := by
  have := Nat.two_pow_add_eq_or_of_lt (i := 8) (b := x) (by simpa using hx) a
  rw [show (2 : Nat) ^ 8 = 256 from rfl, Nat.mul_comm 256 a] at this
  exact this.symm
theorem nw139 {t : Nat} (ht : t ≤ 30) {c m : Nat → Int32} (hcm : ∀ i, i < t → c i = m i) {s k : Nat} (hs : s + k ≤ t) (h4 : k ≤ 4) (hl : ∀ i, i < k → lettr (m (s + i))) (tt : Int32) : ∀ (fu j : Nat), j ≤ k → k - j < fu → FX5_nextWord_h139 c tt fu (nI (pk (wk m s j))) (nI (s + j)) (nI s) (nI (s + k)) = some (nI (pk (wk m s k)), nI s, nI (s + k)) := by
  intro fu
  induction fu with
  | zero => intro j _ h; omega
  | succ fu ih =>
    intro j hj hf
    show FX5_nextWord_b139 c tt (FX5_nextWord_h139 c tt fu) _ (nI (s + j)) (nI s) (nI (s + k)) = _
    unfold FX5_nextWord_b139
    by_cases h : k ≤ j
    · have : j = k := by omega
      subst this
      rw [if_pos (nI_le (Nat.le_refl _) (by omega))]
    · rw [if_neg (nI_ge (by omega) (by omega)), gi (show s + j < 30 by omega) (by decide), clp (by omega), hcm (s + j) (by omega), nI_1]
      obtain ⟨x, x1, x2, x3⟩ := lettr_n (hl j (by omega))
      have p23 := pk_lt3 (k := j) (fun i hi => hl i (by omega)) (by omega)
      have sh : nI (pk (wk m s j)) <<< ((8 : Int32) &&& 31) = nI (pk (wk m s j) * 2 ^ 8) := pk_shlN (nI 8 &&& 31) 8 (s_l 8 (by decide)) (by omega)
      rw [sh, x3, orI (by omega) (by omega), show (2 : Nat) ^ 8 = 256 from rfl, or256 (by omega)]
      have := ih (j + 1) (by omega) (by omega)
      simp only [wk] at this
      rw [pk_app, x3, clp (by omega)] at this
      exact this
theorem nI_sub {a b : Nat} (h : b ≤ a) : nI a - nI b = nI (a - b) := by
  have := nI_ac2 b (a - b)
  rw [nI_add, show a - b + b = a by omega] at this
  exact this
theorem nw54 {t : Nat} (ht : t ≤ 30) {c m : Nat → Int32} (hcm : ∀ i, i < t → c i = m i) {s : Nat} : ∀ (fu p : Nat), s ≤ p → p ≤ t → t - p < fu → FX5_nextWord_h54 c (nI t) fu (nI s) (nI p) = FX5_nextWord_b106 c (nI t) (nI s) (nI (le m (t - p) p)) := by
  intro fu
  induction fu with
  | zero => intro p _ _ h; omega
  | succ fu ih =>
    intro p hsp hp hf
    show FX5_nextWord_b54 c (nI t) (FX5_nextWord_h54 c (nI t) fu) (nI s) (nI p) = _
    unfold FX5_nextWord_b54
    by_cases h : t ≤ p
    · rw [if_pos (nI_le h (by omega)), show t - p = 0 by omega]
      rfl
    · rw [if_neg (nI_ge (by omega) (by omega))]
      simp only [gi (show p < 30 by omega) (show 30 < 2 ^ 31 by decide), clp (show p < 2 ^ 31 by omega), hcm p (by omega), nI_1]
      by_cases c1 : m p < 97
      · rw [if_pos c1, le_f (by omega) (fun x => x.1 c1)]
      · rw [if_neg c1]
        by_cases c2 : 122 < m p
        · rw [if_pos c2, le_f (by omega) (fun x => x.2 c2)]
        · rw [if_neg c2, le_t (by omega) ⟨c1, c2⟩]
          exact ih (p + 1) (by omega) (by omega) (by omega)
theorem nw8 {t : Nat} (ht : t ≤ 30) {c m : Nat → Int32} (hcm : ∀ i, i < t → c i = m i) (bh : Int32) : ∀ (fu p : Nat), p ≤ t → t - p < fu → FX5_nextWord_h8 c (nI t) fu (nI p) bh = FX5_nextWord_b106 c (nI t) (nI (sk m (t - p) p)) (nI (le m (t - sk m (t - p) p) (sk m (t - p) p))) := by
  intro fu
  induction fu with
  | zero => intro p _ h; omega
  | succ fu ih =>
    intro p hp hf
    show FX5_nextWord_b8 c (nI t) (FX5_nextWord_h8 c (nI t) fu) (nI p) bh = _
    unfold FX5_nextWord_b8 FX5_nextWord_b46
    by_cases h : t ≤ p
    · rw [if_pos (nI_le h (by omega)), show t - p = 0 by omega]
      simp only [sk]
      exact nw54 ht hcm 5000 p (Nat.le_refl _) hp (by omega)
    · rw [if_neg (nI_ge (by omega) (by omega)), gi (show p < 30 by omega) (by decide), clp (by omega), hcm p (by omega), nI_1]
      by_cases c1 : m p = 32
      · have e : sk m (t - p) p = sk m (t - (p + 1)) (p + 1) := by
          rw [show t - p = (t - (p + 1)) + 1 by omega]
          simp only [sk]
          rw [if_pos c1]
        rw [if_pos c1, e]
        exact ih (p + 1) (by omega) (by omega)
      · have e : sk m (t - p) p = p := by
          rw [show t - p = (t - (p + 1)) + 1 by omega]
          simp only [sk]
          rw [if_neg c1]
        rw [if_neg c1, e]
        exact nw54 ht hcm 5000 p (Nat.le_refl _) hp (by omega)
theorem mw46 {t : Nat} (ht : t ≤ 30) (m : Nat → Int32) {s : Nat} (se : Int32) : ∀ (fu p : Nat), s ≤ p → p ≤ t → t - p < fu → FX7_word_h46 (nI t) m fu (nI p) (-1) (nI s) se = some (nI (le m (t - p) p), (if le m (t - p) p - s = 0 ∨ 4 < le m (t - p) p - s then nI s else -1), nI s, nI (le m (t - p) p)) := by
  intro fu
  induction fu with
  | zero => intro p _ _ h; omega
  | succ fu ih =>
    intro p hsp hp hf
    show FX7_word_b46 (nI t) m (FX7_word_h46 (nI t) m fu) (nI p) (-1) (nI s) se = _
    unfold FX7_word_b46 FX7_word_b102 FX7_isLetter FX7_fails
    have nm1 : ¬ (0 : Int32) ≤ -1 := by decide
    have stop : (if nI p = nI s then (Option.bind (if (0 : Int32) ≤ -1 then some (-1) else some (nI s)) fun r1 => some (nI p, r1, nI s, nI p)) else if nI p - nI s ≤ 4 then some (nI p, -1, nI s, nI p) else (Option.bind (if (0 : Int32) ≤ -1 then some (-1) else some (nI s)) fun r1 => some (nI p, r1, nI s, nI p))) = some (nI p, (if p - s = 0 ∨ 4 < p - s then nI s else -1), nI s, nI p) := by
      rw [if_neg nm1]
      simp only [Option.bind_some]
      by_cases e : p = s
      · rw [if_pos (by rw [e]), if_pos (by omega)]
      · rw [if_neg (fun x => e ((nI_eq (by omega) (by omega)).mp x)), nI_sub hsp]
        by_cases l : p - s ≤ 4
        · rw [if_pos (show nI (p - s) ≤ (4 : Int32) from nI_le l (by decide)), if_neg (by omega)]
        · rw [if_neg (show ¬ nI (p - s) ≤ (4 : Int32) from nI_ge (show 4 < p - s by omega) (by omega)), if_pos (by omega)]
    by_cases h : t ≤ p
    · rw [if_pos (nI_le h (by omega)), show t - p = 0 by omega]
      simp only [Option.bind_some, if_true, le]
      exact stop
    · rw [if_neg (nI_ge (by omega) (by omega)), gi (show p < 30 by omega) (by decide), clp (by omega), isIn_v, nI_1]
      simp only [Option.bind_some]
      by_cases c1 : m p < 97
      · rw [if_pos c1, le_f (by omega) (fun x => x.1 c1)]
        simp only [if_true, Option.bind_some]
        exact stop
      · rw [if_neg c1]
        by_cases c2 : 122 < m p
        · rw [if_pos c2, le_f (by omega) (fun x => x.2 c2)]
          simp only [if_true, Option.bind_some]
          exact stop
        · rw [if_neg c2, le_t (by omega) ⟨c1, c2⟩]
          simp only [if_neg (show ¬ (1 : Int32) = 0 by decide), Option.bind_some]
          exact ih (p + 1) (by omega) (by omega) (by omega)
theorem mw0 {t : Nat} (ht : t ≤ 30) (m : Nat → Int32) (fi se : Int32) : ∀ (fu p : Nat), p ≤ t → t - p < fu → FX7_word_h0 (nI t) m fu (nI p) (-1) fi se = some (nI (le m (t - sk m (t - p) p) (sk m (t - p) p)), (if le m (t - sk m (t - p) p) (sk m (t - p) p) - sk m (t - p) p = 0 ∨ 4 < le m (t - sk m (t - p) p) (sk m (t - p) p) - sk m (t - p) p then nI (sk m (t - p) p) else -1), nI (sk m (t - p) p), nI (le m (t - sk m (t - p) p) (sk m (t - p) p))) := by
  intro fu
  induction fu with
  | zero => intro p _ h; omega
  | succ fu ih =>
    intro p hp hf
    show FX7_word_b0 (nI t) m (FX7_word_h0 (nI t) m fu) (nI p) (-1) fi se = _
    unfold FX7_word_b0 FX7_word_b38
    by_cases h : t ≤ p
    · rw [if_pos (nI_le h (by omega)), show t - p = 0 by omega]
      simp only [sk]
      exact mw46 ht m se 5000 p (Nat.le_refl _) hp (by omega)
    · rw [if_neg (nI_ge (by omega) (by omega)), gi (show p < 30 by omega) (by decide), clp (by omega), nI_1]
      by_cases c1 : m p = 32
      · have e : sk m (t - p) p = sk m (t - (p + 1)) (p + 1) := by
          rw [show t - p = (t - (p + 1)) + 1 by omega]
          simp only [sk]
          rw [if_pos c1]
        rw [if_pos c1, e]
        exact ih (p + 1) (by omega) (by omega)
      · have e : sk m (t - p) p = p := by
          rw [show t - p = (t - (p + 1)) + 1 by omega]
          simp only [sk]
          rw [if_neg c1]
        rw [if_neg c1, e]
        exact mw46 ht m se 5000 p (Nat.le_refl _) hp (by omega)
theorem me0 {t : Nat} (ht : t ≤ 30) (m : Nat → Int32) (fl : Int32) : ∀ (fu p : Nat), p ≤ t → t - p < fu → FX7_ends_h0 (nI t) m fu (nI p) fl = some (nI (sk m (t - p) p), (if t ≤ sk m (t - p) p then fl else if 0 ≤ fl then fl else nI (sk m (t - p) p))) := by
  intro fu
  induction fu with
  | zero => intro p _ h; omega
  | succ fu ih =>
    intro p hp hf
    show FX7_ends_b0 (nI t) m (FX7_ends_h0 (nI t) m fu) (nI p) fl = _
    unfold FX7_ends_b0 FX7_ends_b38 FX7_fails
    by_cases h : t ≤ p
    · have e0 : sk m (t - p) p = p := by rw [show t - p = 0 by omega]; rfl
      rw [if_pos (nI_le h (by omega)), if_pos (nI_le h (by omega)), e0, if_pos h]
    · rw [if_neg (nI_ge (by omega) (by omega)), if_neg (nI_ge (by omega) (by omega)), gi (show p < 30 by omega) (by decide), clp (by omega), nI_1]
      by_cases c1 : m p = 32
      · have e : sk m (t - p) p = sk m (t - (p + 1)) (p + 1) := by
          rw [show t - p = (t - (p + 1)) + 1 by omega]
          simp only [sk]
          rw [if_pos c1]
        rw [if_pos c1, e]
        exact ih (p + 1) (by omega) (by omega)
      · have e : sk m (t - p) p = p := by
          rw [show t - p = (t - (p + 1)) + 1 by omega]
          simp only [sk]
          rw [if_neg c1]
        rw [if_neg c1, e, if_neg h]
        by_cases z : (0 : Int32) ≤ fl
        · simp only [if_pos z, Option.bind_some]
        · simp only [if_neg z, Option.bind_some]
/-- the next word, on both sides -/
def NWd (t : Nat) (c m : Nat → Int32) (b s e : Nat) (st : Int32) : Prop := b ≤ s ∧ s ≤ e ∧ e ≤ t ∧ s = sk m (t - b) b ∧ (e < t → ¬ lettr (m e)) ∧
  (((e - s = 0 ∨ 4 < e - s) ∧ FX5_nextWord c (nI t) st (nI b) = some (-1, nI s, nI e) ∧ ∀ fi se, FX7_word (nI t) (nI b) (-1) m fi se = some (nI e, nI s, nI s, nI e)) ∨
   (∃ w, Wd w ∧ w.length = e - s ∧ (∀ i, i < e - s → m (s + i) = nI (w.getD i 0)) ∧ FX5_nextWord c (nI t) st (nI b) = some (nI (pk w), nI s, nI e) ∧ ∀ fi se, FX7_word (nI t) (nI b) (-1) m fi se = some (nI e, -1, nI s, nI e)))
theorem nwd {t : Nat} (ht : t ≤ 30) {c m : Nat → Int32} (hcm : ∀ i, i < t → c i = m i) {b : Nat} (hb : b ≤ t) (st : Int32) : ∃ s e, NWd t c m b s e st := by
  have b1 := sk_bd m (t - b) b
  have b2 := le_bd m (t - sk m (t - b) b) (sk m (t - b) b)
  have e6 : FX5_nextWord c (nI t) st (nI b) = _ := nw8 ht hcm (nI b) 5000 b hb (by omega)
  have e7 : ∀ fi se, FX7_word (nI t) (nI b) (-1) m fi se = _ := fun fi se => mw0 ht m fi se 5000 b hb (by omega)
  generalize hs : sk m (t - b) b = s at b1 b2 e6 e7
  generalize he : le m (t - s) s = e at b2 e6 e7
  refine ⟨s, e, by omega, by omega, by omega, hs.symm, fun h => b2.2.2.2 (by omega), ?_⟩
  unfold FX5_nextWord_b106 at e6
  by_cases bad : e - s = 0 ∨ 4 < e - s
  · refine Or.inl ⟨bad, ?_, fun fi se => ?_⟩
    · rw [e6]
      by_cases z : e = s
      · rw [if_pos (by rw [z])]
      · rw [if_neg (fun x => z ((nI_eq (by omega) (by omega)).mp x)), nI_sub (by omega), if_neg (show ¬ nI (e - s) ≤ (4 : Int32) from nI_ge (show 4 < e - s by omega) (by omega))]
    · rw [e7, if_pos bad]
  · have lt : ∀ i, i < e - s → lettr (m (s + i)) := fun i hi => b2.2.2.1 (s + i) (by omega) (by omega)
    refine Or.inr ⟨wk m s (e - s), wk_wd lt (by omega) (by omega), wk_len _ _ _, fun i hi => (wk_getD lt i hi).symm, ?_, fun fi se => ?_⟩
    · rw [e6, if_neg (fun x => by have := (nI_eq (by omega) (by omega)).mp x; omega), nI_sub (by omega), if_pos (show nI (e - s) ≤ (4 : Int32) from nI_le (show e - s ≤ 4 by omega) (by decide))]
      have := nw139 ht hcm (s := s) (k := e - s) (by omega) (by omega) lt (nI t) 5000 0 (Nat.zero_le _) (by omega)
      rw [show s + (e - s) = e by omega] at this
      exact this
    · rw [e7, if_neg bad]
