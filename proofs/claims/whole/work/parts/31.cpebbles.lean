/-! the class' search for a free pebble -/
theorem nodup_len : ∀ (n : Nat) (l : List Nat), l.Nodup → (∀ v ∈ l, v < n) → l.length ≤ n := by
  intro n
  induction n with
  | zero =>
    intro l _ h
    cases l with
    | nil => exact Nat.le_refl _
    | cons a l => exact absurd (h a (List.mem_cons_self)) (by omega)
  | succ n ih =>
    intro l hn h
    by_cases hm : n ∈ l
    · have h1 := ih (l.erase n) (hn.erase n) (fun v hv => by
        have h2 : v ∈ l := List.mem_of_mem_erase hv
        have h3 := h v h2
        have h4 : v ≠ n := fun e => by subst e; exact (List.Nodup.not_mem_erase hn) hv
        omega)
      rw [List.length_erase_of_mem hm] at h1
      omega
    · have := ih l hn (fun v hv => by
        have h3 := h v hv
        have h4 : v ≠ n := fun e => hm (e ▸ hv)
        omega)
      omega
theorem mul2I (p : Nat) : (2 : Int32) * nI p = nI (2 * p) := pk_mul 2 p
theorem countFree_v {f : Nat → Int32} {v : Nat} (hv : v < 12) : FX1_countFree (nI v) f = some (nI (fr f v)) := by
  unfold FX1_countFree FX1_countFree_b17 fr fe
  rw [mul2I, nI_1, gi (by omega) (by decide), gi (by omega) (by decide), gi (by omega) (by decide), clp (by omega), clp (by omega)]
  by_cases h1 : f (2 * v) = -1 <;> by_cases h2 : f (2 * v + 1) = -1 <;> simp [h1, h2] <;> rfl
/-- a free pebble of a pin, or none -/
theorem freePebble_v {f : Nat → Int32} {v : Nat} (hv : v < 12) : (fr f v = 0 ∧ FX1_freePebble (nI v) f = some (-1)) ∨ ∃ j : Nat, j < 24 ∧ j / 2 = v ∧ f j = -1 ∧ FX1_freePebble (nI v) f = some (nI j) := by
  unfold FX1_freePebble fr fe
  rw [mul2I, nI_1, gi (by omega) (by decide), gi (by omega) (by decide), clp (by omega), clp (by omega)]
  by_cases h1 : f (2 * v) = -1
  · exact Or.inr ⟨2 * v, by omega, by omega, h1, by rw [if_pos h1]⟩
  · by_cases h2 : f (2 * v + 1) = -1
    · exact Or.inr ⟨2 * v + 1, by omega, by omega, h2, by rw [if_neg h1, if_pos h2]⟩
    · exact Or.inl ⟨by simp [h1, h2], by rw [if_neg h1, if_neg h2]⟩
/-- the way back from each pin of the row -/
def Way (f : Nat → Int32) (qs : List Nat) (ca : Nat → Int32) : Prop := ∀ (i v : Nat), 0 < i → qs[i]? = some v → ∃ k i' u : Nat, k < 24 ∧ ca v = nI k ∧ f k = nI v ∧ i' < i ∧ qs[i']? = some u ∧ k / 2 = u
theorem div2I {k : Nat} (h : k < 2 ^ 31) : nI k / 2 = nI (k / 2) := pk_div h (by decide) (by decide)
theorem turn_h (p2 p3 : Int32) {f0 : Nat → Int32} {qs : List Nat} {ca : Nat → Int32} (hn : qs.Nodup) (h12 : ∀ v ∈ qs, v < 12) {p q : Nat} (hp : qs[0]? = some p) (hq : q ∉ qs) (hway : Way f0 qs ca) :
    ∀ (m c fu v j : Nat) (f : Nat → Int32), qs[m]? = some v → c + m ≤ 12 → m < fu → WF f → j < 24 → j / 2 = v → f j = -1 → (∀ i u k, i < m → qs[i]? = some u → k / 2 = u → f k = f0 k) → ∃ f', FX1_turnRound_h9 (nI p) p2 p3 ca fu (nI v) (nI j) (nI c) f = some f' ∧ Keep f f' ∧ fr f' q = fr f q ∧ (m = 0 → f' = f) ∧ (0 < m → fr f' p = fr f p + 1) := by
  have inj : ∀ (i j v : Nat), qs[i]? = some v → qs[j]? = some v → i = j := by
    intro i j v hi hj
    obtain ⟨li, ei⟩ := List.getElem?_eq_some_iff.mp hi
    obtain ⟨lj, ej⟩ := List.getElem?_eq_some_iff.mp hj
    exact (List.getElem_inj hn).mp (ei.trans ej.symm)
  intro m
  induction m using Nat.strongRecOn with
  | _ m ih =>
    intro c fu v j f hv hc hfu hw hj hjv hfj hsame
    obtain ⟨fu, rfl⟩ : ∃ x, fu = x + 1 := ⟨fu - 1, by omega⟩
    show ∃ f', FX1_turnRound_b9 (nI p) p2 p3 ca (FX1_turnRound_h9 (nI p) p2 p3 ca fu) (nI v) (nI j) (nI c) f = some f' ∧ _
    unfold FX1_turnRound_b9
    have v12 := h12 v (List.mem_of_getElem? hv)
    have p12 := h12 p (List.mem_of_getElem? hp)
    rcases Nat.eq_zero_or_pos m with rfl | hm
    · have : v = p := Option.some.inj (hv.symm.trans hp)
      subst this
      rw [if_pos (show nI v = nI v from rfl)]
      refine ⟨f, by split <;> rfl, Keep.rf hw, rfl, fun _ => rfl, fun h => absurd h (by omega)⟩
    · have hvp : v ≠ p := fun e => by subst e; have := inj m 0 v hv hp; omega
      obtain ⟨k, i', u, k24, hca, hfk, hi', hu, hku⟩ := hway m v hm hv
      have u12 := h12 u (List.mem_of_getElem? hu)
      have huv : u ≠ v := fun e => by subst e; have := inj m i' u hv hu; omega
      rw [if_neg (show ¬ (12 : Int32) ≤ nI c from nI_ge (show c < 12 by omega) (by decide)), if_neg (fun e => hvp ((nI_eq (by omega) (by omega)).mp e)), gi v12 (by decide), gi hj (by decide), clp (by omega), hca, gi k24 (by decide), clp (by omega), clp (by omega), div2I (by omega), hku, nI_1]
      have hfk' : f k = nI v := by rw [hsame i' u k hi' hu hku]; exact hfk
      obtain ⟨K1, K2, K3⟩ := turn1 hw k24 hj hku hjv huv hfk' hfj
      obtain ⟨f', e, K4, K5, K6, K7⟩ := ih i' hi' (c + 1) fu u k (upd (upd f j (nI u)) k (-1)) hu (by omega) (by omega) K1.1 k24 hku updS (by
        intro i w kk hi hw' hkw
        have w1 : w ≠ u := fun e => by subst e; have := inj i i' w hw' hu; omega
        have w2 : w ≠ v := fun e => by subst e; have := inj i m w hw' hv; omega
        rw [updN (fun e => by subst e; exact w1 (hkw.symm.trans hku)), updN (fun e => by subst e; exact w2 (hkw.symm.trans hjv))]
        exact hsame i w kk (by omega) hw' hkw)
      have qu : q ≠ u := fun e => by subst e; exact hq (List.mem_of_getElem? hu)
      have qv : q ≠ v := fun e => by subst e; exact hq (List.mem_of_getElem? hv)
      refine ⟨f', e, K1.trans K4, by rw [K5, K3 q qu qv], fun h => absurd h (by omega), fun _ => ?_⟩
      rcases Nat.eq_zero_or_pos i' with h0 | h0
      · rw [K6 h0]
        have : u = p := by subst h0; exact Option.some.inj (hu.symm.trans hp)
        subst this
        exact K2
      · have hup : u ≠ p := fun e => by subst e; have := inj i' 0 u hu hp; omega
        rw [K7 h0, K3 p (fun e => hup e.symm) (fun e => hvp e.symm)]
