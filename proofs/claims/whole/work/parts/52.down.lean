/-! a stiff frame without extra bars, pin by pin -/
def DS (L : List (Nat × Nat)) (R : Nat → Bool) (k : Nat) : Prop := WL L ∧ (∀ e, e ∈ L → e.1 < e.2) ∧ SP L ∧ (∀ e, e ∈ L → R e.1 = true ∧ R e.2 = true) ∧ sz R = k ∧ L.length + 3 = 2 * k
def rmv (R : Nat → Bool) (v : Nat) : Nat → Bool := fun w => R w && !(w == v)
theorem sz_rmv {R : Nat → Bool} {v : Nat} (hv : v < 12) (h : R v = true) : sz (rmv R v) + 1 = sz R := by
  have := sm_one (g := fun w => if rmv R v w then 1 else 0) (h := fun w => if R w then 1 else 0) (n := 12) hv (fun i _ hne => by simp [rmv, hne])
  simp only [h, if_true] at this
  have e : rmv R v v = false := by simp [rmv]
  rw [e] at this
  unfold sz
  simp at this
  omega
theorem ic_rmv {R : Nat → Bool} {v : Nat} {L : List (Nat × Nat)} (h : ∀ e, e ∈ L → R e.1 = true ∧ R e.2 = true) : ic L (rmv R v) + dg L v = L.length := by
  induction L with
  | nil => rfl
  | cons e L ih =>
    have ih' := ih (fun e he => h e (List.mem_cons_of_mem _ he))
    obtain ⟨r1, r2⟩ := h e List.mem_cons_self
    unfold dg at ih' ⊢
    rw [ic_cons, List.countP_cons, List.length_cons]
    have : (if rmv R v e.1 && rmv R v e.2 then 1 else 0) + (if tch v e then 1 else 0) = 1 := by
      unfold rmv tch
      rw [r1, r2]
      cases (e.1 == v) <;> cases (e.2 == v) <;> rfl
    omega
theorem sm_mul (c : Nat) (g : Nat → Nat) (n : Nat) : sm (fun i => c * g i) n = c * sm g n := by
  induction n with
  | zero => rfl
  | succ n ih => simp only [sm]; rw [ih, Nat.mul_add]
theorem deg_ex {L : List (Nat × Nat)} {R : Nat → Bool} {k : Nat} (h : DS L R k) (hk : 3 ≤ k) : ∃ v, v < 12 ∧ R v = true ∧ (dg L v = 2 ∨ dg L v = 3) := by
  obtain ⟨hw, _, hs, hR, hz, hl⟩ := h
  by_cases c : ∃ v, v < 12 ∧ R v = true ∧ dg L v ≤ 3
  · obtain ⟨v, v1, v2, v3⟩ := c
    refine ⟨v, v1, v2, ?_⟩
    have a := sz_rmv v1 v2
    have b := ic_rmv (v := v) hR
    have d := hs (rmv R v) (by omega)
    omega
  · exfalso
    have a := dg_sum hw
    have b := sm_le (g := fun v => 4 * (if R v then 1 else 0)) (h := dg L) (n := 12) (fun i hi => by
      by_cases x : R i = true
      · have : ¬ dg L i ≤ 3 := fun y => c ⟨i, hi, x, y⟩
        simp [x]; omega
      · simp [x])
    rw [sm_mul] at b
    have e : sm (fun v => if R v then 1 else 0) 12 = sz R := rfl
    rw [e] at b
    omega
def flt (L : List (Nat × Nat)) (v : Nat) : List (Nat × Nat) := L.filter (fun e => !tch v e)
theorem flt_len (L : List (Nat × Nat)) (v : Nat) : (flt L v).length + dg L v = L.length := by
  have := len_split (tch v) L
  unfold flt dg
  omega
theorem adj_mem {L : List (Nat × Nat)} {v w : Nat} (h : adj L v w = true) : (v, w) ∈ L ∨ (w, v) ∈ L := by
  unfold adj at h
  simpa using h
theorem top_one {P : Nat → Bool} : ∀ (n k : Nat), sm (fun i => if P i then 1 else 0) n = k + 1 → ∃ i, i < n ∧ P i = true ∧ sm (fun i => if P i then 1 else 0) i = k ∧ ∀ w, i < w → w < n → P w = false := by
  intro n
  induction n with
  | zero => intro k h; simp [sm] at h
  | succ n ih =>
    intro k h
    simp only [sm] at h
    cases hp : P n
    · rw [hp] at h
      obtain ⟨i, a, b, c, d⟩ := ih k (by simpa using h)
      refine ⟨i, by omega, b, c, fun w h1 h2 => ?_⟩
      by_cases e : w = n
      · rw [e]; exact hp
      · exact d w h1 (by omega)
    · rw [hp] at h
      exact ⟨n, by omega, hp, by simpa using h, fun w h1 h2 => by omega⟩
theorem three {P : Nat → Bool} (h : sm (fun i => if P i then 1 else 0) 12 = 3) : ∃ x y z, x < y ∧ y < z ∧ z < 12 ∧ P x = true ∧ P y = true ∧ P z = true ∧ ∀ w, w < 12 → P w = true → w = x ∨ w = y ∨ w = z := by
  obtain ⟨z, z1, z2, z3, z4⟩ := top_one 12 2 h
  obtain ⟨y, y1, y2, y3, y4⟩ := top_one z 1 z3
  obtain ⟨x, x1, x2, x3, x4⟩ := top_one y 0 y3
  refine ⟨x, y, z, x1, y1, z1, x2, y2, z2, fun w hw hP => ?_⟩
  have d1 : ¬ z < w := fun c => by rw [z4 w c hw] at hP; cases hP
  have d2 : y < w → ¬ w < z := fun c c' => by rw [y4 w c c'] at hP; cases hP
  have d3 : x < w → ¬ w < y := fun c c' => by rw [x4 w c c'] at hP; cases hP
  have d4 : ¬ w < x := fun c => by
    have := sm_mem (g := fun i => if P i then 1 else 0) c
    rw [x3] at this
    simp [hP] at this
  omega
theorem sz_sing : ∀ v, v < 12 → sz (fun w => w == v) = 1 := by decide +kernel
theorem ic_join {v : Nat} {D E : Nat → Bool} (hDE : ∀ w, D w = true → E w = true) : ∀ (L : List (Nat × Nat)), (∀ e, e ∈ L → tch v e = true → E e.1 = true ∧ E e.2 = true) → ic (flt L v) D + dg L v ≤ ic L E := by
  intro L
  induction L with
  | nil => intro _; exact Nat.le_refl _
  | cons e L ih =>
    intro h
    have ih' := ih (fun e he => h e (List.mem_cons_of_mem _ he))
    unfold flt dg at ih' ⊢
    rw [List.countP_cons, List.filter_cons, ic_cons]
    cases ht : tch v e
    · simp only [Bool.not_false, if_true]
      rw [ic_cons]
      have : (if D e.1 && D e.2 then 1 else 0) ≤ (if E e.1 && E e.2 then 1 else 0) := by
        cases d1 : D e.1
        · simp
        · cases d2 : D e.2
          · simp
          · rw [hDE _ d1, hDE _ d2]; exact Nat.le_refl _
      simp only [Bool.false_eq_true, if_false]
      omega
    · obtain ⟨h1, h2⟩ := h e List.mem_cons_self ht
      simp only [Bool.not_true, Bool.false_eq_true, if_false, if_true, h1, h2, Bool.and_true]
      omega
theorem pair_ex {L : List (Nat × Nat)} {R : Nat → Bool} {k v : Nat} (h : DS L R k) (hv : v < 12) (hd : dg L v = 3) : ∃ a b, a < b ∧ b < 12 ∧ adj L v a = true ∧ adj L v b = true ∧ ¬ TE (flt L v) a b := by
  obtain ⟨hw, hlt, hs, hR, hz, hl⟩ := h
  have e := pc_nm hw (hs.nd hw) v hv
  unfold nm at e
  rw [pc_bw _ (by decide), hd] at e
  obtain ⟨x, y, z, xy, yz, z12, px, py, pz, all⟩ := three e
  by_cases c1 : TE (flt L v) x y
  · by_cases c2 : TE (flt L v) y z
    · by_cases c3 : TE (flt L v) x z
      · exfalso
        obtain ⟨D, d1, d2, d3, d4⟩ := tri (hw.filter _) (hs.filter _) (p := x) (q := y) (r := z) (by omega) (by omega) z12 (by omega) c1 c2 c3
        have j := ic_join (v := v) (D := D) (E := un D (fun w => w == v)) (fun w hw => by simp [un, hw]) L (fun e he ht => by
          have w3 := hw e he
          have nb : ∀ w, w < 12 → adj L v w = true → D w = true := fun w h1 h2 => by
            rcases all w h1 h2 with rfl | rfl | rfl
            · exact d1
            · exact d2
            · exact d3
          unfold tch at ht
          simp only [Bool.or_eq_true, beq_iff_eq] at ht
          rcases ht with ht | ht
          · have : adj L v e.2 = true := by
              unfold adj
              rw [show (v, e.2) = e by rw [← ht]]
              simp [he]
            exact ⟨by simp [un, ht], by simp [un, nb e.2 w3.2.2 this]⟩
          · have : adj L v e.1 = true := by
              unfold adj
              rw [show (e.1, v) = e by rw [← ht]]
              simp [he]
            exact ⟨by simp [un, nb e.1 w3.2.1 this], by simp [un, ht]⟩)
        have d5 : 2 * sz D ≤ ic (flt L v) D + 3 := d4
        have s1 := sz_un D (fun w => w == v)
        have s2 := sz_sing v hv
        have s3 := hs (un D (fun w => w == v)) (sz_two (p := x) (q := y) (by omega) (by omega) (by omega) (by simp [un, d1]) (by simp [un, d2]))
        omega
      · exact ⟨x, z, by omega, z12, px, pz, c3⟩
    · exact ⟨y, z, yz, z12, py, pz, c2⟩
  · exact ⟨x, y, xy, by omega, px, py, c1⟩
theorem flt_in {L : List (Nat × Nat)} {R : Nat → Bool} {v : Nat} (h : ∀ e, e ∈ L → R e.1 = true ∧ R e.2 = true) : ∀ e, e ∈ flt L v → rmv R v e.1 = true ∧ rmv R v e.2 = true := by
  intro e he
  obtain ⟨h1, h2⟩ := List.mem_filter.mp he
  obtain ⟨r1, r2⟩ := h e h1
  unfold rmv
  unfold tch at h2
  rw [r1, r2]
  revert h2
  cases (e.1 == v) <;> cases (e.2 == v) <;> simp
theorem DS.two {L : List (Nat × Nat)} {R : Nat → Bool} {k v : Nat} (h : DS L R k) (hk : 3 ≤ k) (hv : v < 12) (hR : R v = true) (hd : dg L v = 2) : DS (flt L v) (rmv R v) (k - 1) := by
  obtain ⟨a1, a2, a3, a4, a5, a6⟩ := h
  have l := flt_len L v
  have s := sz_rmv hv hR
  exact ⟨a1.filter _, fun e he => a2 e (List.mem_filter.mp he).1, a3.filter _, flt_in a4, by omega, by omega⟩
theorem DS.three {L : List (Nat × Nat)} {R : Nat → Bool} {k v a b : Nat} (h : DS L R k) (hk : 3 ≤ k) (hv : v < 12) (hR : R v = true) (hd : dg L v = 3) (hab : a < b) (hb : b < 12) (ha1 : adj L v a = true) (hb1 : adj L v b = true) (ht : ¬ TE (flt L v) a b) : DS ((a, b) :: flt L v) (rmv R v) (k - 1) := by
  obtain ⟨a1, a2, a3, a4, a5, a6⟩ := h
  have l := flt_len L v
  have s := sz_rmv hv hR
  have go : ∀ w, adj L v w = true → rmv R v w = true := by
    intro w hw
    rcases adj_mem hw with x | x
    · have y := a4 _ x
      have z := (a1 _ x).1
      unfold rmv
      simp only at y z
      have : ¬ w = v := fun e => z e.symm
      simp [y.2, this]
    · have y := a4 _ x
      have z := (a1 _ x).1
      unfold rmv
      simp only at y z
      simp [y.1, z]
  refine ⟨fun e he => ?_, fun e he => ?_, SP.add (e := (a, b)) (a3.filter _) ht, fun e he => ?_, by omega, by simp only [List.length_cons]; omega⟩
  · rcases List.mem_cons.mp he with rfl | he
    · exact ⟨by simp only; omega, by simp only; omega, hb⟩
    · exact a1 e (List.mem_filter.mp he).1
  · rcases List.mem_cons.mp he with rfl | he
    · exact hab
    · exact a2 e (List.mem_filter.mp he).1
  · rcases List.mem_cons.mp he with rfl | he
    · exact ⟨go a ha1, go b hb1⟩
    · exact flt_in a4 e he
theorem least (P : Nat → Prop) : ∀ (n : Nat), P n → ∃ m, P m ∧ m ≤ n ∧ ∀ i, i < m → ¬ P i := by
  intro n
  induction n using Nat.strongRecOn with
  | ind n ih =>
    intro h
    by_cases c : ∃ i, i < n ∧ P i
    · obtain ⟨i, i1, i2⟩ := c
      obtain ⟨m, a, b, d⟩ := ih i i1 i2
      exact ⟨m, a, by omega, d⟩
    · exact ⟨n, h, Nat.le_refl _, fun i hi hP => c ⟨i, hi, hP⟩⟩
theorem lex_min (A : Nat → Nat → Prop) {p q : Nat} (hpq : p < q) (h : A p q) : ∃ a b, a < b ∧ A a b ∧ ∀ x y, x < y → (x < a ∨ x = a ∧ y < b) → ¬ A x y := by
  obtain ⟨a, ⟨b0, a1, a2⟩, _, a3⟩ := least (fun x => ∃ y, x < y ∧ A x y) p ⟨q, hpq, h⟩
  obtain ⟨b, ⟨b1, b2⟩, _, b3⟩ := least (fun y => a < y ∧ A a y) b0 ⟨a1, a2⟩
  refine ⟨a, b, b1, b2, fun x y hxy hlt hA => ?_⟩
  rcases hlt with c | ⟨rfl, c⟩
  · exact a3 x c ⟨y, hxy, hA⟩
  · exact b3 y c ⟨hxy, hA⟩
