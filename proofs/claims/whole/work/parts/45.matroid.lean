/-! sets of pins, sparse lists of bars, tight sets -/
def WL (es : List (Nat × Nat)) : Prop := ∀ e, e ∈ es → e.1 ≠ e.2 ∧ e.1 < 12 ∧ e.2 < 12
def SP (es : List (Nat × Nat)) : Prop := ∀ X : Nat → Bool, 2 ≤ sz X → ic es X + 3 ≤ 2 * sz X
def un (X Y : Nat → Bool) : Nat → Bool := fun v => X v || Y v
def nt (X Y : Nat → Bool) : Nat → Bool := fun v => X v && Y v
theorem sm_lt {g h : Nat → Nat} {n j : Nat} (e : ∀ i, i < n → g i ≤ h i) (hj : j < n) (l : g j < h j) : sm g n < sm h n := by
  induction n with
  | zero => omega
  | succ n ih =>
    simp only [sm]
    have a := e n (by omega)
    by_cases hn : j = n
    · subst hn
      have := sm_le (g := g) (h := h) (n := j) (fun i hi => e i (by omega))
      omega
    · have := ih (fun i hi => e i (by omega)) (by omega)
      omega
theorem sz_un (X Y : Nat → Bool) : sz (un X Y) + sz (nt X Y) = sz X + sz Y := by
  unfold sz
  rw [← sm_add, ← sm_add]
  apply sm_congr
  intro i _
  unfold un nt
  cases X i <;> cases Y i <;> rfl
theorem ic_cons (e : Nat × Nat) (es : List (Nat × Nat)) (X : Nat → Bool) : ic (e :: es) X = ic es X + if X e.1 && X e.2 then 1 else 0 := by
  unfold ic
  rw [List.countP_cons]
theorem ic_un (es : List (Nat × Nat)) (X Y : Nat → Bool) : ic es X + ic es Y ≤ ic es (un X Y) + ic es (nt X Y) := by
  induction es with
  | nil => simp [ic]
  | cons e es ih =>
    rw [ic_cons, ic_cons, ic_cons, ic_cons]
    have : (if X e.1 && X e.2 then 1 else 0) + (if Y e.1 && Y e.2 then 1 else 0) ≤ (if un X Y e.1 && un X Y e.2 then 1 else 0) + (if nt X Y e.1 && nt X Y e.2 then 1 else 0) := by
      unfold un nt
      cases X e.1 <;> cases X e.2 <;> cases Y e.1 <;> cases Y e.2 <;> decide
    omega
theorem sz_le12 (X : Nat → Bool) : sz X ≤ 12 := by
  have := sm_le (g := fun v => if X v then 1 else 0) (h := fun _ => 1) (n := 12) (fun i _ => by cases X i <;> decide)
  have e : sm (fun _ => 1) 12 = 12 := by decide
  unfold sz
  omega
theorem sz_two {X : Nat → Bool} {p q : Nat} (hp : p < 12) (hq : q < 12) (hpq : p ≠ q) (xp : X p = true) (xq : X q = true) : 2 ≤ sz X := by
  have := sm_two (g := fun v => if X v then 1 else 0) hp hq hpq
  simp only [xp, xq, if_true] at this
  exact this
theorem sz_one {X : Nat → Bool} {p : Nat} (hp : p < 12) (xp : X p = true) : 1 ≤ sz X := by
  have := sm_mem (g := fun v => if X v then 1 else 0) hp
  simp only [xp, if_true] at this
  exact this
theorem sz_mono {X Y : Nat → Bool} (h : ∀ v, v < 12 → X v = true → Y v = true) : sz X ≤ sz Y := by
  unfold sz
  apply sm_le
  intro i hi
  cases hx : X i
  · simp
  · rw [h i hi hx]; exact Nat.le_refl _
theorem sz_lt {X Y : Nat → Bool} (h : ∀ v, v < 12 → X v = true → Y v = true) {v : Nat} (hv : v < 12) (y : Y v = true) (x : X v = false) : sz X < sz Y := by
  unfold sz
  refine sm_lt (fun i hi => ?_) hv (by rw [x, y]; decide)
  cases hx : X i
  · simp
  · rw [h i hi hx]; exact Nat.le_refl _
theorem sz_pair : ∀ p, p < 12 → ∀ q, q < 12 → sz (fun v => v == p || v == q) ≤ 2 := by decide +kernel
theorem un_tight {es : List (Nat × Nat)} (hs : SP es) {X Y : Nat → Bool} (hx : 2 * sz X ≤ ic es X + 3) (hy : 2 * sz Y ≤ ic es Y + 3) (h : 2 ≤ sz (nt X Y)) : 2 * sz (un X Y) ≤ ic es (un X Y) + 3 := by
  have a := sz_un X Y
  have b := ic_un es X Y
  have c := hs _ h
  omega
theorem two_in {es : List (Nat × Nat)} (hw : WL es) {X : Nat → Bool} (h : sz X ≤ 1) {e : Nat × Nat} (he : e ∈ es) : (X e.1 && X e.2) = false := by
  obtain ⟨a, b, c⟩ := hw e he
  cases h1 : X e.1
  · rfl
  · cases h2 : X e.2
    · rfl
    · have := sz_two b c a h1 h2
      omega
theorem ic_three {X Y Z : Nat → Bool} (h1 : sz (nt X Y) ≤ 1) (h2 : sz (nt Y Z) ≤ 1) (h3 : sz (nt X Z) ≤ 1) : ∀ es : List (Nat × Nat), WL es → ic es X + ic es Y + ic es Z ≤ ic es (un (un X Y) Z) := by
  intro es
  induction es with
  | nil => intro _; simp [ic]
  | cons e es ih =>
    intro hw
    have i := ih (fun x hx => hw x (List.mem_cons_of_mem _ hx))
    rw [ic_cons, ic_cons, ic_cons, ic_cons]
    have a := two_in hw h1 (List.mem_cons_self (a := e) (l := es))
    have b := two_in hw h2 (List.mem_cons_self (a := e) (l := es))
    have c := two_in hw h3 (List.mem_cons_self (a := e) (l := es))
    have : (if X e.1 && X e.2 then 1 else 0) + (if Y e.1 && Y e.2 then 1 else 0) + (if Z e.1 && Z e.2 then 1 else 0) ≤ (if un (un X Y) Z e.1 && un (un X Y) Z e.2 then 1 else 0) := by
      unfold nt at a b c
      unfold un
      revert a b c
      cases X e.1 <;> cases X e.2 <;> cases Y e.1 <;> cases Y e.2 <;> cases Z e.1 <;> cases Z e.2 <;> decide
    omega
/-- three tight sets, pairwise through p, q, r -/
theorem tri {es : List (Nat × Nat)} (hw : WL es) (hs : SP es) {p q r : Nat} (hp : p < 12) (hq : q < 12) (hr : r < 12) (hpr : p ≠ r) (h1 : TE es p q) (h2 : TE es q r) (h3 : TE es p r) : ∃ D : Nat → Bool, D p = true ∧ D q = true ∧ D r = true ∧ 2 * sz D ≤ ic es D + 3 := by
  obtain ⟨X, xp, xq, x3⟩ := h1
  obtain ⟨Y, yq, yr, y3⟩ := h2
  obtain ⟨Z, zp, zr, z3⟩ := h3
  by_cases a : 2 ≤ sz (nt X Y)
  · exact ⟨un X Y, by simp [un, xp], by simp [un, xq], by simp [un, yr], un_tight hs x3 y3 a⟩
  · by_cases b : 2 ≤ sz (nt Y Z)
    · exact ⟨un Y Z, by simp [un, zp], by simp [un, yq], by simp [un, yr], un_tight hs y3 z3 b⟩
    · by_cases c : 2 ≤ sz (nt X Z)
      · exact ⟨un X Z, by simp [un, xp], by simp [un, xq], by simp [un, zr], un_tight hs x3 z3 c⟩
      · refine ⟨un (un X Y) Z, by simp [un, xp], by simp [un, xq], by simp [un, yr], ?_⟩
        have d := ic_three (X := X) (Y := Y) (Z := Z) (by omega) (by omega) (by omega) es hw
        have e1 := sz_un X Y
        have e2 := sz_un (un X Y) Z
        have e3 := sz_one (X := nt X Y) hq (by simp [nt, xq, yq])
        have e4 := sz_two (X := nt (un X Y) Z) hp hr hpr (by simp [nt, un, xp, zp]) (by simp [nt, un, yr, zr])
        omega
/-- what is tied to two tied pins is tied -/
theorem te_close {es : List (Nat × Nat)} (hw : WL es) (hs : SP es) {p q r s : Nat} (hp : p < 12) (hq : q < 12) (hr : r < 12) (hs' : s < 12) (hpq : p ≠ q) (hpr : p ≠ r) (hps : p ≠ s) (h0 : TE es p q) (h1 : TE es p r) (h2 : TE es q r) (h3 : TE es p s) (h4 : TE es q s) : TE es r s := by
  obtain ⟨D, d1, d2, d3, d4⟩ := tri hw hs hp hq hr hpr h0 h2 h1
  obtain ⟨E, f1, f2, f3, f4⟩ := tri hw hs hp hq hs' hps h0 h4 h3
  refine ⟨un D E, by simp [un, d3], by simp [un, f3], un_tight hs d4 f4 ?_⟩
  exact sz_two hp hq hpq (by simp [nt, d1, f1]) (by simp [nt, d2, f2])
theorem te_cons {es : List (Nat × Nat)} {p q : Nat} (e : Nat × Nat) (h : TE es p q) : TE (e :: es) p q := by
  obtain ⟨X, a, b, c⟩ := h
  refine ⟨X, a, b, ?_⟩
  rw [ic_cons]
  omega
theorem ic_pos {es : List (Nat × Nat)} {X : Nat → Bool} : 0 < ic es X ↔ ∃ e, e ∈ es ∧ X e.1 = true ∧ X e.2 = true := by
  unfold ic
  rw [List.countP_pos_iff]
  simp only [Bool.and_eq_true]
theorem te_self {es : List (Nat × Nat)} {p q : Nat} (hp : p < 12) (hq : q < 12) (h : (p, q) ∈ es) : TE es p q := by
  refine ⟨fun v => v == p || v == q, by simp, by simp, ?_⟩
  have a := sz_pair p hp q hq
  have b : 0 < ic es (fun v => v == p || v == q) := ic_pos.mpr ⟨(p, q), h, by simp, by simp⟩
  omega
theorem gs_cases (es : List (Nat × Nat)) (e : Nat × Nat) : (TE es e.1 e.2 ∧ gs es e = es) ∨ (¬ TE es e.1 e.2 ∧ gs es e = e :: es) := by
  unfold gs
  cases h : tb es e.1 e.2
  · right; exact ⟨tb_f.mp h, by simp⟩
  · left; exact ⟨tb_t.mp h, by simp⟩
theorem SP.add {es : List (Nat × Nat)} (hs : SP es) {e : Nat × Nat} (h : ¬ TE es e.1 e.2) : SP (e :: es) := by
  intro X hX
  rw [ic_cons]
  have a := hs X hX
  cases h1 : X e.1
  · simpa using a
  · cases h2 : X e.2
    · simpa using a
    · have : ¬ 2 * sz X ≤ ic es X + 3 := fun c => h ⟨X, h1, h2, c⟩
      simp
      omega
theorem SP.nil : SP [] := by
  intro X hX
  simp [ic]
  omega
/-- an order whose bars are between two unlike pins -/
def OK (W : Nat → Nat × Nat) (m : Nat) : Prop := ∀ i, i < m → (W i).1 ≠ (W i).2 ∧ (W i).1 < 12 ∧ (W i).2 < 12
theorem GE_sp (W : Nat → Nat × Nat) (m : Nat) : SP (GE W m) := by
  induction m with
  | zero => exact SP.nil
  | succ m ih =>
    simp only [GE]
    rcases gs_cases (GE W m) (W m) with ⟨_, b⟩ | ⟨a, b⟩
    · rw [b]; exact ih
    · rw [b]; exact ih.add a
theorem GE_mem {W : Nat → Nat × Nat} {m : Nat} {e : Nat × Nat} (h : e ∈ GE W m) : ∃ i, i < m ∧ e = W i := by
  induction m with
  | zero => cases h
  | succ m ih =>
    simp only [GE] at h
    rcases gs_cases (GE W m) (W m) with ⟨_, b⟩ | ⟨a, b⟩
    · rw [b] at h
      obtain ⟨i, hi, e⟩ := ih h
      exact ⟨i, by omega, e⟩
    · rw [b] at h
      rcases List.mem_cons.mp h with rfl | h
      · exact ⟨m, by omega, rfl⟩
      · obtain ⟨i, hi, e⟩ := ih h
        exact ⟨i, by omega, e⟩
theorem GE_wl {W : Nat → Nat × Nat} {m : Nat} (h : OK W m) : WL (GE W m) := by
  intro e he
  obtain ⟨i, hi, rfl⟩ := GE_mem he
  exact h i hi
theorem GE_te {W : Nat → Nat × Nat} {m : Nat} (h : OK W m) : ∀ i, i < m → TE (GE W m) (W i).1 (W i).2 := by
  induction m with
  | zero => intro i hi; omega
  | succ m ih =>
    intro i hi
    have ih' := ih (fun i hi => h i (by omega))
    simp only [GE]
    rcases gs_cases (GE W m) (W m) with ⟨a, b⟩ | ⟨a, b⟩
    · rw [b]
      by_cases e : i = m
      · subst e; exact a
      · exact ih' i (by omega)
    · rw [b]
      by_cases e : i = m
      · subst e
        exact te_self (h i hi).2.1 (h i hi).2.2 (List.mem_cons_self)
      · exact te_cons _ (ih' i (by omega))
theorem mx_h (P : (Nat → Bool) → Prop) : ∀ (k : Nat) (X : Nat → Bool), 12 - sz X ≤ k → P X → ∃ X, P X ∧ ∀ Y, P Y → sz Y ≤ sz X := by
  intro k
  induction k with
  | zero =>
    intro X h hP
    refine ⟨X, hP, fun Y _ => ?_⟩
    have := sz_le12 Y
    omega
  | succ k ih =>
    intro X h hP
    by_cases c : ∃ Y, P Y ∧ sz X < sz Y
    · obtain ⟨Y, y1, y2⟩ := c
      have := sz_le12 Y
      exact ih Y (by omega) y1
    · refine ⟨X, hP, fun Y hY => ?_⟩
      by_cases d : sz Y ≤ sz X
      · exact d
      · exact absurd ⟨Y, hY, by omega⟩ c
theorem len_split (p : Nat × Nat → Bool) (l : List (Nat × Nat)) : l.length = l.countP p + (l.filter (fun e => !p e)).length := by
  induction l with
  | nil => rfl
  | cons e l ih =>
    rw [List.countP_cons, List.filter_cons, List.length_cons, ih]
    cases p e
    · simp; omega
    · simp; omega
theorem ic_filter_le (p : Nat × Nat → Bool) (l : List (Nat × Nat)) (X : Nat → Bool) : ic (l.filter p) X ≤ ic l X := by
  unfold ic
  exact List.Sublist.countP_le (List.filter_sublist)
theorem SP.filter {es : List (Nat × Nat)} (hs : SP es) (p : Nat × Nat → Bool) : SP (es.filter p) := by
  intro X hX
  have := hs X hX
  have := ic_filter_le p es X
  omega
theorem WL.filter {es : List (Nat × Nat)} (hw : WL es) (p : Nat × Nat → Bool) : WL (es.filter p) := fun e he => hw e (List.mem_filter.mp he).1
/-- a sparse list that is tied by another one is no longer than it -/
theorem eqr : ∀ (k : Nat) (I J : List (Nat × Nat)), J.length ≤ k → SP I → WL I → SP J → WL J → (∀ e, e ∈ J → TE I e.1 e.2) → J.length ≤ I.length := by
  intro k
  induction k with
  | zero => intro I J h _ _ _ _ _; omega
  | succ k ih =>
    intro I J h sI wI sJ wJ hT
    match J, h, sJ, wJ, hT with
    | [], _, _, _, _ => exact Nat.zero_le _
    | e0 :: J0, h, sJ, wJ, hT =>
      generalize hJ : e0 :: J0 = J at h sJ wJ hT
      have m0 : e0 ∈ J := by rw [← hJ]; exact List.mem_cons_self
      obtain ⟨X0, a0, b0, c0⟩ := hT e0 m0
      obtain ⟨C, ⟨c1, e1, m1, c2, c3⟩, cm⟩ := mx_h (fun X => 2 * sz X ≤ ic I X + 3 ∧ ∃ e, e ∈ J ∧ X e.1 = true ∧ X e.2 = true) 12 X0 (by omega) ⟨c0, e0, m0, a0, b0⟩
      have sC : 2 ≤ sz C := sz_two (wJ e1 m1).2.1 (wJ e1 m1).2.2 (wJ e1 m1).1 c2 c3
      have lI := len_split (fun e => C e.1 && C e.2) I
      have lJ := len_split (fun e => C e.1 && C e.2) J
      have jC := sJ C sC
      have pJ : 0 < ic J C := ic_pos.mpr ⟨e1, m1, c2, c3⟩
      have dI : I.countP (fun e => C e.1 && C e.2) = ic I C := rfl
      have dJ : J.countP (fun e => C e.1 && C e.2) = ic J C := rfl
      have step := ih (I.filter (fun e => !(C e.1 && C e.2))) (J.filter (fun e => !(C e.1 && C e.2))) (by omega) (sI.filter _) (wI.filter _) (sJ.filter _) (wJ.filter _) (fun e he => by
        obtain ⟨he1, he2⟩ := List.mem_filter.mp he
        obtain ⟨D, d1, d2, d3⟩ := hT e he1
        have w := wJ e he1
        by_cases big : 2 ≤ sz (nt D C)
        · exfalso
          have t := un_tight sI d3 c1 big
          have le := cm (un D C) ⟨t, e, he1, by simp [un, d1], by simp [un, d2]⟩
          have s := sz_un D C
          have lt : sz (nt D C) < sz D := by
            cases v1 : C e.1
            · exact sz_lt (fun v _ hv => by unfold nt at hv; simp only [Bool.and_eq_true] at hv; exact hv.1) w.2.1 d1 (by simp [nt, v1])
            · cases v2 : C e.2
              · exact sz_lt (fun v _ hv => by unfold nt at hv; simp only [Bool.and_eq_true] at hv; exact hv.1) w.2.2 d2 (by simp [nt, v2])
              · rw [v1, v2] at he2; cases he2
          omega
        · refine ⟨D, d1, d2, ?_⟩
          have : ic (I.filter (fun e => !(C e.1 && C e.2))) D = ic I D := by
            unfold ic
            rw [List.countP_filter]
            apply List.countP_congr
            intro x hx
            have := two_in wI (show sz (nt D C) ≤ 1 by omega) hx
            unfold nt at this
            revert this
            cases D x.1 <;> cases D x.2 <;> cases C x.1 <;> cases C x.2 <;> decide
          rw [this]
          exact d3)
      omega
/-- the rank doesn't depend on the order -/
theorem rk_le {W W' : Nat → Nat × Nat} {m m' : Nat} (h : OK W m) (h' : OK W' m') (hs : ∀ i, i < m → ∃ k, k < m' ∧ W' k = W i) : (GE W m).length ≤ (GE W' m').length := by
  refine eqr _ _ _ (Nat.le_refl _) (GE_sp W' m') (GE_wl h') (GE_sp W m) (GE_wl h) (fun e he => ?_)
  obtain ⟨i, hi, rfl⟩ := GE_mem he
  obtain ⟨k, hk, e⟩ := hs i hi
  rw [← e]
  exact GE_te h' k hk
