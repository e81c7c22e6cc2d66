/-! neighbours, degrees -/
def adj (L : List (Nat × Nat)) (v w : Nat) : Bool := decide ((v, w) ∈ L) || decide ((w, v) ∈ L)
def nm (L : List (Nat × Nat)) (v : Nat) : Nat := bw (adj L v) 12
theorem nm_bit (L : List (Nat × Nat)) (v w : Nat) : (nm L v).testBit w = (decide (w < 12) && adj L v w) := bw_bit _ 12 w
theorem nm_lt (L : List (Nat × Nat)) (v : Nat) : nm L v < 2 ^ 12 := bw_lt _ 12
theorem adj_cons (a b : Nat) (L : List (Nat × Nat)) (v w : Nat) : adj ((a, b) :: L) v w = (adj L v w || (decide (a = v ∧ b = w) || decide (b = v ∧ a = w))) := by
  unfold adj
  simp only [List.mem_cons, Prod.mk.injEq]
  have e1 : (v = a ∧ w = b) ↔ (a = v ∧ b = w) := by constructor <;> rintro ⟨rfl, rfl⟩ <;> exact ⟨rfl, rfl⟩
  have e2 : (w = a ∧ v = b) ↔ (b = v ∧ a = w) := by constructor <;> rintro ⟨rfl, rfl⟩ <;> exact ⟨rfl, rfl⟩
  simp only [e1, e2, Bool.decide_or]
  cases decide (a = v ∧ b = w) <;> cases decide (b = v ∧ a = w) <;> cases decide ((v, w) ∈ L) <;> cases decide ((w, v) ∈ L) <;> rfl
theorem nm_step {a b : Nat} (hab : a ≠ b) (ha : a < 12) (hb : b < 12) (L : List (Nat × Nat)) (v : Nat) : nm ((a, b) :: L) v = if a = v then nm L v ||| 2 ^ b else if b = v then nm L v ||| 2 ^ a else nm L v := by
  apply Nat.eq_of_testBit_eq
  intro w
  rw [nm_bit, adj_cons]
  by_cases h1 : a = v
  · rw [if_pos h1, tb_or, nm_bit]
    have : ¬ b = v := by omega
    by_cases h3 : b = w
    · subst h3; simp [h1, hb]
    · simp [h1, h3, this]
  · rw [if_neg h1]
    by_cases h2 : b = v
    · rw [if_pos h2, tb_or, nm_bit]
      by_cases h3 : a = w
      · subst h3; simp [h1, h2, ha]
      · simp [h1, h2, h3]
    · rw [if_neg h2, nm_bit]
      simp [h1, h2]
def bl (W : Nat → Nat × Nat) : Nat → List (Nat × Nat)
  | 0 => []
  | m + 1 => W m :: bl W m
theorem bl_congr {W V : Nat → Nat × Nat} {m : Nat} (h : ∀ i, i < m → W i = V i) : bl W m = bl V m := by
  induction m with
  | zero => rfl
  | succ m ih => simp only [bl]; rw [ih (fun i hi => h i (by omega)), h m (by omega)]
theorem bl_len (W : Nat → Nat × Nat) (m : Nat) : (bl W m).length = m := by
  induction m with
  | zero => rfl
  | succ m ih => simp only [bl, List.length_cons]; rw [ih]
theorem bl_mem {W : Nat → Nat × Nat} {m : Nat} {e : Nat × Nat} : e ∈ bl W m ↔ ∃ i, i < m ∧ e = W i := by
  induction m with
  | zero => simp [bl]
  | succ m ih =>
    simp only [bl, List.mem_cons, ih]
    constructor
    · rintro (h | ⟨i, hi, h⟩)
      · exact ⟨m, by omega, h⟩
      · exact ⟨i, by omega, h⟩
    · rintro ⟨i, hi, h⟩
      by_cases c : i = m
      · subst c; exact Or.inl h
      · exact Or.inr ⟨i, by omega, h⟩
theorem nb6_h {m : Nat} (hm : m ≤ 24) {W : Nat → Nat × Nat} (hW : OK W m) {les gre : Nat → Int32} (hl : ∀ i, i < m → les i = nI (W i).1 ∧ gre i = nI (W i).2) {p : Nat} (hp : p < 12) : ∀ (fu a : Nat), a ≤ m → m - a < fu → FX0_neighbours_h4 (nI p) (nI m) les gre fu (nI (nm (bl W a) p)) (nI a) = some (nI (nm (bl W m) p)) := by
  intro fu
  induction fu with
  | zero => intro a _ h; omega
  | succ fu ih =>
    intro a ha hf
    show FX0_neighbours_b4 (nI p) (nI m) les gre (FX0_neighbours_h4 (nI p) (nI m) les gre fu) _ (nI a) = _
    unfold FX0_neighbours_b4 FX0_neighbours_b57
    by_cases h : m ≤ a
    · have : a = m := by omega
      subst this
      rw [if_pos (nI_le (Nat.le_refl _) (by omega))]
    · obtain ⟨w1, w2, w3⟩ := hW a (by omega)
      obtain ⟨l1, l2⟩ := hl a (by omega)
      rw [if_neg (nI_ge (by omega) (by omega))]
      simp only [gi (show a < 24 by omega) (show 24 < 2 ^ 31 by decide), clp (show a < 2 ^ 31 by omega), l1, l2, nI_1, nI_eq (show (W a).1 < 2 ^ 31 by omega) (show p < 2 ^ 31 by omega), nI_eq (show (W a).2 < 2 ^ 31 by omega) (show p < 2 ^ 31 by omega)]
      have go := ih (a + 1) (by omega) (by omega)
      have st := nm_step w1 w2 w3 (bl W a) p
      have e : bl W (a + 1) = ((W a).1, (W a).2) :: bl W a := rfl
      rw [e, st] at go
      have n12 := nm_lt (bl W a) p
      by_cases c1 : (W a).1 = p
      · rw [if_pos c1] at go ⊢
        rw [shl1 (by omega), orI (by omega) (Nat.pow_lt_pow_right (by decide) (by omega))]
        exact go
      · rw [if_neg c1] at go ⊢
        by_cases c2 : (W a).2 = p
        · rw [if_pos c2] at go ⊢
          rw [shl1 (by omega), orI (by omega) (Nat.pow_lt_pow_right (by decide) (by omega))]
          exact go
        · rw [if_neg c2] at go ⊢
          exact go
theorem nb7_h {m : Nat} (hm : m ≤ 24) {W : Nat → Nat × Nat} (hW : OK W m) {les gre : Nat → Int32} (hl : ∀ i, i < m → les i = nI (W i).1 ∧ gre i = nI (W i).2) {p : Nat} (hp : p < 12) : ∀ (fu a : Nat), a ≤ m → m - a < fu → FX7_neighbours_h4 (nI p) (nI m) les gre fu (nI (nm (bl W a) p)) (nI a) = some (nI (nm (bl W m) p)) := by
  intro fu
  induction fu with
  | zero => intro a _ h; omega
  | succ fu ih =>
    intro a ha hf
    show FX7_neighbours_b4 (nI p) (nI m) les gre (FX7_neighbours_h4 (nI p) (nI m) les gre fu) _ (nI a) = _
    unfold FX7_neighbours_b4 FX7_neighbours_b56
    by_cases h : m ≤ a
    · have : a = m := by omega
      subst this
      rw [if_pos (nI_le (Nat.le_refl _) (by omega))]
    · obtain ⟨w1, w2, w3⟩ := hW a (by omega)
      obtain ⟨l1, l2⟩ := hl a (by omega)
      rw [if_neg (nI_ge (by omega) (by omega))]
      simp only [gi (show a < 24 by omega) (show 24 < 2 ^ 31 by decide), clp (show a < 2 ^ 31 by omega), l1, l2, nI_1, nI_eq (show (W a).1 < 2 ^ 31 by omega) (show p < 2 ^ 31 by omega), nI_eq (show (W a).2 < 2 ^ 31 by omega) (show p < 2 ^ 31 by omega)]
      have go := ih (a + 1) (by omega) (by omega)
      have st := nm_step w1 w2 w3 (bl W a) p
      have e : bl W (a + 1) = ((W a).1, (W a).2) :: bl W a := rfl
      rw [e, st] at go
      have n12 := nm_lt (bl W a) p
      by_cases c1 : (W a).1 = p
      · rw [if_pos c1] at go ⊢
        rw [shl1 (by omega), orI (by omega) (Nat.pow_lt_pow_right (by decide) (by omega))]
        exact go
      · rw [if_neg c1] at go ⊢
        by_cases c2 : (W a).2 = p
        · rw [if_pos c2] at go ⊢
          rw [shl1 (by omega), orI (by omega) (Nat.pow_lt_pow_right (by decide) (by omega))]
          exact go
        · rw [if_neg c2] at go ⊢
          have z : nI (nm (bl W a) p) ||| 0 = nI (nm (bl W a) p) := by
            have := orI (a := nm (bl W a) p) (b := 0) (by omega) (by decide)
            rw [Nat.or_zero] at this
            exact this
          rw [z]
          exact go
theorem bw_zero {P : Nat → Bool} {m : Nat} (h : ∀ i, i < m → P i = false) : bw P m = 0 := by
  induction m with
  | zero => rfl
  | succ m ih => simp only [bw]; rw [ih (fun i hi => h i (by omega)), h m (by omega)]; rfl
theorem nm_nil (p : Nat) : nm [] p = 0 := bw_zero (fun i _ => by simp [adj])
theorem nb6_v {n nb : Nat} {br : Nat → Nat × Nat} {les gre : Nat → Int32} (hB : Br n nb br les gre) {p : Nat} (hp : p < 12) : FX0_neighbours (nI p) (nI nb) les gre = some (nI (nm (bl br nb) p)) := by
  have := nb6_h hB.2.1 hB.ok (fun i hi => ⟨(hB.2.2 i hi).2.2.1, (hB.2.2 i hi).2.2.2⟩) hp 5000 0 (Nat.zero_le _) (by have := hB.2.1; omega)
  rw [show bl br 0 = [] from rfl, nm_nil] at this
  exact this
theorem nb7_v {n nb : Nat} {br : Nat → Nat × Nat} {les gre : Nat → Int32} (hB : Br n nb br les gre) {p : Nat} (hp : p < 12) : FX7_neighbours (nI p) (nI nb) les gre = some (nI (nm (bl br nb) p)) := by
  have := nb7_h hB.2.1 hB.ok (fun i hi => ⟨(hB.2.2 i hi).2.2.1, (hB.2.2 i hi).2.2.2⟩) hp 5000 0 (Nat.zero_le _) (by have := hB.2.1; omega)
  rw [show bl br 0 = [] from rfl, nm_nil] at this
  exact this
/-- how many bars a pin has -/
def tch (v : Nat) (e : Nat × Nat) : Bool := e.1 == v || e.2 == v
def dg (L : List (Nat × Nat)) (v : Nat) : Nat := L.countP (tch v)
theorem pc_bw (P : Nat → Bool) {m : Nat} (hm : m ≤ 24) : pc (bw P m) 24 = sm (fun i => if P i then 1 else 0) m := by
  unfold pc
  rw [sm_ext hm (fun i h1 h2 => by rw [bw_bit]; simp [show ¬ i < m by omega])]
  apply sm_congr
  intro i hi
  rw [bw_bit]
  simp [hi]
/-- a list that names no bar twice, in no way -/
def ND : List (Nat × Nat) → Prop
  | [] => True
  | e :: L => adj L e.1 e.2 = false ∧ ND L
theorem pc_nm {L : List (Nat × Nat)} (hw : WL L) (hd : ND L) (v : Nat) (hv : v < 12) : pc (nm L v) 24 = dg L v := by
  unfold nm
  rw [pc_bw _ (by decide)]
  induction L with
  | nil =>
    rw [sm_zero (fun i _ => by simp [adj])]
    rfl
  | cons e L ih =>
    obtain ⟨a, b⟩ := e
    obtain ⟨h1, h2, h3⟩ := hw (a, b) List.mem_cons_self
    simp only at h1 h2 h3
    have ih' := ih (fun e he => hw e (List.mem_cons_of_mem _ he)) hd.2
    have nd : adj L a b = false := hd.1
    have nd' : adj L b a = false := by unfold adj at nd ⊢; rw [Bool.or_comm]; exact nd
    unfold dg at ih' ⊢
    rw [List.countP_cons, ← ih']
    by_cases c1 : a = v
    · subst c1
      have s := sm_one (g := fun i => if adj ((a, b) :: L) a i then 1 else 0) (h := fun i => if adj L a i then 1 else 0) (n := 12) h3 (fun i _ hne => by
        rw [adj_cons]
        have : ¬ b = i := fun e => hne e.symm
        have h1' : ¬ b = a := fun e => h1 e.symm
        simp [this, h1'])
      have t1 : adj ((a, b) :: L) a b = true := by rw [adj_cons]; simp
      simp only [t1, nd, if_true, Bool.false_eq_true, if_false] at s
      simp [tch]
      omega
    · by_cases c2 : b = v
      · subst c2
        have s := sm_one (g := fun i => if adj ((a, b) :: L) b i then 1 else 0) (h := fun i => if adj L b i then 1 else 0) (n := 12) h2 (fun i _ hne => by
          rw [adj_cons]
          have : ¬ a = i := fun e => hne e.symm
          simp [this, h1])
        have t1 : adj ((a, b) :: L) b a = true := by rw [adj_cons]; simp
        simp only [t1, nd', if_true, Bool.false_eq_true, if_false] at s
        simp [tch]
        omega
      · have s : sm (fun i => if adj ((a, b) :: L) v i then 1 else 0) 12 = sm (fun i => if adj L v i then 1 else 0) 12 := sm_congr (fun i _ => by rw [adj_cons]; simp [c1, c2])
        rw [s]
        simp [tch, c1, c2]
theorem SP.nd {L : List (Nat × Nat)} (hw : WL L) (hs : SP L) : ND L := by
  induction L with
  | nil => trivial
  | cons e L ih =>
    obtain ⟨a, b⟩ := e
    obtain ⟨h1, h2, h3⟩ := hw (a, b) List.mem_cons_self
    have hw' : WL L := fun e he => hw e (List.mem_cons_of_mem _ he)
    have hs' : SP L := fun X hX => by have := hs X hX; rw [ic_cons] at this; omega
    refine ⟨?_, ih hw' hs'⟩
    cases hx : adj L a b
    · rfl
    · exfalso
      have s := hs (fun v => v == a || v == b) (sz_two h2 h3 h1 (by simp) (by simp))
      have t := sz_pair a h2 b h3
      rw [ic_cons] at s
      have c : 0 < ic L (fun v => v == a || v == b) := by
        unfold adj at hx
        simp only [Bool.or_eq_true, decide_eq_true_eq] at hx
        rcases hx with hx | hx
        · exact ic_pos.mpr ⟨_, hx, by simp, by simp⟩
        · exact ic_pos.mpr ⟨_, hx, by simp, by simp⟩
      simp at s
      omega
theorem dg_sum {L : List (Nat × Nat)} (hw : WL L) : sm (dg L) 12 = 2 * L.length := by
  induction L with
  | nil => exact sm_zero (fun i _ => rfl)
  | cons e L ih =>
    obtain ⟨a, b⟩ := e
    obtain ⟨h1, h2, h3⟩ := hw (a, b) List.mem_cons_self
    simp only at h1 h2 h3
    have ih' := ih (fun e he => hw e (List.mem_cons_of_mem _ he))
    have e : sm (dg ((a, b) :: L)) 12 = sm (fun v => dg L v + ((if a == v then 1 else 0) + (if b == v then 1 else 0))) 12 := by
      apply sm_congr
      intro v _
      unfold dg
      rw [List.countP_cons]
      unfold tch
      by_cases c1 : a = v
      · have : ¬ b = v := by omega
        simp [c1, this]
      · simp [c1]
    have o : ∀ a, a < 12 → sm (fun v => if a == v then 1 else 0) 12 = 1 := by decide +kernel
    rw [e, sm_add, sm_add, ih', o a h2, o b h3, List.length_cons]
    omega
