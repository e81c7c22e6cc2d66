/-! taken down, the class -/
def NR (near : Nat → Int32) (L : List (Nat × Nat)) : Prop := ∀ v, v < 12 → near v = nI (nm L v)
theorem dg_le (L : List (Nat × Nat)) (v : Nat) : dg L v ≤ L.length := List.countP_le_length
theorem cfo_h {L : List (Nat × Nat)} (hw : WL L) (hs : SP L) (hl : L.length ≤ 24) {near : Nat → Int32} (hN : NR near L) {m : Nat} (hm : m < 24) : ∀ (fu p : Nat), p ≤ 12 → 12 - p < fu → (∀ v, p ≤ v → v < 12 → dg L v = m → (∀ w, p ≤ w → w < v → ¬ dg L w = m) → FX4_firstOf_h2 (nI m) near fu (nI p) = some (nI v)) ∧ ((∀ w, p ≤ w → w < 12 → ¬ dg L w = m) → FX4_firstOf_h2 (nI m) near fu (nI p) = some (-1)) := by
  intro fu
  induction fu with
  | zero => intro p _ h; omega
  | succ fu ih =>
    intro p hp hf
    show (∀ v, p ≤ v → v < 12 → dg L v = m → _ → FX4_firstOf_b2 (nI m) near (FX4_firstOf_h2 (nI m) near fu) (nI p) = _) ∧ (_ → FX4_firstOf_b2 (nI m) near (FX4_firstOf_h2 (nI m) near fu) (nI p) = _)
    unfold FX4_firstOf_b2
    by_cases h : 12 ≤ p
    · rw [if_pos (show (12 : Int32) ≤ nI p from nI_le h (by omega))]
      exact ⟨fun v h1 h2 => by omega, fun _ => rfl⟩
    · have n12 := nm_lt L p
      have d := dg_le L p
      rw [if_neg (show ¬ (12 : Int32) ≤ nI p from nI_ge (show p < 12 by omega) (by decide)), gi (by omega) (by decide), clp (by omega), hN p (by omega), bitCount_v (by omega), pc_nm hw (hs.nd hw) p (by omega), nI_1]
      simp only [Option.bind_some]
      obtain ⟨i1, i2⟩ := ih (p + 1) (by omega) (by omega)
      by_cases c : dg L p = m
      · rw [if_pos (by rw [c])]
        refine ⟨fun v h1 h2 h3 h4 => ?_, fun h4 => absurd c (h4 p (Nat.le_refl _) (by omega))⟩
        by_cases e : p = v
        · rw [e]
        · exact absurd c (h4 p (Nat.le_refl _) (by omega))
      · rw [if_neg (fun e => c ((nI_eq (by omega) (by omega)).mp e))]
        refine ⟨fun v h1 h2 h3 h4 => ?_, fun h4 => i2 (fun w a b => h4 w (by omega) b)⟩
        have : p ≠ v := fun e => c (by rw [e]; exact h3)
        exact i1 v (by omega) h2 h3 (fun w a b => h4 w (by omega) b)
theorem adj_flt (L : List (Nat × Nat)) (v p w : Nat) : adj (flt L v) p w = (adj L p w && (!(p == v) && !(w == v))) := by
  unfold adj flt
  simp only [List.mem_filter, tch]
  by_cases a : (p, w) ∈ L <;> by_cases b : (w, p) ∈ L <;> by_cases c : p = v <;> by_cases d : w = v <;> simp [a, b, c, d]
theorem nm_flt {L : List (Nat × Nat)} {v p : Nat} (hv : v < 12) (hp : p ≠ v) : nI (nm L p) &&& (((1 : Int32) <<< (nI v &&& 31)) ^^^ (-1)) = nI (nm (flt L v) p) := by
  have n12 := nm_lt L p
  rw [and_mask (by omega) (by omega)]
  congr 1
  apply Nat.eq_of_testBit_eq
  intro w
  rw [Nat.testBit_and, nm_bit, nm_bit, adj_flt]
  by_cases h : w < 12
  · rw [mskb24 v (by omega) w (by omega)]
    have e1 : (p == v) = false := by simpa using hp
    rw [e1]
    by_cases c : w = v
    · simp [c]
    · have e2 : (w == v) = false := by simpa using c
      simp [c, e2]
  · simp [h]
theorem nm_flt0 (L : List (Nat × Nat)) (v : Nat) : nm (flt L v) v = 0 := bw_zero (fun i _ => by rw [adj_flt]; simp)
theorem cta_h {L : List (Nat × Nat)} {v : Nat} (hv : v < 12) {near : Nat → Int32} (hN : NR near L) : ∀ (fu a : Nat) (nr : Nat → Int32), a ≤ 12 → 12 - a < fu → (∀ p, p < a → nr p = nI (nm (flt L v) p)) → (∀ p, a ≤ p → nr p = upd near v 0 p) → ∃ nr', FX4_takeAway_h9 (nI v) fu (nI a) nr = some nr' ∧ NR nr' (flt L v) := by
  intro fu
  induction fu with
  | zero => intro a _ _ h; omega
  | succ fu ih =>
    intro a nr ha hf h1 h2
    show ∃ nr', FX4_takeAway_b9 (nI v) (FX4_takeAway_h9 (nI v) fu) (nI a) nr = _ ∧ _
    unfold FX4_takeAway_b9
    by_cases h : 12 ≤ a
    · rw [if_pos (show (12 : Int32) ≤ nI a from nI_le h (by omega))]
      exact ⟨nr, rfl, fun p hp => h1 p (by omega)⟩
    · rw [if_neg (show ¬ (12 : Int32) ≤ nI a from nI_ge (show a < 12 by omega) (by decide)), gi (show a < 12 by omega) (by decide), gi (show a < 12 by omega) (by decide), clp (show a < 2 ^ 31 by omega), nI_1]
      refine ih (a + 1) _ (by omega) (by omega) (fun p hp => ?_) (fun p hp => ?_)
      · by_cases e : p = a
        · subst e
          rw [updS, h2 p (Nat.le_refl _)]
          by_cases c : p = v
          · subst c
            rw [updS, nm_flt0]
            simp
            rfl
          · rw [updN c, hN p (by omega)]
            exact nm_flt hv c
        · rw [updN e]; exact h1 p (by omega)
      · rw [updN (by omega)]; exact h2 p (by omega)
theorem cta_v {L : List (Nat × Nat)} {v : Nat} (hv : v < 12) {near : Nat → Int32} (hN : NR near L) : ∃ nr', FX4_takeAway (nI v) near = some nr' ∧ NR nr' (flt L v) := by
  unfold FX4_takeAway
  rw [gi hv (by decide), clp (by omega)]
  exact cta_h hv hN 5000 0 _ (by omega) (by omega) (fun p h => by omega) (fun p _ => rfl)
/-- a bar comes ahead of p, q -/
def bf (p q : Nat) (e : Nat × Nat) : Bool := decide (e.1 < p ∨ e.1 = p ∧ e.2 < q)
theorem ic_bf {p q : Nat} (X : Nat → Bool) : ∀ L : List (Nat × Nat), ND L → ic (L.filter (bf p (q + 1))) X = ic (L.filter (bf p q)) X + (if (p, q) ∈ L then (if X p && X q then 1 else 0) else 0) := by
  intro L
  induction L with
  | nil => intro _; simp [ic]
  | cons e L ih =>
    intro hd
    have ih' := ih hd.2
    obtain ⟨a, b⟩ := e
    by_cases c : a = p ∧ b = q
    · obtain ⟨rfl, rfl⟩ := c
      have nin : ¬ (a, b) ∈ L := fun x => by
        have := hd.1
        unfold adj at this
        simp [x] at this
      rw [if_neg nin] at ih'
      have t1 : bf a (b + 1) (a, b) = true := by simp [bf]
      have t2 : bf a b (a, b) = false := by simp [bf]
      rw [List.filter_cons, List.filter_cons, t1, t2, if_pos List.mem_cons_self]
      simp only [if_true, Bool.false_eq_true, if_false]
      rw [ic_cons]
      simp only at ih' ⊢
      omega
    · have t : bf p (q + 1) (a, b) = bf p q (a, b) := by
        unfold bf
        apply decide_eq_decide.mpr
        simp only
        omega
      have m : (p, q) ∈ (a, b) :: L ↔ (p, q) ∈ L := by
        rw [List.mem_cons]
        constructor
        · rintro (x | x)
          · exact absurd (Prod.mk.inj x) (fun y => c ⟨y.1.symm, y.2.symm⟩)
          · exact x
        · exact Or.inr
      rw [List.filter_cons, List.filter_cons, t]
      simp only [m]
      cases bf p q (a, b)
      · simpa using ih'
      · simp only [if_true]
        rw [ic_cons, ic_cons]
        omega
theorem adj_lt {L : List (Nat × Nat)} (h2 : ∀ e, e ∈ L → e.1 < e.2) {p q : Nat} (hpq : p < q) : adj L p q = true ↔ (p, q) ∈ L := by
  constructor
  · intro h
    rcases adj_mem h with x | x
    · exact x
    · have := h2 _ x; simp only at this; omega
  · intro h
    unfold adj
    simp [h]
theorem cla19 {L : List (Nat × Nat)} (hw : WL L) (h2 : ∀ e, e ∈ L → e.1 < e.2) (hs : SP L) {near : Nat → Int32} (hN : NR near L) {p : Nat} (hp : p < 12) {k9 : Int32 → (Nat → Int32) → (Nat → Int32) → (Nat → Int32) → Option ((Nat → Int32) × (Nat → Int32) × (Nat → Int32))}
    (hk : ∀ f qu ca, Lay f (L.filter (bf (p + 1) (p + 2))) → ∃ f' qu' ca', k9 (nI (p + 1)) f qu ca = some (f', qu', ca') ∧ Lay f' L) :
    ∀ (fu q : Nat) (f qu ca : Nat → Int32), p < q → q ≤ 12 → 12 - q < fu → Lay f (L.filter (bf p q)) → ∃ f' qu' ca', FX4_layAll_h19 near k9 fu (nI p) (nI q) f qu ca = some (f', qu', ca') ∧ Lay f' L := by
  intro fu
  induction fu with
  | zero => intro q _ _ _ _ _ h; omega
  | succ fu ih =>
    intro q f qu ca hpq hq hf hL
    show ∃ f' qu' ca', FX4_layAll_b19 near k9 (FX4_layAll_h19 near k9 fu) (nI p) (nI q) f qu ca = _ ∧ _
    unfold FX4_layAll_b19 FX4_layAll_b60
    by_cases h : 12 ≤ q
    · rw [if_pos (show (12 : Int32) ≤ nI q from nI_le h (by omega)), nI_1]
      refine hk f qu ca ?_
      have : L.filter (bf (p + 1) (p + 2)) = L.filter (bf p q) := by
        apply List.filter_congr
        intro e he
        have x := hw e he
        have y := h2 e he
        unfold bf
        apply decide_eq_decide.mpr
        omega
      rw [this]
      exact hL
    · have n12 := nm_lt L p
      rw [if_neg (show ¬ (12 : Int32) ≤ nI q from nI_ge (show q < 12 by omega) (by decide)), gi hp (by decide), clp (by omega), hN p hp, bitI (by omega) (by omega), nm_bit, decide_eq_true (show q < 12 by omega), Bool.true_and, nI_1]
      have iff := adj_lt h2 hpq
      have step := fun X => ic_bf (p := p) (q := q) X L (hs.nd hw)
      cases ha : adj L p q
      · have nin : ¬ (p, q) ∈ L := fun x => by rw [iff.mpr x] at ha; cases ha
        simp only [Bool.false_eq_true, if_false, if_neg (show ¬ nI 0 = 1 by decide)]
        refine ih (q + 1) f qu ca (by omega) (by omega) (by omega) ⟨hL.1, fun X => ?_⟩
        rw [step X, if_neg nin, hL.2 X, Nat.add_zero]
      · have hin := iff.mp ha
        simp only [if_true, if_pos (show nI 1 = 1 from rfl)]
        obtain ⟨f1, qu1, ca1, e1, l1, l2⟩ := cL6 hL (p := p) (q := q) hp (by omega) (by omega) qu ca
        have nt : tb (L.filter (bf p q)) p q = false := by
          rw [tb_f]
          rintro ⟨X, xp, xq, x3⟩
          have s := step X
          rw [if_pos hin, xp, xq] at s
          have i := ic_filter_le (bf p (q + 1)) L X
          have z := hs X (sz_two (p := p) (q := q) hp (by omega) (by omega) xp xq)
          simp at s
          omega
        rw [e1, nt]
        simp only [Option.bind_some, Bool.false_eq_true, if_false, if_neg (show ¬ (1 : Int32) = 0 by decide)]
        unfold FX1_lay
        rw [mul2I, gi (by omega) (by decide), clp (by omega)]
        simp only [Option.bind_some]
        have l3 := l1.lay hp (show q < 12 by omega) (show p ≠ q by omega) (l2 nt)
        refine ih (q + 1) _ qu1 ca1 (by omega) (by omega) (by omega) ⟨l3.1, fun X => ?_⟩
        rw [step X, if_pos hin, l3.2 X, ic_cons]
theorem cla9 {L : List (Nat × Nat)} (hw : WL L) (h2 : ∀ e, e ∈ L → e.1 < e.2) (hs : SP L) {near : Nat → Int32} (hN : NR near L) : ∀ (fu p : Nat) (f qu ca : Nat → Int32), p ≤ 12 → 12 - p < fu → Lay f (L.filter (bf p (p + 1))) → ∃ f' qu' ca', FX4_layAll_h9 near fu (nI p) f qu ca = some (f', qu', ca') ∧ Lay f' L := by
  intro fu
  induction fu with
  | zero => intro p _ _ _ _ h; omega
  | succ fu ih =>
    intro p f qu ca hp hf hL
    show ∃ f' qu' ca', FX4_layAll_b9 near (FX4_layAll_h9 near fu) (nI p) f qu ca = _ ∧ _
    unfold FX4_layAll_b9
    by_cases h : 12 ≤ p
    · rw [if_pos (show (12 : Int32) ≤ nI p from nI_le h (by omega))]
      refine ⟨_, _, _, rfl, ?_⟩
      have : L.filter (bf p (p + 1)) = L := by
        rw [List.filter_eq_self]
        intro e he
        have x := hw e he
        unfold bf
        exact decide_eq_true (by omega)
      rw [this] at hL
      exact hL
    · rw [if_neg (show ¬ (12 : Int32) ≤ nI p from nI_ge (show p < 12 by omega) (by decide)), nI_1]
      exact cla19 hw h2 hs hN (by omega) (fun f qu ca l => ih (p + 1) f qu ca (by omega) (by omega) l) 5000 (p + 1) f qu ca (by omega) (by omega) (by omega) hL
theorem cla_v {L : List (Nat × Nat)} (hw : WL L) (h2 : ∀ e, e ∈ L → e.1 < e.2) (hs : SP L) {near : Nat → Int32} (hN : NR near L) (f qu ca : Nat → Int32) : ∃ f' qu' ca', FX4_layAll near f qu ca = some (f', qu', ca') ∧ Lay f' L := by
  unfold FX4_layAll
  obtain ⟨f0, e0, l0⟩ := freeAll_v f
  rw [e0]
  simp only [Option.bind_some]
  refine cla9 hw h2 hs hN 5000 0 f0 qu ca (by omega) (by omega) ?_
  have : L.filter (bf 0 (0 + 1)) = [] := by
    rw [List.filter_eq_nil_iff]
    intro e he
    have y := h2 e he
    unfold bf
    simp only [decide_eq_true_eq]
    omega
  rw [this]
  exact l0
theorem NR.add {near : Nat → Int32} {L : List (Nat × Nat)} (h : NR near L) {a b : Nat} (hab : a < b) (hb : b < 12) : NR (upd (upd near a (near a ||| ((1 : Int32) <<< (nI b &&& 31)))) b (((upd near a (near a ||| ((1 : Int32) <<< (nI b &&& 31)))) b) ||| ((1 : Int32) <<< (nI a &&& 31)))) ((a, b) :: L) := by
  have pw : ∀ k, k < 12 → 2 ^ k < 2 ^ 12 := fun k hk => Nat.pow_lt_pow_right (by decide) hk
  rw [updN (show b ≠ a by omega), shl1 (by omega), shl1 (by omega)]
  intro v hv
  have n12 := nm_lt L v
  have pa := pw a (by omega)
  have pb := pw b hb
  rw [nm_step (by omega) (by omega) hb]
  by_cases c2 : b = v
  · subst c2
    rw [updS, if_neg (by omega), if_pos rfl, h b hb, orI (by omega) (by omega)]
  · rw [updN (fun e => c2 e.symm), if_neg c2]
    by_cases c1 : a = v
    · subst c1
      rw [updS, if_pos rfl, h a (by omega), orI (by omega) (by omega)]
    · rw [updN (fun e => c1 e.symm), if_neg c1, h v hv]
/-- the first pair that helps -/
def LX (L0 L : List (Nat × Nat)) (v a b : Nat) : Prop := a < b ∧ b < 12 ∧ (adj L0 v a = true ∧ adj L0 v b = true ∧ ¬ TE L a b) ∧ ∀ x y, x < y → (x < a ∨ x = a ∧ y < b) → ¬ (adj L0 v x = true ∧ adj L0 v y = true ∧ ¬ TE L x y)
theorem te_adj {L : List (Nat × Nat)} (hw : WL L) {p q : Nat} (h : adj L p q = true) : TE L p q := by
  rcases adj_mem h with x | x
  · have := hw _ x; exact te_self this.2.1 this.2.2 x
  · have := hw _ x; exact (te_self this.2.1 this.2.2 x).symm
def JP (L : List (Nat × Nat)) (a b : Nat) (x : Option (Int32 × (Nat → Int32) × (Nat → Int32) × (Nat → Int32) × (Nat → Int32))) : Prop := ∃ near' f' qu' ca', x = some (nI (100 * a + b), near', f', qu', ca') ∧ NR near' ((a, b) :: L)
theorem cjf12 {L0 L : List (Nat × Nat)} (hw : WL L) {near : Nat → Int32} (hN : NR near L) {v a b : Nat} (hx : LX L0 L v a b) {p : Nat} (hpa : p ≤ a) {k2 : Int32 → (Nat → Int32) → (Nat → Int32) → (Nat → Int32) → (Nat → Int32) → Option (Int32 × (Nat → Int32) × (Nat → Int32) × (Nat → Int32) × (Nat → Int32))}
    (hk : p < a → ∀ f qu ca, Lay f L → JP L a b (k2 (nI (p + 1)) near f qu ca)) :
    ∀ (fu q : Nat) (f qu ca : Nat → Int32), p < q → q ≤ 12 → (p < a ∨ p = a ∧ q ≤ b) → 12 - q < fu → Lay f L → JP L a b (FX4_joinFirstOf_h12 (nI (nm L0 v)) k2 fu (nI p) (nI q) near f qu ca) := by
  intro fu
  induction fu with
  | zero => intro q _ _ _ _ _ _ h; omega
  | succ fu ih =>
    intro q f qu ca hpq hq hle hf hL
    obtain ⟨xab, xb, xA, xm⟩ := hx
    show JP L a b (FX4_joinFirstOf_b12 (nI (nm L0 v)) k2 (FX4_joinFirstOf_h12 (nI (nm L0 v)) k2 fu) (nI p) (nI q) near f qu ca)
    unfold FX4_joinFirstOf_b12 FX4_joinFirstOf_b40 FX4_joinFirstOf_b41 FX4_joinFirstOf_b104
    by_cases h : 12 ≤ q
    · rw [if_pos (show (12 : Int32) ≤ nI q from nI_le h (by omega)), nI_1]
      exact hk (by omega) f qu ca hL
    · have n12 := nm_lt L0 v
      have m12 := nm_lt L p
      have ne1 : ¬ (1 : Int32) = 0 := by decide
      rw [if_neg (show ¬ (12 : Int32) ≤ nI q from nI_ge (show q < 12 by omega) (by decide)), bitI (by omega) (by omega), bitI (by omega) (by omega), nm_bit, nm_bit, decide_eq_true (show q < 12 by omega), decide_eq_true (show p < 12 by omega), Bool.true_and, Bool.true_and]
      have next : ∀ f qu ca, ¬ (p = a ∧ q = b) → Lay f L → JP L a b (FX4_joinFirstOf_h12 (nI (nm L0 v)) k2 fu (nI p) (nI q + 1) near f qu ca) := by
        intro f qu ca c l
        rw [nI_1]
        exact ih (q + 1) f qu ca (by omega) (by omega) (by omega) (by omega) l
      cases h1 : adj L0 v p
      · simp only [Bool.false_eq_true, if_false, if_neg (show ¬ nI 0 = 1 by decide), if_true]
        exact next f qu ca (fun c => by rw [c.1, xA.1] at h1; cases h1) hL
      · cases h2 : adj L0 v q
        · simp only [Bool.false_eq_true, if_false, if_neg (show ¬ nI 0 = 1 by decide), if_true, if_pos (show nI 1 = 1 from rfl)]
          exact next f qu ca (fun c => by rw [c.2, xA.2.1] at h2; cases h2) hL
        · simp only [if_true, if_pos (show nI 1 = 1 from rfl), if_neg ne1]
          simp only [gi (show p < 12 by omega) (show 12 < 2 ^ 31 by decide), gi (show q < 12 by omega) (show 12 < 2 ^ 31 by decide), clp (show p < 2 ^ 31 by omega), clp (show q < 2 ^ 31 by omega)]
          have ebit : ((near p) >>> (nI q &&& 31)) &&& 1 = nI (if adj L p q then 1 else 0) := by
            rw [hN p (by omega), bitI (by omega) (by omega), nm_bit, decide_eq_true (show q < 12 by omega), Bool.true_and]
          rw [ebit]
          obtain ⟨f1, qu1, ca1, e1, l1, _⟩ := cL6 hL (p := p) (q := q) (by omega) (by omega) (by omega) qu ca
          cases h3 : adj L p q
          · simp only [Bool.false_eq_true, if_false, if_pos (show nI 0 = 0 from rfl), e1, Option.bind_some]
            cases ht : tb L p q
            · have : p = a ∧ q = b := by
                by_cases c : p = a ∧ q = b
                · exact c
                · exact absurd ⟨h1, h2, tb_f.mp ht⟩ (xm p q hpq (by omega))
              obtain ⟨rfl, rfl⟩ := this
              simp only [Bool.false_eq_true, if_false, if_neg ne1]
              rw [mul100, nI_add]
              exact ⟨_, _, _, _, rfl, hN.add hpq (by omega)⟩
            · simp only [if_true]
              exact next f1 qu1 ca1 (fun c => xA.2.2 (by rw [← c.1, ← c.2]; exact tb_t.mp ht)) l1
          · simp only [if_true, if_neg (show ¬ nI 1 = 0 by decide)]
            exact next f qu ca (fun c => xA.2.2 (by rw [← c.1, ← c.2]; exact te_adj hw h3)) hL
theorem cjf2 {L0 L : List (Nat × Nat)} (hw : WL L) {near : Nat → Int32} (hN : NR near L) {v a b : Nat} (hx : LX L0 L v a b) : ∀ (fu p : Nat) (f qu ca : Nat → Int32), p ≤ a → 12 - p < fu → Lay f L → JP L a b (FX4_joinFirstOf_h2 (nI (nm L0 v)) fu (nI p) near f qu ca) := by
  intro fu
  induction fu with
  | zero => intro p _ _ _ _ h; omega
  | succ fu ih =>
    intro p f qu ca hp hf hL
    have h1 := hx.1
    have h2 := hx.2.1
    show JP L a b (FX4_joinFirstOf_b2 (nI (nm L0 v)) (FX4_joinFirstOf_h2 (nI (nm L0 v)) fu) (nI p) near f qu ca)
    unfold FX4_joinFirstOf_b2
    rw [if_neg (show ¬ (12 : Int32) ≤ nI p from nI_ge (show p < 12 by omega) (by decide)), nI_1]
    exact cjf12 hw hN hx hp (fun c f qu ca l => ih (p + 1) f qu ca (by omega) (by omega) l) 5000 (p + 1) f qu ca (by omega) (by omega) (by omega) (by omega) hL
