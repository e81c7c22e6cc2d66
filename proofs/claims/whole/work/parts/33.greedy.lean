/-! bars that carry, by lists of bars: what both sides' pebbles tell -/
def ic (es : List (Nat × Nat)) (X : Nat → Bool) : Nat := es.countP (fun e => X e.1 && X e.2)
def TE (es : List (Nat × Nat)) (p q : Nat) : Prop := ∃ X : Nat → Bool, X p = true ∧ X q = true ∧ 2 * sz X ≤ ic es X + 3
noncomputable def tb (es : List (Nat × Nat)) (p q : Nat) : Bool := @decide (TE es p q) (Classical.propDecidable _)
theorem tb_t {es : List (Nat × Nat)} {p q : Nat} : tb es p q = true ↔ TE es p q := by
  unfold tb
  exact @decide_eq_true_iff _ (Classical.propDecidable _)
theorem tb_f {es : List (Nat × Nat)} {p q : Nat} : tb es p q = false ↔ ¬ TE es p q := by
  rw [← tb_t]; simp
def Lay (f : Nat → Int32) (es : List (Nat × Nat)) : Prop := WF f ∧ ∀ X, cnt f X = ic es X
theorem Lay.te {f : Nat → Int32} {es : List (Nat × Nat)} (h : Lay f es) {p q : Nat} : Tight f p q ↔ TE es p q := by
  constructor
  · rintro ⟨X, a, b, c⟩; exact ⟨X, a, b, by rw [← h.2]; exact c⟩
  · rintro ⟨X, a, b, c⟩; exact ⟨X, a, b, by rw [h.2]; exact c⟩
theorem Lay.keep {f g : Nat → Int32} {es : List (Nat × Nat)} (h : Lay f es) (k : Keep f g) : Lay g es := ⟨k.1, fun X => (k.2 X).trans (h.2 X)⟩
theorem Lay.lay {f : Nat → Int32} {es : List (Nat × Nat)} (h : Lay f es) {p q : Nat} (hp : p < 12) (hq : q < 12) (hpq : p ≠ q) (hf : f (2 * p) = -1) : Lay (upd f (2 * p) (nI q)) ((p, q) :: es) := by
  obtain ⟨a, b⟩ := lay1 h.1 hp hq hpq hf
  refine ⟨a, fun X => ?_⟩
  rw [b X, h.2 X]
  unfold ic
  rw [List.countP_cons]
/-- the answer b is what the bars say, and the pebbles still lie on them -/
theorem Carry.lay {f f' : Nat → Int32} {es : List (Nat × Nat)} (h : Lay f es) {p q : Nat} (hp : p < 12) (hq : q < 12) (hpq : p ≠ q) {b : Int32} (c : Carry f p q b f') : Lay f' es ∧ b = (if tb es p q then 0 else 1) ∧ (tb es p q = false → f' (2 * p) = -1) := by
  obtain ⟨k, c⟩ := c
  have hl := h.keep k
  refine ⟨hl, ?_⟩
  rcases c with ⟨rfl, c1, c2⟩ | ⟨rfl, c⟩
  · have : ¬ TE es p q := fun t => free4 hp hq hpq c1 c2 (hl.te.mpr t)
    rw [tb_f.mpr this]
    exact ⟨rfl, fun _ => (fr2 c1).1⟩
  · rw [tb_t.mpr (h.te.mp c)]
    exact ⟨rfl, fun h => by cases h⟩
theorem cL6 {f : Nat → Int32} {es : List (Nat × Nat)} (h : Lay f es) {p q : Nat} (hp : p < 12) (hq : q < 12) (hpq : p ≠ q) (qu ca : Nat → Int32) : ∃ f' qu' ca', FX1_wouldCarry (nI p) (nI q) f qu ca = some ((if tb es p q then 0 else 1), f', qu', ca') ∧ Lay f' es ∧ (tb es p q = false → f' (2 * p) = -1) := by
  obtain ⟨b, f', qu', ca', e, c⟩ := carry6 hp hq hpq h.1 qu ca
  obtain ⟨a1, rfl, a3⟩ := c.lay h hp hq hpq
  exact ⟨f', qu', ca', e, a1, a3⟩
theorem bL7 {f : Nat → Int32} {es : List (Nat × Nat)} (h : Lay f es) {p q : Nat} (hp : p < 12) (hq : q < 12) (hpq : p ≠ q) (sn : Int32) : ∃ f' sn', FX7_brings (nI p) (nI q) f sn = some ((if tb es p q then 0 else 1), f', sn') ∧ Lay f' es ∧ (tb es p q = false → f' (2 * p) = -1) := by
  obtain ⟨b, f', sn', e, c⟩ := brings7 hp hq hpq h.1 sn
  obtain ⟨a1, rfl, a3⟩ := c.lay h hp hq hpq
  exact ⟨f', sn', e, a1, a3⟩
/-- one bar more behind es -/
noncomputable def gs (es : List (Nat × Nat)) (e : Nat × Nat) : List (Nat × Nat) := if tb es e.1 e.2 then es else e :: es
theorem comes_v {f : Nat → Int32} {es : List (Nat × Nat)} (h : Lay f es) {p q : Nat} (hp : p < 12) (hq : q < 12) (hpq : p ≠ q) (sn rk : Int32) : ∃ f' sn', FX7_comes (nI p) (nI q) f sn rk = some ((if tb es p q then 0 else 1), f', sn', (if tb es p q then rk else rk + 1)) ∧ Lay f' (gs es (p, q)) := by
  obtain ⟨f', sn', e, a, b⟩ := bL7 h hp hq hpq sn
  unfold FX7_comes gs
  rw [e]
  simp only [Option.bind_some]
  by_cases t : tb es p q = true
  · simp only [t, if_true]
    exact ⟨f', sn', rfl, a⟩
  · have tf : tb es p q = false := by simpa using t
    simp only [tf, Bool.false_eq_true, if_false, if_neg (show ¬ (1 : Int32) = 0 by decide)]
    rw [mul2I, gi (by omega) (by decide), clp (by omega)]
    exact ⟨_, sn', rfl, a.lay hp hq hpq (b tf)⟩
/-- greedy, in an order -/
noncomputable def GE (ed : Nat → Nat × Nat) : Nat → List (Nat × Nat)
  | 0 => []
  | m + 1 => gs (GE ed m) (ed m)
noncomputable def gb (ed : Nat → Nat × Nat) (m : Nat) : Bool := !tb (GE ed m) (ed m).1 (ed m).2
noncomputable def GM (ed : Nat → Nat × Nat) : Nat → Nat
  | 0 => 0
  | m + 1 => GM ed m + (if gb ed m then 2 ^ m else 0)
theorem GE_congr {a b : Nat → Nat × Nat} {m : Nat} (h : ∀ i, i < m → a i = b i) : GE a m = GE b m := by
  induction m with
  | zero => rfl
  | succ m ih => simp only [GE]; rw [ih (fun i hi => h i (by omega)), h m (by omega)]
theorem gb_congr {a b : Nat → Nat × Nat} {m : Nat} (h : ∀ i, i ≤ m → a i = b i) : gb a m = gb b m := by
  unfold gb
  rw [GE_congr (fun i hi => h i (by omega)), h m (Nat.le_refl _)]
theorem GM_congr {a b : Nat → Nat × Nat} {m : Nat} (h : ∀ i, i < m → a i = b i) : GM a m = GM b m := by
  induction m with
  | zero => rfl
  | succ m ih => simp only [GM]; rw [ih (fun i hi => h i (by omega)), gb_congr (fun i hi => h i (by omega))]
theorem GM_lt (ed : Nat → Nat × Nat) (m : Nat) : GM ed m < 2 ^ m := by
  induction m with
  | zero => simp [GM]
  | succ m ih => simp only [GM]; rw [Nat.pow_succ]; split <;> omega
theorem tb_add {a m i : Nat} (ha : a < 2 ^ m) : (a + 2 ^ m).testBit i = if i = m then true else a.testBit i := by
  have e : a + 2 ^ m = 2 ^ m ||| a := by
    have := Nat.two_pow_add_eq_or_of_lt ha 1
    rw [Nat.mul_one] at this
    omega
  rw [e, Nat.testBit_or, Nat.testBit_two_pow]
  by_cases h : i = m
  · subst h; simp
  · simp [h]; intro h2; exact absurd h2.symm h
theorem GM_bit (ed : Nat → Nat × Nat) (m i : Nat) : (GM ed m).testBit i = (decide (i < m) && gb ed i) := by
  induction m with
  | zero => simp [GM]
  | succ m ih =>
    simp only [GM]
    by_cases h : gb ed m = true
    · rw [if_pos h, tb_add (GM_lt ed m), ih]
      by_cases e : i = m
      · subst e; simp [h]
      · rw [if_neg e]
        by_cases l : i < m
        · simp [l, show i < m + 1 by omega]
        · simp [l, show ¬ i < m + 1 by omega]
    · rw [if_neg h, Nat.add_zero, ih]
      by_cases e : i = m
      · subst e; simp [h]
      · by_cases l : i < m
        · simp [l, show i < m + 1 by omega]
        · simp [l, show ¬ i < m + 1 by omega]
theorem GE_len (ed : Nat → Nat × Nat) (m : Nat) : (GE ed m).length = sm (fun i => if gb ed i then 1 else 0) m := by
  induction m with
  | zero => rfl
  | succ m ih =>
    simp only [GE, sm, gs]
    rw [← ih]
    unfold gb
    by_cases t : tb (GE ed m) (ed m).1 (ed m).2 = true
    · simp [t]
    · simp [t]
theorem or_bit {a m : Nat} (ha : a < 2 ^ m) : a ||| 2 ^ m = a + 2 ^ m := by
  have := Nat.two_pow_add_eq_or_of_lt ha 1
  rw [Nat.mul_one] at this
  rw [Nat.or_comm]
  omega
/-- the bars of a frame, as pairs -/
def Br (n nb : Nat) (br : Nat → Nat × Nat) (les gre : Nat → Int32) : Prop := n ≤ 12 ∧ nb ≤ 24 ∧ ∀ b, b < nb → (br b).1 < (br b).2 ∧ (br b).2 < n ∧ les b = nI (br b).1 ∧ gre b = nI (br b).2
theorem FrR.br {n nb : Nat} {pins bars : Int32} {names lesser greater : Nat → Int32} {mpins mbars : Int32} {mname mlow mhigh : Nat → Int32} (h : FrR n nb pins bars names lesser greater mpins mbars mname mlow mhigh) : ∃ br : Nat → Nat × Nat, Br n nb br lesser greater ∧ Br n nb br mlow mhigh ∧ ∀ b c, b < nb → c < nb → br b = br c → b = c := by
  obtain ⟨h1, h2, h3, h4, h5, h6, h7, h8, h9⟩ := h
  refine ⟨fun b => ((lesser b).toNatClampNeg, (greater b).toNatClampNeg), ⟨h1, h2, ?_⟩, ⟨h1, h2, ?_⟩, ?_⟩
  · intro b hb
    obtain ⟨p, q, a1, a2, a3, a4, a5, a6⟩ := h7 b hb
    simp only [a3, a4, clp (show p < 2 ^ 31 by omega), clp (show q < 2 ^ 31 by omega)]
    exact ⟨a1, a2, trivial, trivial⟩
  · intro b hb
    obtain ⟨p, q, a1, a2, a3, a4, a5, a6⟩ := h7 b hb
    simp only [a3, a4, a5, a6, clp (show p < 2 ^ 31 by omega), clp (show q < 2 ^ 31 by omega)]
    exact ⟨a1, a2, trivial, trivial⟩
  · intro b c hb hc e
    obtain ⟨p, q, a1, a2, a3, a4, a5, a6⟩ := h7 b hb
    obtain ⟨p', q', b1, b2, b3, b4, b5, b6⟩ := h7 c hc
    have e1 := congrArg Prod.fst e
    have e2 := congrArg Prod.snd e
    simp only [a3, a4, b3, b4, clp (show p < 2 ^ 31 by omega), clp (show q < 2 ^ 31 by omega), clp (show p' < 2 ^ 31 by omega), clp (show q' < 2 ^ 31 by omega)] at e1 e2
    exact h8 b c hb hc (by rw [a3, b3, e1]) (by rw [a4, b4, e2])
theorem freeAll_h : ∀ (fu i : Nat) (f : Nat → Int32), i ≤ 24 → 24 - i < fu → ∃ f', FX1_freeAll_h2 fu (nI i) f = some f' ∧ ∀ k, (k < i → f' k = f k) ∧ (i ≤ k → k < 24 → f' k = -1) := by
  intro fu
  induction fu with
  | zero => intro i _ _ h; omega
  | succ fu ih =>
    intro i f hi hf
    show ∃ f', FX1_freeAll_b2 (FX1_freeAll_h2 fu) (nI i) f = some f' ∧ _
    unfold FX1_freeAll_b2
    by_cases h : 24 ≤ i
    · rw [if_pos (show (24 : Int32) ≤ nI i from nI_le h (by omega))]
      exact ⟨f, rfl, fun k => ⟨fun _ => rfl, fun h1 h2 => by omega⟩⟩
    · rw [if_neg (show ¬ (24 : Int32) ≤ nI i from nI_ge (show i < 24 by omega) (by decide)), gi (by omega) (by decide), clp (by omega), nI_1]
      obtain ⟨x, e, hk⟩ := ih (i + 1) (upd f i (-1)) (by omega) (by omega)
      refine ⟨x, e, fun k => ⟨fun h1 => ?_, fun h1 h2 => ?_⟩⟩
      · have := (hk k).1 (by omega)
        rwa [updN (by omega)] at this
      · rcases Nat.eq_or_lt_of_le h1 with rfl | h1
        · have := (hk i).1 (by omega)
          rwa [updS] at this
        · exact (hk k).2 h1 h2
theorem Lay.nil {f : Nat → Int32} (h : ∀ k, k < 24 → f k = -1) : Lay f [] := by
  refine ⟨fun k hk => Or.inl (h k hk), fun X => ?_⟩
  unfold cnt ic
  rw [sm_zero (fun i hi => by unfold lf; rw [if_pos (h i hi)])]
  rfl
theorem freeAll_v (f : Nat → Int32) : ∃ f', FX1_freeAll f = some f' ∧ Lay f' [] := by
  obtain ⟨f', e, h⟩ := freeAll_h 5000 0 f (by omega) (by omega)
  exact ⟨f', e, Lay.nil (fun k hk => (h k).2 (Nat.zero_le _) hk)⟩
theorem empties_h : ∀ (fu i : Nat) (f : Nat → Int32) (rk : Int32), i ≤ 24 → 24 - i < fu → ∃ f', FX7_empties_h2 fu (nI i) f rk = some (f', 0) ∧ ∀ k, (k < i → f' k = f k) ∧ (i ≤ k → k < 24 → f' k = -1) := by
  intro fu
  induction fu with
  | zero => intro i _ _ _ h; omega
  | succ fu ih =>
    intro i f rk hi hf
    show ∃ f', FX7_empties_b2 (FX7_empties_h2 fu) (nI i) f rk = some (f', 0) ∧ _
    unfold FX7_empties_b2
    by_cases h : 24 ≤ i
    · rw [if_pos (show (24 : Int32) ≤ nI i from nI_le h (by omega))]
      exact ⟨f, rfl, fun k => ⟨fun _ => rfl, fun h1 h2 => by omega⟩⟩
    · rw [if_neg (show ¬ (24 : Int32) ≤ nI i from nI_ge (show i < 24 by omega) (by decide)), gi (by omega) (by decide), clp (by omega), nI_1]
      obtain ⟨x, e, hk⟩ := ih (i + 1) (upd f i (-1)) rk (by omega) (by omega)
      refine ⟨x, e, fun k => ⟨fun h1 => ?_, fun h1 h2 => ?_⟩⟩
      · have := (hk k).1 (by omega)
        rwa [updN (by omega)] at this
      · rcases Nat.eq_or_lt_of_le h1 with rfl | h1
        · have := (hk i).1 (by omega)
          rwa [updS] at this
        · exact (hk k).2 h1 h2
theorem empties_v (f : Nat → Int32) (rk : Int32) : ∃ f', FX7_empties f rk = some (f', 0) ∧ Lay f' [] := by
  obtain ⟨f', e, h⟩ := empties_h 5000 0 f rk (by omega) (by omega)
  exact ⟨f', e, Lay.nil (fun k hk => (h k).2 (Nat.zero_le _) hk)⟩
/-- the order in which one bar is the last -/
def wl (br : Nat → Nat × Nat) (nb last : Nat) : Nat → Nat × Nat := fun a => br (if a = nb - 1 then last else if a < last then a else a + 1)
theorem cwl_h {n nb : Nat} {br : Nat → Nat × Nat} {les gre : Nat → Int32} (hB : Br n nb br les gre) {last : Nat} (hl : last < nb) : ∀ (fu a : Nat) (f qu ca : Nat → Int32), a ≤ nb → nb - a < fu → Lay f (GE (wl br nb last) a) → ∃ f' qu' ca', FX3_carryingWithLast_h12 (nI last) (nI nb) les gre fu (nI (GM (wl br nb last) a)) (nI a) f qu ca = some (nI (GM (wl br nb last) nb), f', qu', ca') ∧ Lay f' (GE (wl br nb last) nb) := by
  intro fu
  induction fu with
  | zero => intro a _ _ _ _ h; omega
  | succ fu ih =>
    intro a f qu ca ha hf hL
    obtain ⟨n12, nb24, hb⟩ := hB
    show ∃ f' qu' ca', FX3_carryingWithLast_b12 (nI last) (nI nb) les gre (FX3_carryingWithLast_h12 (nI last) (nI nb) les gre fu) (nI (GM (wl br nb last) a)) (nI a) f qu ca = _ ∧ _
    unfold FX3_carryingWithLast_b12
    by_cases h : nb ≤ a
    · have : a = nb := by omega
      subst this
      rw [if_pos (nI_le (Nat.le_refl _) (by omega))]
      exact ⟨f, qu, ca, rfl, hL⟩
    · rw [if_neg (nI_ge (by omega) (by omega)), sub1I (by omega)]
      have go : ∀ t : Nat, t < nb → wl br nb last a = br t → ∃ f' qu' ca', FX3_carryingWithLast_b51 (nI last) (nI nb) les gre (FX3_carryingWithLast_h12 (nI last) (nI nb) les gre fu) (nI (GM (wl br nb last) a)) (nI a) (nI t) f qu ca = some (nI (GM (wl br nb last) nb), f', qu', ca') ∧ Lay f' (GE (wl br nb last) nb) := by
        intro t ht e
        obtain ⟨b1, b2, b3, b4⟩ := hb t ht
        unfold FX3_carryingWithLast_b51 FX3_carryingWithLast_b103
        rw [gi (by omega) (by decide), gi (by omega) (by decide), clp (by omega), b3, b4]
        obtain ⟨f1, qu1, ca1, e1, l1, l2⟩ := cL6 hL (p := (br t).1) (q := (br t).2) (by omega) (by omega) (by omega) qu ca
        rw [e1]
        simp only [Option.bind_some]
        have gE : GE (wl br nb last) (a + 1) = gs (GE (wl br nb last) a) (br t) := by simp only [GE]; rw [e]
        have gB : gb (wl br nb last) a = !tb (GE (wl br nb last) a) (br t).1 (br t).2 := by unfold gb; rw [e]
        by_cases tt : tb (GE (wl br nb last) a) (br t).1 (br t).2 = true
        · rw [tt, if_pos rfl, if_pos rfl, nI_1]
          have gM : GM (wl br nb last) (a + 1) = GM (wl br nb last) a := by simp only [GM]; rw [gB, tt]; simp
          rw [← gM]
          exact ih (a + 1) f1 qu1 ca1 (by omega) (by omega) (by rw [gE]; unfold gs; rw [tt, if_pos rfl]; exact l1)
        · have tf : tb (GE (wl br nb last) a) (br t).1 (br t).2 = false := by simpa using tt
          rw [if_neg tt, if_neg (show ¬ (1 : Int32) = 0 by decide)]
          unfold FX1_lay
          rw [mul2I, gi (by omega) (by decide), clp (by omega)]
          simp only [Option.bind_some]
          have m31 : GM (wl br nb last) a < 2 ^ 31 := Nat.lt_of_lt_of_le (GM_lt _ a) (Nat.pow_le_pow_right (by decide) (by omega))
          rw [shl1 (by omega), orI m31 (Nat.pow_lt_pow_right (by decide) (by omega)), or_bit (GM_lt _ a), nI_1]
          have gM : GM (wl br nb last) (a + 1) = GM (wl br nb last) a + 2 ^ a := by simp only [GM]; rw [gB, tf]; simp
          rw [← gM]
          exact ih (a + 1) _ qu1 ca1 (by omega) (by omega) (by rw [gE]; unfold gs; rw [if_neg tt]; exact l1.lay (by omega) (by omega) (by omega) (l2 tf))
      by_cases h1 : a = nb - 1
      · rw [if_pos (show nI a = nI (nb - 1) by rw [h1])]
        exact go last hl (by unfold wl; rw [if_pos h1])
      · rw [if_neg (fun e => h1 ((nI_eq (by omega) (by omega)).mp e))]
        by_cases h2 : last ≤ a
        · rw [if_pos (nI_le h2 (by omega)), nI_1]
          exact go (a + 1) (by omega) (by unfold wl; rw [if_neg h1, if_neg (by omega)])
        · rw [if_neg (nI_ge (by omega) (by omega))]
          exact go a (by omega) (by unfold wl; rw [if_neg h1, if_pos (by omega)])
theorem cwl_v {n nb : Nat} {br : Nat → Nat × Nat} {les gre : Nat → Int32} (hB : Br n nb br les gre) {last : Nat} (hl : last < nb) (f qu ca : Nat → Int32) : ∃ f' qu' ca', FX3_carryingWithLast (nI last) f qu ca (nI nb) les gre = some (nI (GM (wl br nb last) nb), f', qu', ca') ∧ Lay f' (GE (wl br nb last) nb) := by
  unfold FX3_carryingWithLast
  obtain ⟨f0, e0, l0⟩ := freeAll_v f
  rw [e0]
  exact cwl_h hB hl 5000 0 f0 qu ca (Nat.zero_le _) (by have := hB.2.1; omega) l0
theorem wl_last (br : Nat → Nat × Nat) {nb i : Nat} (h : i < nb) : wl br nb (nb - 1) i = br i := by
  unfold wl
  by_cases e : i = nb - 1
  · rw [if_pos e, e]
  · rw [if_neg e, if_pos (by omega)]
/-- as the bars are -/
theorem cw_v {n nb : Nat} {br : Nat → Nat × Nat} {les gre : Nat → Int32} (hB : Br n nb br les gre) (f qu ca : Nat → Int32) : ∃ f' qu' ca', FX3_carryingWithLast (nI nb - 1) f qu ca (nI nb) les gre = some (nI (GM br nb), f', qu', ca') ∧ Lay f' (GE br nb) := by
  rcases Nat.eq_zero_or_pos nb with rfl | hp
  · unfold FX3_carryingWithLast
    obtain ⟨f0, e0, l0⟩ := freeAll_v f
    rw [e0]
    refine ⟨f0, qu, ca, ?_, l0⟩
    show FX3_carryingWithLast_b12 (nI 0 - 1) (nI 0) les gre (FX3_carryingWithLast_h12 (nI 0 - 1) (nI 0) les gre 4999) 0 0 f0 qu ca = _
    unfold FX3_carryingWithLast_b12
    rw [if_pos (show nI 0 ≤ 0 by decide)]
    rfl
  · rw [sub1I hp]
    obtain ⟨f', qu', ca', e, l⟩ := cwl_v hB (last := nb - 1) (by omega) f qu ca
    rw [GM_congr (b := br) (fun i hi => wl_last br hi)] at e
    rw [GE_congr (b := br) (fun i hi => wl_last br hi)] at l
    exact ⟨f', qu', ca', e, l⟩
