/-! taken down, the reference -/
def TH (one other : Nat → Int32) (W : Nat → Nat × Nat) (m : Nat) : Prop := ∀ i, i < m → one i = nI (W i).1 ∧ other i = nI (W i).2
theorem dg_cons (e : Nat × Nat) (L : List (Nat × Nat)) (v : Nat) : dg (e :: L) v = dg L v + if tch v e then 1 else 0 := by
  unfold dg
  rw [List.countP_cons]
theorem mbo_h {m : Nat} (hm : m ≤ 24) {W : Nat → Nat × Nat} (hW : OK W m) {one other : Nat → Int32} (hT : TH one other W m) {p : Nat} (hp : p < 12) : ∀ (fu a : Nat), a ≤ m → m - a < fu → FX7_barsOf_h4 (nI p) one other (nI m) fu (nI (dg (bl W a) p)) (nI a) = some (nI (dg (bl W m) p)) := by
  intro fu
  induction fu with
  | zero => intro a _ h; omega
  | succ fu ih =>
    intro a ha hf
    show FX7_barsOf_b4 (nI p) one other (nI m) (FX7_barsOf_h4 (nI p) one other (nI m) fu) _ (nI a) = _
    unfold FX7_barsOf_b4 FX7_barsOf_b33 FX7_barsOf_b38
    by_cases h : m ≤ a
    · have : a = m := by omega
      subst this
      rw [if_pos (nI_le (Nat.le_refl _) (by omega))]
    · obtain ⟨w1, w2, w3⟩ := hW a (by omega)
      obtain ⟨l1, l2⟩ := hT a (by omega)
      rw [if_neg (nI_ge (by omega) (by omega))]
      simp only [gi (show a < 72 by omega) (show 72 < 2 ^ 31 by decide), clp (show a < 2 ^ 31 by omega), l1, l2, nI_1, nI_eq (show (W a).1 < 2 ^ 31 by omega) (show p < 2 ^ 31 by omega), nI_eq (show (W a).2 < 2 ^ 31 by omega) (show p < 2 ^ 31 by omega)]
      have go := ih (a + 1) (by omega) (by omega)
      simp only [bl] at go
      rw [dg_cons] at go
      unfold tch at go
      by_cases c1 : (W a).1 = p
      · rw [if_pos c1]
        simpa [c1] using go
      · rw [if_neg c1]
        by_cases c2 : (W a).2 = p
        · rw [if_pos c2]
          simpa [c2] using go
        · rw [if_neg c2]
          have z : nI (dg (bl W a) p) + 0 = nI (dg (bl W a) p) := by simp
          rw [z]
          simpa [c1, c2] using go
theorem mbo_v {m : Nat} (hm : m ≤ 24) {W : Nat → Nat × Nat} (hW : OK W m) {one other : Nat → Int32} (hT : TH one other W m) {p : Nat} (hp : p < 12) : FX7_barsOf (nI p) one other (nI m) = some (nI (dg (bl W m) p)) := mbo_h hm hW hT hp 5000 0 (Nat.zero_le _) (by omega)
theorem mfo_h {n m : Nat} (hn : n ≤ 12) (hm : m ≤ 24) {W : Nat → Nat × Nat} (hW : OK W m) {one other : Nat → Int32} (hT : TH one other W m) {G : Nat} (hG : G < 2 ^ 12) (hG0 : ∀ v, G.testBit v = true → dg (bl W m) v = 0) {c : Nat} (hc : c < 24) (hc0 : 0 < c) : ∀ (fu p : Nat), p ≤ n → n - p < fu → (∀ v, p ≤ v → v < n → dg (bl W m) v = c → (∀ w, p ≤ w → w < v → ¬ dg (bl W m) w = c) → FX7_firstOf_h2 (nI c) (nI n) one other (nI m) (nI G) fu (nI p) = some (nI v)) ∧ ((∀ w, p ≤ w → w < n → ¬ dg (bl W m) w = c) → FX7_firstOf_h2 (nI c) (nI n) one other (nI m) (nI G) fu (nI p) = some (-1)) := by
  intro fu
  induction fu with
  | zero => intro p _ h; omega
  | succ fu ih =>
    intro p hp hf
    show (∀ v, p ≤ v → v < n → dg (bl W m) v = c → _ → FX7_firstOf_b2 (nI c) (nI n) one other (nI m) (nI G) (FX7_firstOf_h2 (nI c) (nI n) one other (nI m) (nI G) fu) (nI p) = _) ∧ (_ → FX7_firstOf_b2 (nI c) (nI n) one other (nI m) (nI G) (FX7_firstOf_h2 (nI c) (nI n) one other (nI m) (nI G) fu) (nI p) = _)
    unfold FX7_firstOf_b2 FX7_firstOf_b32
    by_cases h : n ≤ p
    · rw [if_pos (nI_le h (by omega))]
      exact ⟨fun v h1 h2 => by omega, fun _ => rfl⟩
    · have d := dg_le (bl W m) p
      rw [bl_len] at d
      rw [if_neg (nI_ge (by omega) (by omega)), bitI (by omega) (by omega), nI_1]
      obtain ⟨i1, i2⟩ := ih (p + 1) (by omega) (by omega)
      by_cases x : dg (bl W m) p = c
      · have hb : G.testBit p = false := by
          cases y : G.testBit p
          · rfl
          · have := hG0 p y; omega
        rw [hb]
        simp only [Bool.false_eq_true, if_false, if_pos (show nI 0 = 0 from rfl)]
        rw [mbo_v hm hW hT (by omega)]
        simp only [Option.bind_some]
        rw [if_pos (by rw [x])]
        refine ⟨fun v h1 h2 h3 h4 => ?_, fun h4 => absurd x (h4 p (Nat.le_refl _) (by omega))⟩
        by_cases e : p = v
        · rw [e]
        · exact absurd x (h4 p (Nat.le_refl _) (by omega))
      · have q : (∀ v, p ≤ v → v < n → dg (bl W m) v = c → (∀ w, p ≤ w → w < v → ¬ dg (bl W m) w = c) → FX7_firstOf_h2 (nI c) (nI n) one other (nI m) (nI G) fu (nI (p + 1)) = some (nI v)) ∧ ((∀ w, p ≤ w → w < n → ¬ dg (bl W m) w = c) → FX7_firstOf_h2 (nI c) (nI n) one other (nI m) (nI G) fu (nI (p + 1)) = some (-1)) := by
          refine ⟨fun v h1 h2 h3 h4 => ?_, fun h4 => i2 (fun w a b => h4 w (by omega) b)⟩
          have : p ≠ v := fun e => x (by rw [e]; exact h3)
          exact i1 v (by omega) h2 h3 (fun w a b => h4 w (by omega) b)
        cases y : G.testBit p
        · simp only [Bool.false_eq_true, if_false, if_pos (show nI 0 = 0 from rfl)]
          rw [mbo_v hm hW hT (by omega)]
          simp only [Option.bind_some]
          rw [if_neg (fun e => x ((nI_eq (by omega) (by omega)).mp e))]
          exact q
        · simp only [if_true, if_neg (show ¬ nI 1 = 0 by decide)]
          exact q
theorem nI_ac (v w : Nat) : nI v + nI w - nI v = nI w := by
  rw [Int32.add_comm, Int32.add_sub_cancel]
theorem nI_ac2 (v w : Nat) : nI w + nI v - nI v = nI w := by
  rw [Int32.add_sub_cancel]
theorem mgo_h {m : Nat} (hm : m ≤ 24) {W : Nat → Nat × Nat} (hW : OK W m) {v : Nat} (hv : v < 12) (G : Int32) : ∀ (fu b k : Nat) (K : Nat → Nat × Nat) (one other : Nat → Int32), b ≤ m → m - b < fu → k ≤ b → bl K k = flt (bl W b) v → TH one other K k → (∀ i, b ≤ i → i < m → one i = nI (W i).1 ∧ other i = nI (W i).2) →
    ∃ one' other' K' k', FX7_goes_h7 (nI v) fu (nI (nm (bl W b) v)) (nI k) (nI b) one other (nI m) G = some (nI (nm (bl W m) v), one', other', nI k', G ||| ((1 : Int32) <<< (nI v &&& 31))) ∧ k' ≤ m ∧ bl K' k' = flt (bl W m) v ∧ TH one' other' K' k' := by
  intro fu
  induction fu with
  | zero => intro b _ _ _ _ _ h; omega
  | succ fu ih =>
    intro b k K one other hb hf hk hK hT hI
    show ∃ one' other' K' k', FX7_goes_b7 (nI v) (FX7_goes_h7 (nI v) fu) _ (nI k) (nI b) one other (nI m) G = _ ∧ _
    unfold FX7_goes_b7 FX7_goes_b38 FX7_goes_b92
    by_cases h : m ≤ b
    · have : b = m := by omega
      subst this
      rw [if_pos (nI_le (Nat.le_refl _) (by omega))]
      exact ⟨one, other, K, k, rfl, hk, hK, hT⟩
    · obtain ⟨w1, w2, w3⟩ := hW b (by omega)
      obtain ⟨l1, l2⟩ := hI b (Nat.le_refl _) (by omega)
      have n12 := nm_lt (bl W b) v
      rw [if_neg (nI_ge (by omega) (by omega))]
      simp only [gi (show b < 72 by omega) (show 72 < 2 ^ 31 by decide), gi (show k < 72 by omega) (show 72 < 2 ^ 31 by decide), clp (show b < 2 ^ 31 by omega), clp (show k < 2 ^ 31 by omega), l1, l2, nI_1, nI_eq (show (W b).1 < 2 ^ 31 by omega) (show v < 2 ^ 31 by omega), nI_eq (show (W b).2 < 2 ^ 31 by omega) (show v < 2 ^ 31 by omega)]
      have st := nm_step w1 w2 w3 (bl W b) v
      have e : bl W (b + 1) = ((W b).1, (W b).2) :: bl W b := rfl
      have fl : flt (bl W (b + 1)) v = if tch v (W b) then flt (bl W b) v else W b :: flt (bl W b) v := by
        show List.filter _ (W b :: bl W b) = _
        rw [List.filter_cons]
        cases tch v (W b) <;> rfl
      by_cases c1 : (W b).1 = v
      · rw [if_pos c1] at st ⊢
        have go := ih (b + 1) k K one other (by omega) (by omega) (by omega) (by rw [fl, if_pos (by simp [tch, c1])]; exact hK) hT (fun i h1 h2 => hI i (by omega) h2)
        rw [e, st] at go
        rw [c1, nI_ac, shl1 (by omega), orI (by omega) (Nat.pow_lt_pow_right (by decide) (by omega))]
        exact go
      · rw [if_neg c1] at st ⊢
        by_cases c2 : (W b).2 = v
        · rw [if_pos c2] at st ⊢
          have go := ih (b + 1) k K one other (by omega) (by omega) (by omega) (by rw [fl, if_pos (by simp [tch, c2])]; exact hK) hT (fun i h1 h2 => hI i (by omega) h2)
          rw [e, st] at go
          rw [c2, nI_ac2, shl1 (by omega), orI (by omega) (Nat.pow_lt_pow_right (by decide) (by omega))]
          exact go
        · rw [if_neg c2] at st ⊢
          have go := ih (b + 1) (k + 1) (fun i => if i = k then W b else K i) (upd one k (nI (W b).1)) (upd other k (nI (W b).2)) (by omega) (by omega) (by omega) (by
            rw [fl, if_neg (by simp [tch, c1, c2]), ← hK]
            show (if k = k then W b else K k) :: bl (fun i => if i = k then W b else K i) k = _
            rw [if_pos rfl, bl_congr (V := K) (fun i hi => if_neg (by omega))]) (fun i hi => by
            by_cases ei : i = k
            · subst ei
              rw [updS, updS]
              simp
            · rw [updN ei, updN ei]
              simp only [if_neg ei]
              exact hT i (by omega)) (fun i h1 h2 => by rw [updN (by omega), updN (by omega)]; exact hI i (by omega) h2)
          rw [e, st] at go
          exact go
theorem mgo_v {m : Nat} (hm : m ≤ 24) {W : Nat → Nat × Nat} (hW : OK W m) {v : Nat} (hv : v < 12) (G : Int32) {one other : Nat → Int32} (hT : TH one other W m) : ∃ one' other' K' k', FX7_goes (nI v) one other (nI m) G = some (nI (nm (bl W m) v), one', other', nI k', G ||| ((1 : Int32) <<< (nI v &&& 31))) ∧ k' ≤ m ∧ bl K' k' = flt (bl W m) v ∧ TH one' other' K' k' := by
  have := mgo_h hm hW hv G 5000 0 0 (fun _ => (0, 0)) one other (Nat.zero_le _) (by omega) (Nat.le_refl _) rfl (fun i hi => by omega) (fun i _ h => hT i h)
  rw [show bl W 0 = [] from rfl, nm_nil] at this
  exact this
theorem mit_h {m : Nat} (hm : m ≤ 24) {W : Nat → Nat × Nat} (hW : OK W m) {one other : Nat → Int32} (hT : TH one other W m) {p q : Nat} (hp : p < 12) (hq : q < 12) : ∀ (fu a : Nat), a ≤ m → m - a < fu → ∃ r, FX7_isThere_h2 (nI p) (nI q) one other (nI m) fu (nI a) = some r ∧ (r = 0 ∨ r = 1) ∧ (r = 1 → adj (bl W m) p q = true) := by
  intro fu
  induction fu with
  | zero => intro a _ h; omega
  | succ fu ih =>
    intro a ha hf
    show ∃ r, FX7_isThere_b2 (nI p) (nI q) one other (nI m) (FX7_isThere_h2 (nI p) (nI q) one other (nI m) fu) (nI a) = _ ∧ _
    unfold FX7_isThere_b2 FX7_isThere_b30 FX7_isThere_b52
    by_cases h : m ≤ a
    · rw [if_pos (nI_le h (by omega))]
      exact ⟨0, rfl, Or.inl rfl, fun e => absurd e (by decide)⟩
    · obtain ⟨w1, w2, w3⟩ := hW a (by omega)
      obtain ⟨l1, l2⟩ := hT a (by omega)
      rw [if_neg (nI_ge (by omega) (by omega))]
      simp only [gi (show a < 72 by omega) (show 72 < 2 ^ 31 by decide), clp (show a < 2 ^ 31 by omega), l1, l2, nI_1, nI_eq (show (W a).1 < 2 ^ 31 by omega) (show p < 2 ^ 31 by omega), nI_eq (show (W a).2 < 2 ^ 31 by omega) (show p < 2 ^ 31 by omega), nI_eq (show (W a).1 < 2 ^ 31 by omega) (show q < 2 ^ 31 by omega), nI_eq (show (W a).2 < 2 ^ 31 by omega) (show q < 2 ^ 31 by omega)]
      have go := ih (a + 1) (by omega) (by omega)
      have mem : W a ∈ bl W m := bl_mem.mpr ⟨a, by omega, rfl⟩
      by_cases c1 : (W a).1 = p ∧ (W a).2 = q
      · rw [if_pos c1.1, if_pos c1.2]
        refine ⟨1, rfl, Or.inr rfl, fun _ => ?_⟩
        unfold adj
        rw [show (p, q) = W a by rw [← c1.1, ← c1.2]]
        simp [mem]
      · by_cases c2 : (W a).1 = q ∧ (W a).2 = p
        · have e : ∀ X Y : Option Int32, (if (W a).1 = p then (if (W a).2 = q then X else (if (W a).1 = q then (if (W a).2 = p then some 1 else Y) else Y)) else (if (W a).1 = q then (if (W a).2 = p then some 1 else Y) else Y)) = some 1 := by
            intro X Y
            have : ¬ (W a).1 = p := fun x => w1 (by rw [x, c2.2])
            rw [if_neg this, if_pos c2.1, if_pos c2.2]
          rw [e]
          refine ⟨1, rfl, Or.inr rfl, fun _ => ?_⟩
          unfold adj
          rw [show (q, p) = W a by rw [← c2.1, ← c2.2]]
          simp [mem]
        · have e : ∀ Y : Option Int32, (if (W a).1 = p then (if (W a).2 = q then some 1 else (if (W a).1 = q then (if (W a).2 = p then some 1 else Y) else Y)) else (if (W a).1 = q then (if (W a).2 = p then some 1 else Y) else Y)) = Y := by
            intro Y
            by_cases x1 : (W a).1 = p <;> by_cases x2 : (W a).2 = q <;> by_cases x3 : (W a).1 = q <;> by_cases x4 : (W a).2 = p <;> simp_all
          rw [e]
          exact go
theorem GE_bl {W : Nat → Nat × Nat} {m : Nat} (hW : OK W m) (hs : SP (bl W m)) : GE W m = bl W m := by
  induction m with
  | zero => rfl
  | succ m ih =>
    have hs' : SP (bl W m) := fun X hX => by have := hs X hX; simp only [bl] at this; rw [ic_cons] at this; omega
    have e := ih (fun i hi => hW i (by omega)) hs'
    simp only [GE, bl]
    rcases gs_cases (GE W m) (W m) with ⟨⟨X, x1, x2, x3⟩, _⟩ | ⟨_, b⟩
    · exfalso
      obtain ⟨w1, w2, w3⟩ := hW m (by omega)
      have := hs X (sz_two w2 w3 w1 x1 x2)
      simp only [bl] at this
      rw [ic_cons, x1, x2] at this
      rw [e] at x3
      simp at this
      omega
    · rw [b, e]
theorem mhp_h {m : Nat} (hm : m ≤ 24) {W : Nat → Nat × Nat} (hW : OK W m) {one other : Nat → Int32} (hT : TH one other W m) {p q : Nat} (hp : p < 12) (hq : q < 12) (hpq : p ≠ q) : ∀ (fu a : Nat) (f : Nat → Int32) (sn rk : Int32), a ≤ m → m - a < fu → Lay f (GE W a) → ∃ f' sn' rk', FX7_helps_h6 (nI p) (nI q) one other (nI m) fu (nI a) f sn rk = some ((if tb (GE W m) p q then 0 else 1), f', sn', rk') := by
  intro fu
  induction fu with
  | zero => intro a _ _ _ _ h; omega
  | succ fu ih =>
    intro a f sn rk ha hf hL
    show ∃ f' sn' rk', FX7_helps_b6 (nI p) (nI q) one other (nI m) (FX7_helps_h6 (nI p) (nI q) one other (nI m) fu) (nI a) f sn rk = _
    unfold FX7_helps_b6
    by_cases h : m ≤ a
    · have : a = m := by omega
      subst this
      rw [if_pos (nI_le (Nat.le_refl _) (by omega))]
      obtain ⟨f1, sn1, e1, _⟩ := bL7 hL hp hq hpq sn
      rw [e1]
      simp only [Option.bind_some]
      rw [gd_t (z01 _)]
      exact ⟨_, _, _, rfl⟩
    · obtain ⟨w1, w2, w3⟩ := hW a (by omega)
      obtain ⟨l1, l2⟩ := hT a (by omega)
      rw [if_neg (nI_ge (by omega) (by omega)), gi (show a < 72 by omega) (by decide), gi (show a < 72 by omega) (by decide), clp (by omega), l1, l2, nI_1]
      obtain ⟨f1, sn1, e1, k1⟩ := comes_v hL (p := (W a).1) (q := (W a).2) w2 w3 w1 sn rk
      rw [e1]
      simp only [Option.bind_some]
      exact ih (a + 1) f1 sn1 _ (by omega) (by omega) k1
theorem mhp_v {m : Nat} (hm : m ≤ 24) {W : Nat → Nat × Nat} (hW : OK W m) (hs : SP (bl W m)) {one other : Nat → Int32} (hT : TH one other W m) {p q : Nat} (hp : p < 12) (hq : q < 12) (hpq : p ≠ q) (f : Nat → Int32) (sn rk : Int32) : ∃ f' sn' rk', FX7_helps (nI p) (nI q) f sn rk one other (nI m) = some ((if tb (bl W m) p q then 0 else 1), f', sn', rk') := by
  unfold FX7_helps
  obtain ⟨f0, e0, l0⟩ := empties_v f rk
  rw [e0, ← GE_bl hW hs]
  exact mhp_h hm hW hT hp hq hpq 5000 0 f0 sn 0 (Nat.zero_le _) (by omega) l0
theorem and_1 (x y : Int32) : (x &&& y) &&& 1 = (x &&& 1) &&& (y &&& 1) := by
  rw [Int32.and_assoc, Int32.and_assoc]
  congr 1
  rw [Int32.and_comm 1 (y &&& 1), Int32.and_assoc]
  congr 1
theorem bit2 {s p q : Nat} (hs : s < 2 ^ 31) (hp : p < 32) (hq : q < 32) : ((nI s >>> (nI p &&& 31)) &&& (nI s >>> (nI q &&& 31))) &&& 1 = nI (if s.testBit p && s.testBit q then 1 else 0) := by
  rw [and_1, bitI hs hp, bitI hs hq]
  cases s.testBit p <;> cases s.testBit q <;> rfl
def MP (a b : Nat) (x : Option (Int32 × (Nat → Int32) × Int32 × Int32)) : Prop := ∃ f' sn' rk', x = some (nI (100 * a + b), f', sn', rk')
theorem mpi14 {n m : Nat} (hn : n ≤ 12) (hm : m ≤ 24) {W : Nat → Nat × Nat} (hW : OK W m) (hs : SP (bl W m)) {one other : Nat → Int32} (hT : TH one other W m) {L0 : List (Nat × Nat)} {v a b : Nat} (hx : LX L0 (bl W m) v a b) (hbn : b < n) {p : Nat} (hpa : p ≤ a) {k2 : Int32 → (Nat → Int32) → Int32 → Int32 → Option (Int32 × (Nat → Int32) × Int32 × Int32)}
    (hk : p < a → ∀ f sn rk, MP a b (k2 (nI (p + 1)) f sn rk)) :
    ∀ (fu q : Nat) (f : Nat → Int32) (sn rk : Int32), p < q → q ≤ n → (p < a ∨ p = a ∧ q ≤ b) → n - q < fu → MP a b (FX7_pairIn_h14 (nI (nm L0 v)) (nI n) one other (nI m) k2 fu (nI p) (nI q) f sn rk) := by
  intro fu
  induction fu with
  | zero => intro q _ _ _ _ _ _ h; omega
  | succ fu ih =>
    intro q f sn rk hpq hq hle hf
    obtain ⟨xab, xb, xA, xm⟩ := hx
    show MP a b (FX7_pairIn_b14 (nI (nm L0 v)) (nI n) one other (nI m) k2 (FX7_pairIn_h14 (nI (nm L0 v)) (nI n) one other (nI m) k2 fu) (nI p) (nI q) f sn rk)
    unfold FX7_pairIn_b14 FX7_pairIn_b60
    by_cases h : n ≤ q
    · rw [if_pos (nI_le h (by omega)), nI_1]
      exact hk (by omega) f sn rk
    · have n12 := nm_lt L0 v
      rw [if_neg (nI_ge (by omega) (by omega)), bit2 (by omega) (by omega) (by omega), nm_bit, nm_bit, decide_eq_true (show q < 12 by omega), decide_eq_true (show p < 12 by omega), Bool.true_and, Bool.true_and]
      have next : ∀ f sn rk, ¬ (p = a ∧ q = b) → MP a b (FX7_pairIn_h14 (nI (nm L0 v)) (nI n) one other (nI m) k2 fu (nI p) (nI q + 1) f sn rk) := by
        intro f sn rk c
        rw [nI_1]
        exact ih (q + 1) f sn rk (by omega) (by omega) (by omega) (by omega)
      cases h12 : (adj L0 v p && adj L0 v q)
      · simp only [Bool.false_eq_true, if_false, if_neg (show ¬ nI 0 = 1 by decide)]
        exact next f sn rk (fun c => by rw [c.1, c.2, xA.1, xA.2.1] at h12; cases h12)
      · simp only [Bool.and_eq_true] at h12
        simp only [if_true, if_pos (show nI 1 = 1 from rfl)]
        obtain ⟨r, e1, r01, r1⟩ := mit_h hm hW hT (p := p) (q := q) (by omega) (by omega) 5000 0 (Nat.zero_le _) (by omega)
        have e1' : FX7_isThere (nI p) (nI q) one other (nI m) = some r := e1
        rw [e1']
        simp only [Option.bind_some]
        have hw : WL (bl W m) := fun e he => by obtain ⟨i, hi, rfl⟩ := bl_mem.mp he; exact hW i hi
        rcases r01 with rfl | rfl
        · simp only [if_true]
          obtain ⟨f1, sn1, rk1, e2⟩ := mhp_v hm hW hs hT (p := p) (q := q) (by omega) (by omega) (by omega) f sn rk
          rw [e2]
          simp only [Option.bind_some]
          cases ht : tb (bl W m) p q
          · have : p = a ∧ q = b := by
              by_cases c : p = a ∧ q = b
              · exact c
              · exact absurd ⟨h12.1, h12.2, tb_f.mp ht⟩ (xm p q hpq (by omega))
            obtain ⟨rfl, rfl⟩ := this
            simp only [Bool.false_eq_true, if_false, if_neg (show ¬ (1 : Int32) = 0 by decide)]
            rw [mul100, nI_add]
            exact ⟨_, _, _, rfl⟩
          · simp only [if_true]
            exact next f1 sn1 rk1 (fun c => xA.2.2 (by rw [← c.1, ← c.2]; exact tb_t.mp ht))
        · simp only [if_neg (show ¬ (1 : Int32) = 0 by decide)]
          exact next f sn rk (fun c => xA.2.2 (by rw [← c.1, ← c.2]; exact te_adj hw (r1 rfl)))
theorem mpi2 {n m : Nat} (hn : n ≤ 12) (hm : m ≤ 24) {W : Nat → Nat × Nat} (hW : OK W m) (hs : SP (bl W m)) {one other : Nat → Int32} (hT : TH one other W m) {L0 : List (Nat × Nat)} {v a b : Nat} (hx : LX L0 (bl W m) v a b) (hbn : b < n) : ∀ (fu p : Nat) (f : Nat → Int32) (sn rk : Int32), p ≤ a → n - p < fu → MP a b (FX7_pairIn_h2 (nI (nm L0 v)) (nI n) one other (nI m) fu (nI p) f sn rk) := by
  intro fu
  induction fu with
  | zero => intro p _ _ _ _ h; omega
  | succ fu ih =>
    intro p f sn rk hp hf
    have h1 := hx.1
    show MP a b (FX7_pairIn_b2 (nI (nm L0 v)) (nI n) one other (nI m) (FX7_pairIn_h2 (nI (nm L0 v)) (nI n) one other (nI m) fu) (nI p) f sn rk)
    unfold FX7_pairIn_b2
    rw [if_neg (nI_ge (by omega) (by omega)), nI_1]
    exact mpi14 hn hm hW hs hT hx hbn hp (fun c f sn rk => ih (p + 1) f sn rk (by omega) (by omega)) 5000 (p + 1) f sn rk (by omega) (by omega) (by omega) (by omega)
