/-! tells, the bars that would make all so as told -/
def bw (P : Nat → Bool) : Nat → Nat
  | 0 => 0
  | m + 1 => bw P m + (if P m then 2 ^ m else 0)
theorem bw_lt (P : Nat → Bool) (m : Nat) : bw P m < 2 ^ m := by
  induction m with
  | zero => simp [bw]
  | succ m ih => simp only [bw]; rw [Nat.pow_succ]; split <;> omega
theorem bw_bit (P : Nat → Bool) (m i : Nat) : (bw P m).testBit i = (decide (i < m) && P i) := by
  induction m with
  | zero => simp [bw]
  | succ m ih =>
    simp only [bw]
    by_cases h : P m = true
    · rw [if_pos h, tb_add (bw_lt P m), ih]
      by_cases e : i = m
      · subst e; simp [h]
      · rw [if_neg e]
        by_cases l : i < m
        · simp [l, show i < m + 1 by omega]
        · simp [l, show ¬ i < m + 1 by omega]
    · rw [if_neg h, Nat.add_zero, ih]
      by_cases e : i = m
      · subst e; simp [h]
      · by_cases l : i < m
        · simp [l, show i < m + 1 by omega]
        · simp [l, show ¬ i < m + 1 by omega]
theorem bw_congr {P Q : Nat → Bool} {m : Nat} (h : ∀ i, i < m → P i = Q i) : bw P m = bw Q m := by
  induction m with
  | zero => rfl
  | succ m ih => simp only [bw]; rw [ih (fun i hi => h i (by omega)), h m (by omega)]
theorem bw31 (P : Nat → Bool) {m : Nat} (h : m ≤ 30) : bw P m < 2 ^ 31 := Nat.lt_of_lt_of_le (bw_lt P m) (Nat.pow_le_pow_right (by decide) (by omega))
theorem bw_or (P : Nat → Bool) {m : Nat} (h : m ≤ 30) : nI (bw P m) ||| (if P m then (1 : Int32) <<< (nI m &&& 31) else 0) = nI (bw P (m + 1)) := by
  simp only [bw]
  by_cases e : P m = true
  · rw [if_pos e, if_pos e, shl1 (by omega), orI (bw31 P h) (Nat.pow_lt_pow_right (by decide) (by omega)), or_bit (bw_lt P m)]
  · rw [if_neg e, if_neg e, Nat.add_zero]
    exact (orI (b := 0) (bw31 P h) (by decide)).trans (by rw [Nat.or_zero])
theorem GM_bw {W : Nat → Nat × Nat} {Q : Nat → Bool} {m : Nat} : GM W m = bw Q m ↔ ∀ i, i < m → gb W i = Q i := by
  constructor
  · intro e i hi
    have := congrArg (fun x => x.testBit i) e
    simp only [GM_bit, bw_bit, hi, decide_true, Bool.true_and] at this
    exact this
  · intro h
    apply Nat.eq_of_testBit_eq
    intro i
    rw [GM_bit, bw_bit]
    by_cases hi : i < m
    · rw [h i hi]
    · simp [hi]
theorem ow7_h {j nb z : Nat} (hj : j < 4) (hb : nb ≤ 24) (hz : z ≤ 40) {g : Nat → Bool} {car mZ mI : Nat → Int32} (hmz : mZ j = nI z) (hc : ∀ i, i < nb → car i = if g i then 1 else 0) : ∀ (fu a : Nat), a ≤ z → a ≤ nb → nb - a < fu →
    ∃ r, FX7_otherwise_h2 (nI j) (nI nb) car mZ mI fu (nI a) = some r ∧ (r = -1 ↔ z = nb ∧ ∀ i, a ≤ i → i < nb → (mI (40 * j + i) = 1 ↔ g i = true)) := by
  intro fu
  induction fu with
  | zero => intro a _ _ h; omega
  | succ fu ih =>
    intro a haz hab hf
    show ∃ r, FX7_otherwise_b2 (nI j) (nI nb) car mZ mI (FX7_otherwise_h2 (nI j) (nI nb) car mZ mI fu) (nI a) = _ ∧ _
    unfold FX7_otherwise_b2 FX7_otherwise_b57 FX7_otherwise_b40
    rw [gi hj (by decide), gi hj (by decide), gi hj (by decide), clp (show j < 2 ^ 31 by omega), hmz]
    by_cases h : z ≤ a
    · have : a = z := by omega
      subst this
      rw [if_pos (nI_le (Nat.le_refl _) (by omega))]
      by_cases q : a = nb
      · subst q
        rw [if_pos rfl]
        exact ⟨_, rfl, fun _ => ⟨rfl, fun i h1 h2 => by omega⟩, fun _ => rfl⟩
      · rw [if_neg (fun e => q (by have := (nI_eq (by omega) (by omega)).mp e; omega)), if_neg (nI_nlt (by omega) (by omega))]
        exact ⟨_, rfl, fun e => absurd e (nI_nm1 (by omega)), fun e => absurd e.1 q⟩
    · rw [if_neg (nI_ge (by omega) (by omega))]
      by_cases q : nb ≤ a
      · have : a = nb := by omega
        subst this
        rw [if_pos (nI_le (Nat.le_refl _) (by omega)), if_neg (fun e => h (by have := (nI_eq (by omega) (by omega)).mp e; omega)), if_pos (nI_lt (by omega) (by omega))]
        exact ⟨_, rfl, fun e => absurd e (nI_nm1 (by omega)), fun e => by omega⟩
      · rw [if_neg (nI_ge (by omega) (by omega)), mul40, nI_add, gi (show 40 * j + a < 160 by omega) (by decide), gi (show a < 24 by omega) (by decide), gi (show a < 24 by omega) (by decide), clp (show 40 * j + a < 2 ^ 31 by omega), clp (show a < 2 ^ 31 by omega), hc a (by omega), nI_1]
        obtain ⟨r, e1, e2⟩ := ih (a + 1) (by omega) (by omega) (by omega)
        have stop : (¬ (mI (40 * j + a) = 1 ↔ g a = true)) → (nI a = -1 ↔ z = nb ∧ ∀ i, a ≤ i → i < nb → (mI (40 * j + i) = 1 ↔ g i = true)) := fun x => ⟨fun e => absurd e (nI_nm1 (by omega)), fun e => absurd (e.2 a (Nat.le_refl _) (by omega)) x⟩
        have go : (mI (40 * j + a) = 1 ↔ g a = true) → (r = -1 ↔ z = nb ∧ ∀ i, a ≤ i → i < nb → (mI (40 * j + i) = 1 ↔ g i = true)) := by
          intro x
          rw [e2]
          constructor
          · rintro ⟨y1, y2⟩
            refine ⟨y1, fun i i1 i2 => ?_⟩
            rcases Nat.eq_or_lt_of_le i1 with rfl | i1
            · exact x
            · exact y2 i i1 i2
          · rintro ⟨y1, y2⟩
            exact ⟨y1, fun i i1 i2 => y2 i (by omega) i2⟩
        by_cases x : mI (40 * j + a) = 1
        · rw [if_pos x]
          cases hg : g a
          · exact ⟨_, rfl, stop (by rw [hg]; simp [x])⟩
          · exact ⟨r, by simpa using e1, go (by rw [hg]; simp [x])⟩
        · rw [if_neg x]
          cases hg : g a
          · exact ⟨r, by simpa using e1, go (by rw [hg]; simp [x])⟩
          · exact ⟨_, rfl, stop (by rw [hg]; simp [x])⟩
theorem tells7_h {n nb : Nat} {br : Nat → Nat × Nat} {low high : Nat → Int32} (hB : Br n nb br low high) {j z : Nat} (hj : j < 4) (hz : z ≤ 40) {mS mZ mI : Nat → Int32} (hmz : mZ j = nI z) (p2 : Int32) {P : Nat → Bool} (hP : ∀ b, b < nb → (P b = true ↔ z = nb ∧ ∀ i, i < nb → (mI (40 * j + i) = 1 ↔ gb (wl br nb b) i = true))) : ∀ (fu a : Nat) (f car : Nat → Int32) (sn rk : Int32), a ≤ nb → nb - a < fu →
    ∃ f' car' sn' rk', FX7_tells_h64 (nI j) p2 (nI nb) low high mS mZ mI fu (nI (bw P a)) (nI a) f car sn rk = some (nI (bw P nb), f', car', sn', rk') := by
  intro fu
  induction fu with
  | zero => intro a _ _ _ _ _ h; omega
  | succ fu ih =>
    intro a f car sn rk ha hf
    have h24 := hB.2.1
    show ∃ f' car' sn' rk', FX7_tells_b64 (nI j) p2 (nI nb) low high mS mZ mI (FX7_tells_h64 (nI j) p2 (nI nb) low high mS mZ mI fu) (nI (bw P a)) (nI a) f car sn rk = _
    unfold FX7_tells_b64 FX7_tells_b97
    by_cases h : nb ≤ a
    · have : a = nb := by omega
      subst this
      rw [if_pos (nI_le (Nat.le_refl _) (by omega))]
      exact ⟨_, _, _, _, rfl⟩
    · rw [if_neg (nI_ge (by omega) (by omega))]
      obtain ⟨f1, car1, sn1, e1, l1, hc⟩ := mcl_v hB (b := a) (by omega) f car sn rk
      rw [e1]
      simp only [Option.bind_some]
      obtain ⟨r, e2, e3⟩ := ow7_h hj h24 hz (mI := mI) hmz hc 5000 0 (Nat.zero_le _) (Nat.zero_le _) (by omega)
      have e2' : FX7_otherwise (nI j) (nI nb) car1 mZ mI = some r := e2
      rw [e2']
      simp only [Option.bind_some, nI_1]
      have e4 : r = -1 ↔ P a = true := by
        rw [e3, hP a (by omega)]
        constructor
        · rintro ⟨x, y⟩; exact ⟨x, fun i hi => y i (Nat.zero_le _) hi⟩
        · rintro ⟨x, y⟩; exact ⟨x, fun i _ hi => y i hi⟩
      have e5 := bw_or P (m := a) (by omega)
      by_cases x : P a = true
      · rw [if_pos (e4.mpr x)]
        rw [if_pos x] at e5
        rw [e5]
        exact ih (a + 1) f1 car1 sn1 _ (by omega) (by omega)
      · rw [if_neg (fun e => x (e4.mp e))]
        rw [if_neg x] at e5
        rw [e5]
        exact ih (a + 1) f1 car1 sn1 _ (by omega) (by omega)
theorem tells6_h49 {n nb : Nat} {br : Nat → Nat × Nat} {les gre : Nat → Int32} (hB : Br n nb br les gre) (sz it : Int32) {A : Nat} (hA : A < 2 ^ 31) (items : Nat → Int32) {P : Nat → Bool} (hP : ∀ b, b < nb → (P b = true ↔ GM (wl br nb b) nb = A)) : ∀ (fu a : Nat) (f qu ca : Nat → Int32), a ≤ nb → nb - a < fu →
    ∃ f' qu' ca', FX6_lastOnesAsTold_h49 (nI nb) les gre sz items fu (nI A) (nI (bw P a)) (nI a) f qu ca = some (nI (bw P nb), f', qu', ca') := by
  intro fu
  induction fu with
  | zero => intro a _ _ _ _ h; omega
  | succ fu ih =>
    intro a f qu ca ha hf
    have h24 := hB.2.1
    show ∃ f' qu' ca', FX6_lastOnesAsTold_b49 (nI nb) les gre sz items (FX6_lastOnesAsTold_h49 (nI nb) les gre sz items fu) (nI A) (nI (bw P a)) (nI a) f qu ca = _
    unfold FX6_lastOnesAsTold_b49 FX6_lastOnesAsTold_b85
    by_cases h : nb ≤ a
    · have : a = nb := by omega
      subst this
      rw [if_pos (nI_le (Nat.le_refl _) (by omega))]
      exact ⟨_, _, _, rfl⟩
    · rw [if_neg (nI_ge (by omega) (by omega))]
      obtain ⟨f1, qu1, ca1, e1, l1⟩ := cwl_v hB (last := a) (by omega) f qu ca
      rw [e1]
      simp only [Option.bind_some, nI_1]
      have g24 := GM24 (wl br nb a) h24
      have e4 : nI (GM (wl br nb a) nb) = nI A ↔ P a = true := by
        rw [nI_eq (by omega) hA, hP a (by omega)]
      have e5 := bw_or P (m := a) (by omega)
      by_cases x : P a = true
      · rw [if_pos (e4.mpr x)]
        rw [if_pos x] at e5
        rw [e5]
        exact ih (a + 1) f1 qu1 ca1 (by omega) (by omega)
      · rw [if_neg (fun e => x (e4.mp e))]
        rw [if_neg x] at e5
        have e6 : bw P (a + 1) = bw P a := by simp only [bw]; rw [if_neg x, Nat.add_zero]
        rw [← e6]
        exact ih (a + 1) f1 qu1 ca1 (by omega) (by omega)
theorem tells6_h20 {n nb : Nat} {br : Nat → Nat × Nat} {les gre : Nat → Int32} (hB : Br n nb br les gre) {z : Nat} (hz : z = nb) (items : Nat → Int32) : ∀ (fu a : Nat) (f qu ca : Nat → Int32), a ≤ z → z - a < fu →
    ∃ f' qu' ca', FX6_lastOnesAsTold_h20 (nI nb) les gre (nI z) items fu (nI (bw (fun i => decide (items i = 1)) a)) (nI a) f qu ca = some (nI (bw (fun b => decide (GM (wl br nb b) nb = bw (fun i => decide (items i = 1)) z)) nb), f', qu', ca') := by
  intro fu
  induction fu with
  | zero => intro a _ _ _ _ h; omega
  | succ fu ih =>
    intro a f qu ca ha hf
    have h24 := hB.2.1
    show ∃ f' qu' ca', FX6_lastOnesAsTold_b20 (nI nb) les gre (nI z) items (FX6_lastOnesAsTold_h20 (nI nb) les gre (nI z) items fu) (nI (bw (fun i => decide (items i = 1)) a)) (nI a) f qu ca = _
    unfold FX6_lastOnesAsTold_b20
    by_cases h : z ≤ a
    · have : a = z := by omega
      subst this
      rw [if_pos (nI_le (Nat.le_refl _) (by omega))]
      exact tells6_h49 hB (nI a) 0 (bw31 _ (by omega)) items (P := fun b => decide (GM (wl br nb b) nb = bw (fun i => decide (items i = 1)) a)) (fun b _ => by rw [decide_eq_true_eq]) 5000 0 f qu ca (Nat.zero_le _) (by omega)
    · rw [if_neg (nI_ge (by omega) (by omega)), tc_v (by omega) (by omega)]
      simp only [Option.bind_some, nI_1]
      have e5 := bw_or (fun i => decide (items i = 1)) (m := a) (by omega)
      have e6 : (if items a = 1 then (1 : Int32) else 0) <<< (nI a &&& 31) = (if decide (items a = 1) = true then (1 : Int32) <<< (nI a &&& 31) else 0) := by
        by_cases x : items a = 1
        · simp [x]
        · simp only [if_neg x, decide_eq_true_eq]
          have := pk_shlN (n := 0) (nI a &&& 31) a (s_l a (by omega)) (by rw [Nat.zero_mul]; decide)
          rw [Nat.zero_mul] at this
          exact this
      rw [e6, e5]
      exact ih (a + 1) f qu ca (by omega) (by omega)
theorem tells_core (p1 p2 : Int32) {n nb : Nat} {pins bars : Int32} {names les gre : Nat → Int32} {mpins mbars : Int32} {mname mlow mhigh : Nat → Int32} (hF : FrR n nb pins bars names les gre mpins mbars mname mlow mhigh) {sS sZ : Nat → Int32} {sI : Nat → Nat → Int32} {mS mZ mI : Nat → Int32} (h : ShR sS sZ sI mS mZ mI) {j : Nat} (hj : j < 4) (hp : vp_in p1 4 → p1.toNatClampNeg = j) (a b c d : Int32) (f qu ca g car : Nat → Int32) (sn rk : Int32) :
    ∃ (u : Int32 × Int32 × Int32 × Int32 × Int32 × (Nat → Int32) × (Nat → Int32) × (Nat → Int32)) (v : Int32 × (Nat → Int32) × (Nat → Int32) × Int32 × Int32), FX6_tells p1 p2 pins bars les gre a b c d f qu ca (sS j) (sZ j) (sI j) = some u ∧ FX7_tells p1 p2 mbars mlow mhigh g car sn rk mS mZ mI = some v ∧ u.1 = v.1 := by
  obtain ⟨br, hB6, hB7, _⟩ := hF.br
  obtain ⟨h1, h2, rfl, rfl, rfl, rfl, h7, h8, h9⟩ := hF
  have m24 : GM br nb < 2 ^ 24 := Nat.lt_of_lt_of_le (GM_lt _ nb) (Nat.pow_le_pow_right (by decide) (by omega))
  unfold FX6_tells FX7_tells
  rcases sheet_cases p1 with ⟨e1, e2, _⟩ | ⟨j', hj', rfl, e1, e2⟩
  · rw [e1, e2]
    exact ⟨_, _, rfl, rfl, rfl⟩
  · have ej : j' = j := by have := hp (vin hj' (by decide)); rwa [clp (by omega)] at this
    subst ej
    obtain ⟨hk, hms, z, hz, hsz, hmz, _, hit⟩ := h j' hj'
    rw [e1, e2]
    simp only [Option.bind_some, if_neg (show ¬ (1 : Int32) = 0 by decide)]
    rw [isIn_v]
    have two : (p2 = 0 ∨ p2 = 1) ∨ (¬ p2 = 0 ∧ ¬ p2 = 1) := by
      by_cases x : p2 = 0
      · exact Or.inl (Or.inl x)
      · by_cases y : p2 = 1
        · exact Or.inl (Or.inr y)
        · exact Or.inr ⟨x, y⟩
    rcases two with two | ⟨x, y⟩
    · have e3 : (if p2 < 0 then (0 : Int32) else if 1 < p2 then 0 else 1) = 1 := by rcases two with rfl | rfl <;> rfl
      rw [e3]
      simp only [Option.bind_some, if_neg (show ¬ (1 : Int32) = 0 by decide)]
      have e4 : ∀ {α : Type} (X Y : Option α), (if p2 = 0 then X else if p2 = 1 then X else Y) = X := by
        intro α X Y
        rcases two with rfl | rfl <;> simp
      rw [e4]
      unfold FX6_tells_b19
      rw [gi hj' (by decide), gi hj' (by decide), gi hj' (by decide), clp (show j' < 2 ^ 31 by omega), hms, hmz, hsz]
      rcases sort_cases hk with ⟨_, s2, s3, _⟩ | ⟨_, s2, s3, _⟩
      · rw [s2, if_neg s3]
        exact ⟨_, _, rfl, rfl, rfl⟩
      · rw [s2, if_pos s3]
        simp only [Option.bind_some, if_true]
        by_cases z24 : z ≤ 24
        · have z24' : nI z ≤ (24 : Int32) := nI_le z24 (by decide)
          rw [if_pos z24', if_pos z24']
          by_cases w0 : p2 = 0
          · rw [if_pos w0, if_pos w0]
            unfold FX6_firstOtherwise FX7_otherwise
            obtain ⟨f1, qu1, ca1, t1, l1⟩ := settle_v hB6 a b c d f qu ca
            obtain ⟨g1, car1, sn1, t2, l2, hc⟩ := call_v hB7 g car sn rk
            rw [t1, t2]
            simp only [Option.bind_some]
            have hc' : ∀ i, i < nb → car1 i = if (GM br nb).testBit i then 1 else 0 := fun i hi => by rw [hc i hi, GM_bit, decide_eq_true hi, Bool.true_and]
            obtain ⟨r, w1, w2⟩ := ow_par hj' h2 hz m24 hmz hc' (fun i hi => (hit i hi).sim) (nI n) (nI (GE br nb).length) (2 * nI n - nI (GE br nb).length) (if 2 ≤ n ∧ 2 * nI n - nI (GE br nb).length = 3 then 1 else 0) les gre f1 qu1 ca1 5000 0 (Nat.zero_le _) (Nat.zero_le _) (by omega)
            have w1' : FX6_firstOtherwise_h13 (nI n) (nI nb) les gre (nI z) (sI j') 5000 0 (nI (GM br nb)) (nI (GE br nb).length) (2 * nI n - nI (GE br nb).length) (if 2 ≤ n ∧ 2 * nI n - nI (GE br nb).length = 3 then 1 else 0) f1 qu1 ca1 = _ := w1
            have w2' : FX7_otherwise_h2 (nI j') (nI nb) car1 mZ mI 5000 0 = _ := w2
            rw [w1', w2']
            exact ⟨_, _, rfl, rfl, rfl⟩
          · rw [if_neg w0, if_neg w0]
            unfold FX6_lastOnesAsTold
            by_cases zn : z = nb
            · rw [if_pos (show nI z = nI nb by rw [zn])]
              obtain ⟨f1, qu1, ca1, t1⟩ := tells6_h20 hB6 zn (sI j') 5000 0 f qu ca (Nat.zero_le _) (by omega)
              obtain ⟨g1, car1, sn1, rk1, t2⟩ := tells7_h hB7 hj' hz (mS := mS) (mI := mI) hmz p2 (P := fun b => decide (GM (wl br nb b) nb = bw (fun i => decide (sI j' i = 1)) z)) (fun b hb => by
                rw [decide_eq_true_eq, zn, GM_bw]
                constructor
                · intro x
                  refine ⟨rfl, fun i hi => ?_⟩
                  rw [x i hi, decide_eq_true_eq]
                  exact (sim1 (hit i (by omega)).sim).symm
                · rintro ⟨_, x⟩ i hi
                  have s1 := sim1 (hit i (by omega)).sim
                  have s2 := x i hi
                  cases hg : gb (wl br nb b) i
                  · symm; rw [decide_eq_false_iff_not]
                    intro y
                    have := s2.mp (s1.mp y)
                    rw [hg] at this; cases this
                  · symm; rw [decide_eq_true_eq]
                    exact s1.mpr (s2.mpr hg)) 5000 0 g car sn rk (Nat.zero_le _) (by omega)
              have t1' : FX6_lastOnesAsTold_h20 (nI nb) les gre (nI z) (sI j') 5000 0 0 f qu ca = _ := t1
              have t2' : FX7_tells_h64 (nI j') p2 (nI nb) mlow mhigh mS mZ mI 5000 0 0 g car sn rk = _ := t2
              rw [t1', t2']
              exact ⟨_, _, rfl, rfl, rfl⟩
            · rw [if_neg (fun e => zn ((nI_eq (by omega) (by omega)).mp e))]
              obtain ⟨g1, car1, sn1, rk1, t2⟩ := tells7_h hB7 hj' hz (mS := mS) (mI := mI) hmz p2 (P := fun _ => false) (fun b hb => ⟨fun e => Bool.noConfusion e, fun e => absurd e.1 zn⟩) 5000 0 g car sn rk (Nat.zero_le _) (by omega)
              have t2' : FX7_tells_h64 (nI j') p2 (nI nb) mlow mhigh mS mZ mI 5000 0 0 g car sn rk = _ := t2
              have bz : ∀ m, bw (fun _ => false) m = 0 := by
                intro m
                induction m with
                | zero => rfl
                | succ m ih => simp only [bw]; rw [ih]; rfl
              rw [t2', bz]
              exact ⟨_, _, rfl, rfl, rfl⟩
        · have z24' : ¬ nI z ≤ (24 : Int32) := nI_ge (show 24 < z by omega) (by omega)
          rw [if_neg z24', if_neg z24']
          exact ⟨_, _, rfl, rfl, rfl⟩
    · have e3 : (if p2 < 0 then (0 : Int32) else if 1 < p2 then 0 else 1) = 0 := by
        by_cases x0 : p2 < 0
        · rw [if_pos x0]
        · rw [if_neg x0]
          obtain ⟨k, hk, rfl⟩ := nI_of x0
          rw [if_pos]
          refine nI_lt (a := 1) ?_ hk
          rcases Nat.eq_zero_or_pos k with rfl | h0
          · exact absurd rfl x
          · rcases Nat.eq_or_lt_of_le h0 with h1 | h1
            · exact absurd (by rw [← h1]; rfl) y
            · exact h1
      rw [e3]
      simp only [Option.bind_some, if_neg x, if_neg y]
      exact ⟨_, _, rfl, rfl, rfl⟩
