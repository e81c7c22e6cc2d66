/-! taken down, both sides -/
theorem dg_zero {L : List (Nat × Nat)} {R : Nat → Bool} (h : ∀ e, e ∈ L → R e.1 = true ∧ R e.2 = true) {v : Nat} (hv : R v = false) : dg L v = 0 := by
  unfold dg
  rw [List.countP_eq_zero]
  intro e he
  obtain ⟨a, b⟩ := h e he
  unfold tch
  simp only [Bool.or_eq_true, beq_iff_eq]
  rintro (x | x)
  · rw [x, hv] at a; cases a
  · rw [x, hv] at b; cases b
def Ch (L : List (Nat × Nat)) (v d : Nat) : Prop := v < 12 ∧ ((d = 2 ∧ dg L v = 2 ∧ ∀ w, w < v → ¬ dg L w = 2) ∨ (d = 3 ∧ (∀ w, w < 12 → ¬ dg L w = 2) ∧ dg L v = 3 ∧ ∀ w, w < v → ¬ dg L w = 3))
theorem ch_ex {L : List (Nat × Nat)} {R : Nat → Bool} {k : Nat} (h : DS L R k) (hk : 3 ≤ k) : ∃ v d, Ch L v d ∧ R v = true ∧ dg L v = d := by
  obtain ⟨v, v1, v2, v3⟩ := deg_ex h hk
  have inR : ∀ w, ¬ dg L w = 0 → R w = true := fun w hw => by
    cases x : R w
    · exact absurd (dg_zero h.2.2.2.1 x) hw
    · rfl
  by_cases c : ∃ w, w < 12 ∧ dg L w = 2
  · obtain ⟨w, w1, w2⟩ := c
    obtain ⟨u, u1, u2, u3⟩ := least (fun w => dg L w = 2) w w2
    exact ⟨u, 2, ⟨by omega, Or.inl ⟨rfl, u1, u3⟩⟩, inR u (by omega), u1⟩
  · have d3 : dg L v = 3 := by
      rcases v3 with x | x
      · exact absurd ⟨v, v1, x⟩ c
      · exact x
    obtain ⟨u, u1, u2, u3⟩ := least (fun w => dg L w = 3) v d3
    exact ⟨u, 3, ⟨by omega, Or.inr ⟨rfl, fun w hw x => c ⟨w, hw, x⟩, u1, u3⟩⟩, inR u (by omega), u1⟩
def Nx (L : List (Nat × Nat)) (v d : Nat) (L' : List (Nat × Nat)) (c : Int32) : Prop := (d = 2 ∧ L' = flt L v ∧ c = -1) ∨ (d = 3 ∧ ∃ a b, LX L (flt L v) v a b ∧ L' = (a, b) :: flt L v ∧ c = nI (100 * a + b))
theorem nx_ex {L : List (Nat × Nat)} {R : Nat → Bool} {k v d : Nat} (h : DS L R k) (hk : 3 ≤ k) (hc : Ch L v d) (hR : R v = true) (hd : dg L v = d) : ∃ L' c, Nx L v d L' c ∧ DS L' (rmv R v) (k - 1) := by
  obtain ⟨hv, hc⟩ := hc
  have d23 : d = 2 ∨ d = 3 := by
    rcases hc with x | x
    · exact Or.inl x.1
    · exact Or.inr x.1
  rcases d23 with rfl | rfl
  · exact ⟨_, _, Or.inl ⟨rfl, rfl, rfl⟩, h.two hk hv hR hd⟩
  · obtain ⟨p, q, pq, q12, A⟩ := pair_ex h hv hd
    obtain ⟨a, b, ab, A', mn⟩ := lex_min (fun x y => adj L v x = true ∧ adj L v y = true ∧ ¬ TE (flt L v) x y) pq A
    have b12 : b < 12 := by
      rcases adj_mem A'.2.1 with x | x
      · exact (h.1 _ x).2.2
      · exact (h.1 _ x).2.1
    exact ⟨_, _, Or.inr ⟨rfl, a, b, ⟨ab, b12, A', mn⟩, rfl, rfl⟩, h.three hk hv hR hd ab b12 A'.1 A'.2.1 A'.2.2⟩
theorem nI2 : (2 : Int32) = nI 2 := rfl
theorem nI3 : (3 : Int32) = nI 3 := rfl
theorem cstep17 {L : List (Nat × Nat)} {R : Nat → Bool} {k v d s : Nat} (h : DS L R k) (hv : v < 12) (hd : dg L v = d) {L' : List (Nat × Nat)} {c : Int32} (hx : Nx L v d L' c) (hs : s < 12) {near : Nat → Int32} (hN : NR near L) (go hh cm f qu ca : Nat → Int32) : ∃ near' cm' f' qu' ca', FX4_takeOne_b17 (nI v) near (nI s) go hh cm f qu ca = some (near', nI (s + 1), upd go s (nI v), upd hh s (nI d), cm', f', qu', ca') ∧ NR near' L' ∧ cm' s = c ∧ ∀ i, i ≠ s → cm' i = cm i := by
  obtain ⟨hw, hlt, hsp, hR, hz, hl⟩ := h
  have n12 := nm_lt L v
  unfold FX4_takeOne_b17
  rw [if_neg (nI_nm1 (by omega)), if_pos (show nI s < (12 : Int32) from nI_lt hs (by decide))]
  simp only [gi (show v < 12 by omega) (show 12 < 2 ^ 31 by decide), gi (show s < 12 by omega) (show 12 < 2 ^ 31 by decide), clp (show v < 2 ^ 31 by omega), clp (show s < 2 ^ 31 by omega)]
  rw [hN v hv, bitCount_v (by omega), pc_nm hw (hsp.nd hw) v hv, hd]
  simp only [Option.bind_some, nI_1]
  obtain ⟨nr', e1, hN'⟩ := cta_v hv hN
  rw [e1]
  simp only [Option.bind_some, updS]
  rcases hx with ⟨rfl, rfl, rfl⟩ | ⟨rfl, a, b, lx, rfl, rfl⟩
  · rw [if_neg (show ¬ nI 2 = 3 by decide)]
    exact ⟨_, _, _, _, _, rfl, hN', updS, fun i hi => updN hi⟩
  · rw [if_pos (show nI 3 = 3 from rfl)]
    have hw' : WL (flt L v) := hw.filter _
    obtain ⟨f1, qu1, ca1, e2, l1⟩ := cla_v hw' (fun e he => hlt e (List.mem_filter.mp he).1) (hsp.filter _) hN' f qu ca
    rw [e2]
    simp only [Option.bind_some]
    obtain ⟨near'', f2, qu2, ca2, e3, hN''⟩ := cjf2 hw' hN' lx 5000 0 f1 qu1 ca1 (Nat.zero_le _) (by omega) l1
    have e3' : FX4_joinFirstOf (nI (nm L v)) nr' f1 qu1 ca1 = _ := e3
    rw [e3']
    exact ⟨_, _, _, _, _, rfl, hN'', updS, fun i hi => by rw [updN hi, updN hi]⟩
theorem cstep {L : List (Nat × Nat)} {R : Nat → Bool} {k v d s : Nat} (h : DS L R k) (hl : L.length ≤ 24) (hc : Ch L v d) (hd : dg L v = d) {L' : List (Nat × Nat)} {c : Int32} (hx : Nx L v d L' c) (hs : s < 12) {near : Nat → Int32} (hN : NR near L) (go hh cm f qu ca : Nat → Int32) : ∃ near' cm' f' qu' ca', FX4_takeOne near (nI s) go hh cm f qu ca = some (near', nI (s + 1), upd go s (nI v), upd hh s (nI d), cm', f', qu', ca') ∧ NR near' L' ∧ cm' s = c ∧ ∀ i, i ≠ s → cm' i = cm i := by
  obtain ⟨hv, hc⟩ := hc
  unfold FX4_takeOne FX4_firstOf
  have st := cstep17 h hv hd hx hs hN go hh cm f qu ca
  have c2 := cfo_h h.1 h.2.2.1 hl hN (m := 2) (by decide) 5000 0 (by omega) (by omega)
  have c3 := cfo_h h.1 h.2.2.1 hl hN (m := 3) (by decide) 5000 0 (by omega) (by omega)
  rcases hc with ⟨rfl, d2, mn⟩ | ⟨rfl, no2, d3, mn⟩
  · have e : FX4_firstOf_h2 2 near 5000 0 = some (nI v) := c2.1 v (Nat.zero_le _) hv d2 (fun w _ => mn w)
    rw [e]
    simp only [Option.bind_some]
    rw [if_neg (nI_nm1 (by omega))]
    exact st
  · have e : FX4_firstOf_h2 2 near 5000 0 = some (-1) := c2.2 (fun w _ => no2 w)
    have e' : FX4_firstOf_h2 3 near 5000 0 = some (nI v) := c3.1 v (Nat.zero_le _) hv d3 (fun w _ => mn w)
    rw [e, e']
    simp only [Option.bind_some, if_true]
    exact st
theorem OK.of {W : Nat → Nat × Nat} {m : Nat} (h : WL (bl W m)) : OK W m := fun i hi => h _ (bl_mem.mpr ⟨i, hi, rfl⟩)
theorem div100 : ∀ a, a < 12 → ∀ b, b < 12 → nI (100 * a + b) / 100 = nI a ∧ nI (100 * a + b) - nI (100 * a + b) / 100 * 100 = nI b := by decide +kernel
theorem mul3 (j : Nat) : (3 : Int32) * nI j = nI (3 * j) := pk_mul 3 j
theorem mstep84 {n m : Nat} (hn : n ≤ 12) (hm : m ≤ 24) {W : Nat → Nat × Nat} {R : Nat → Bool} {k v d s : Nat} (h : DS (bl W m) R k) (hRn : ∀ w, R w = true → w < n) (hv : v < 12) {L' : List (Nat × Nat)} {c : Int32} (hx : Nx (bl W m) v d L' c) (hd : dg (bl W m) v = d) (hs : s < 12) {one other : Nat → Int32} (hT : TH one other W m) {G : Nat} (hG : G < 2 ^ 12)
    (hf : FX7_firstOf (nI d) (nI n) one other (nI m) (nI G) = some (nI v)) (nb : Int32) (low high : Nat → Int32) (k58 : (Nat → Int32) → Int32 → Int32 → (Nat → Int32) → (Nat → Int32) → Int32 → Int32 → (Nat → Int32) → Int32 → Option ((Nat → Int32) × Int32 × Int32 × (Nat → Int32) × (Nat → Int32) × Int32 × Int32 × (Nat → Int32) × Int32)) (to : Nat → Int32) (sn rk : Int32) (dn : Nat → Int32) :
    ∃ to' sn' rk' one' other' W' m', FX7_takesDown_b84 (nI n) nb low high k58 (nI d) to sn rk one other (nI m) (nI G) dn (nI s) = k58 to' sn' rk' one' other' (nI m') (nI (G ||| 2 ^ v)) (upd (upd (upd dn (3 * s) (nI v)) (3 * s + 1) (nI d)) (3 * s + 2) c) (nI (s + 1)) ∧ TH one' other' W' m' ∧ bl W' m' = L' ∧ m' ≤ m + 1 := by
  obtain ⟨hw, hlt, hsp, hR, hz, hl⟩ := h
  unfold FX7_takesDown_b84 FX7_takesDown_b111 FX7_takesDown_b156
  rw [hf]
  simp only [Option.bind_some]
  obtain ⟨one1, other1, K, k', e1, k1, eK, T1⟩ := mgo_v hm (OK.of hw) hv (nI G) hT
  rw [e1]
  simp only [Option.bind_some]
  have p12 : 2 ^ v < 2 ^ 12 := Nat.pow_lt_pow_right (by decide) hv
  rw [shl1 (by omega), orI (by omega) (by omega), mul3]
  have ea1 : nI (3 * s) + 1 = nI (3 * s + 1) := nI_1 _
  have ea2 : nI (3 * s) + 2 = nI (3 * s + 2) := nI_add _ _
  rw [ea1, ea2]
  simp only [gi (show 3 * s < 36 by omega) (show 36 < 2 ^ 31 by decide), gi (show 3 * s + 1 < 36 by omega) (show 36 < 2 ^ 31 by decide), gi (show 3 * s + 2 < 36 by omega) (show 36 < 2 ^ 31 by decide), clp (show 3 * s < 2 ^ 31 by omega), clp (show 3 * s + 1 < 2 ^ 31 by omega), clp (show 3 * s + 2 < 2 ^ 31 by omega), nI_1]
  rcases hx with ⟨rfl, rfl, rfl⟩ | ⟨rfl, a, b, lx, rfl, rfl⟩
  · rw [if_neg (show ¬ nI 2 = 3 by decide), if_pos (show (-1 : Int32) < 0 by decide)]
    exact ⟨_, _, _, _, _, K, k', rfl, T1, eK, by omega⟩
  · rw [if_pos (show nI 3 = 3 from rfl)]
    have hwf : WL (flt (bl W m) v) := hw.filter _
    have hbn : b < n := by
      rcases adj_mem lx.2.2.1.2.1 with x | x
      · exact hRn _ (hR _ x).2
      · exact hRn _ (hR _ x).1
    rw [← eK] at lx hwf
    obtain ⟨f1, sn1, rk1, e2⟩ := mpi2 hn (show k' ≤ 24 by omega) (OK.of hwf) (by rw [eK]; exact hsp.filter _) T1 lx hbn 5000 0 to sn rk (Nat.zero_le _) (by omega)
    have e2' : FX7_pairIn (nI (nm (bl W m) v)) (nI n) to sn rk one1 other1 (nI k') = _ := e2
    rw [e2']
    simp only [Option.bind_some]
    have h1 := lx.1
    have h2 := lx.2.1
    obtain ⟨dv1, dv2⟩ := div100 a (by omega) b h2
    rw [if_neg (show ¬ nI (100 * a + b) < (0 : Int32) from nI_nlt (Nat.zero_le _) (by omega)), gi (show k' < 72 by omega) (by decide), gi (show k' < 72 by omega) (by decide), clp (show k' < 2 ^ 31 by omega), dv2, dv1]
    refine ⟨_, _, _, _, _, (fun i => if i = k' then (a, b) else K i), k' + 1, rfl, fun i hi => ?_, ?_, by omega⟩
    · by_cases ei : i = k'
      · subst ei
        rw [updS, updS]
        simp
      · rw [updN ei, updN ei]
        simp only [if_neg ei]
        exact T1 i (by omega)
    · show (if k' = k' then (a, b) else K k') :: bl (fun i => if i = k' then (a, b) else K i) k' = _
      rw [if_pos rfl, bl_congr (V := K) (fun i hi => if_neg (by omega)), eK]
theorem mstep {n m : Nat} (hn : n ≤ 12) (hm : m ≤ 24) {W : Nat → Nat × Nat} {R : Nat → Bool} {k v d s : Nat} (h : DS (bl W m) R k) (hk : 3 ≤ k) (hsk : s + k = n) (hRn : ∀ w, R w = true → w < n) (hR : R v = true) (hc : Ch (bl W m) v d) {L' : List (Nat × Nat)} {c : Int32} (hx : Nx (bl W m) v d L' c) (hd : dg (bl W m) v = d) {one other : Nat → Int32} (hT : TH one other W m) {G : Nat} (hG : G < 2 ^ 12) (hGR : ∀ w, G.testBit w = true → R w = false)
    (nb : Int32) (low high : Nat → Int32) (k58 : (Nat → Int32) → Int32 → Int32 → (Nat → Int32) → (Nat → Int32) → Int32 → Int32 → (Nat → Int32) → Int32 → Option ((Nat → Int32) × Int32 × Int32 × (Nat → Int32) × (Nat → Int32) × Int32 × Int32 × (Nat → Int32) × Int32)) (to : Nat → Int32) (sn rk : Int32) (dn : Nat → Int32) :
    ∃ to' sn' rk' one' other' W' m', FX7_takesDown_b58 (nI n) nb low high k58 to sn rk one other (nI m) (nI G) dn (nI s) = k58 to' sn' rk' one' other' (nI m') (nI (G ||| 2 ^ v)) (upd (upd (upd dn (3 * s) (nI v)) (3 * s + 1) (nI d)) (3 * s + 2) c) (nI (s + 1)) ∧ TH one' other' W' m' ∧ bl W' m' = L' ∧ m' ≤ m + 1 := by
  obtain ⟨hv, hc⟩ := hc
  unfold FX7_takesDown_b58
  have ek : nI n - nI s = nI k := by
    rw [← hsk, ← nI_add, nI_ac]
  have g0 : ∀ w, G.testBit w = true → dg (bl W m) w = 0 := fun w hw => dg_zero h.2.2.2.1 (hGR w hw)
  have vn := hRn v hR
  rw [ek, if_neg (show ¬ nI k ≤ (2 : Int32) from nI_ge (show 2 < k by omega) (by omega))]
  have c2 := mfo_h hn hm (OK.of h.1) hT hG g0 (c := 2) (by decide) (by decide) 5000 0 (Nat.zero_le _) (by omega)
  have c3 := mfo_h hn hm (OK.of h.1) hT hG g0 (c := 3) (by decide) (by decide) 5000 0 (Nat.zero_le _) (by omega)
  rcases hc with ⟨rfl, d2, mn⟩ | ⟨rfl, no2, d3, mn⟩
  · have e : FX7_firstOf 2 (nI n) one other (nI m) (nI G) = some (nI v) := c2.1 v (Nat.zero_le _) vn d2 (fun w _ => mn w)
    rw [e]
    simp only [Option.bind_some]
    rw [if_neg (show ¬ nI v < (0 : Int32) from nI_nlt (Nat.zero_le _) (by omega))]
    exact mstep84 hn hm h hRn hv hx hd (by omega) hT hG e nb low high k58 to sn rk dn
  · have e : FX7_firstOf 2 (nI n) one other (nI m) (nI G) = some (-1) := c2.2 (fun w _ hw => no2 w (by omega))
    have e' : FX7_firstOf 3 (nI n) one other (nI m) (nI G) = some (nI v) := c3.1 v (Nat.zero_le _) vn d3 (fun w _ => mn w)
    rw [e]
    simp only [Option.bind_some]
    rw [if_pos (show (-1 : Int32) < 0 by decide)]
    exact mstep84 hn hm h hRn hv hx hd (by omega) hT hG e' nb low high k58 to sn rk dn
/-- what both have written down -/
def DR (s : Nat) (go hh cm dn : Nat → Int32) : Prop := ∀ i, i < s → go i = dn (3 * i) ∧ hh i = dn (3 * i + 1) ∧ cm i = dn (3 * i + 2)
theorem DR.step {s : Nat} {go hh cm dn : Nat → Int32} (h : DR s go hh cm dn) {x y c : Int32} {cm' : Nat → Int32} (h1 : cm' s = c) (h2 : ∀ i, i ≠ s → cm' i = cm i) : DR (s + 1) (upd go s x) (upd hh s y) cm' (upd (upd (upd dn (3 * s) x) (3 * s + 1) y) (3 * s + 2) c) := by
  intro i hi
  by_cases e : i = s
  · subst e
    refine ⟨?_, ?_, ?_⟩
    · rw [updS, updN (by omega), updN (by omega), updS]
    · rw [updS, updN (by omega), updS]
    · rw [h1, updS]
  · obtain ⟨a, b, d⟩ := h i (by omega)
    refine ⟨?_, ?_, ?_⟩
    · rw [updN e, updN (by omega), updN (by omega), updN (by omega)]; exact a
    · rw [updN e, updN (by omega), updN (by omega), updN (by omega)]; exact b
    · rw [h2 i e, updN (by omega), updN (by omega), updN (by omega)]; exact d
theorem nIm1 {k : Nat} (h : 0 < k) : nI k + (-1) = nI (k - 1) := by
  rw [← sub1I h, Int32.sub_eq_add_neg]
theorem run_par {n : Nat} (hn : n ≤ 12) (p6 b6 : Int32) (les gre : Nat → Int32) (b7 : Int32) (low high : Nat → Int32) : ∀ (fu k s m G : Nat) (W : Nat → Nat × Nat) (R : Nat → Bool) (near go hh cm f qu ca to : Nat → Int32) (sn rk : Int32) (one other dn : Nat → Int32), k < fu → s + k = n → m ≤ 24 → DS (bl W m) R k → (∀ w, R w = true → w < n) → G < 2 ^ 12 → (∀ w, G.testBit w = true → R w = false) → NR near (bl W m) → TH one other W m → DR s go hh cm dn →
    ∃ u v s', FX4_run_h47 p6 b6 les gre fu (nI k) near (nI s) go hh cm f qu ca = some u ∧ FX7_takesDown_h58 (nI n) b7 low high fu to sn rk one other (nI m) (nI G) dn (nI s) = some v ∧ s' ≤ 12 ∧ u.2.1 = nI s' ∧ v.2.2.2.2.2.2.2.2 = nI s' ∧ DR s' u.2.2.1 u.2.2.2.1 u.2.2.2.2.1 v.2.2.2.2.2.2.2.1 := by
  intro fu
  induction fu with
  | zero => intro k _ _ _ _ _ _ _ _ _ _ _ _ _ _ _ _ _ _ h; omega
  | succ fu ih =>
    intro k s m G W R near go hh cm f qu ca to sn rk one other dn hf hsk hm hD hRn hG hGR hN hT hDR
    show ∃ u v s', FX4_run_b47 p6 b6 les gre (FX4_run_h47 p6 b6 les gre fu) (nI k) near (nI s) go hh cm f qu ca = _ ∧ FX7_takesDown_b58 (nI n) b7 low high (FX7_takesDown_h58 (nI n) b7 low high fu) to sn rk one other (nI m) (nI G) dn (nI s) = _ ∧ _
    by_cases h3 : k < 3
    · have l := hD.2.2.2.2.2
      unfold FX4_run_b47 FX7_takesDown_b58
      have ek : nI n - nI s = nI k := by
        rw [← hsk, ← nI_add, nI_ac]
      rw [if_pos (show nI k < (3 : Int32) from nI_lt h3 (by decide)), ek, if_pos (show nI k ≤ (2 : Int32) from nI_le (show k ≤ 2 by omega) (by decide))]
      exact ⟨_, _, s, rfl, rfl, by omega, rfl, rfl, hDR⟩
    · obtain ⟨v, d, hc, hR, hd⟩ := ch_ex hD (by omega)
      obtain ⟨L', c, hx, hD'⟩ := nx_ex hD (by omega) hc hR hd
      have ll : (bl W m).length ≤ 24 := by rw [bl_len]; exact hm
      obtain ⟨near', cm', f', qu', ca', e6, hN', c1, c2⟩ := cstep hD ll hc hd hx (show s < 12 by omega) hN go hh cm f qu ca
      obtain ⟨to', sn', rk', one', other', W', m', e7, hT', eL, hm'⟩ := mstep hn hm hD (by omega) hsk hRn hR hc hx hd hT hG hGR b7 low high (FX7_takesDown_h58 (nI n) b7 low high fu) to sn rk dn
      rw [e7]
      unfold FX4_run_b47
      rw [if_neg (show ¬ nI k < (3 : Int32) from nI_nlt (show 3 ≤ k by omega) (by omega)), e6]
      simp only [Option.bind_some]
      rw [nIm1 (by omega)]
      rw [← eL] at hD' hN'
      have p12 : 2 ^ v < 2 ^ 12 := Nat.pow_lt_pow_right (by decide) hc.1
      have lm : m' + 3 = 2 * (k - 1) := by have := hD'.2.2.2.2.2; rw [bl_len] at this; exact this
      refine ih (k - 1) (s + 1) m' (G ||| 2 ^ v) W' (rmv R v) near' _ _ cm' f' qu' ca' to' sn' rk' one' other' _ (by omega) (by omega) (by omega) hD' (fun w hw => ?_) (Nat.or_lt_two_pow hG p12) (fun w hw => ?_) hN' hT' (hDR.step c1 c2)
      · unfold rmv at hw
        simp only [Bool.and_eq_true] at hw
        exact hRn w hw.1
      · rw [tb_or] at hw
        unfold rmv
        simp only [Bool.or_eq_true, decide_eq_true_eq] at hw
        rcases hw with hw | rfl
        · rw [hGR w hw]; rfl
        · simp
