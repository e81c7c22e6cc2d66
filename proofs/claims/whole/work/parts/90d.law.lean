theorem arrK {ty : FieldType} {args : Array Value} {s : State} (h : (Cond.arrayClass ty).before args s = true) : ∃ cA : ClassId, ArrOfT s cA ty ∧ s.vm.findClass ("[" ++ ty.toString) = some cA := by
  obtain ⟨c, k, comp, h1, h2, h3⟩ := Cond.arrayClass_spec h
  exact ⟨c, fun n z => ⟨fun k h => (by cases h), k, h2, comp, h3⟩, h1⟩
theorem arrS {args : Array Value} {s : State} (h : (Cond.arrayOver (.object "PebbleBars$Sheet")).before args s = true) : ∃ cA : ClassId, ArrOfT s cA (.object "PebbleBars$Sheet") ∧ va_RA s cA (.object "PebbleBars$Sheet") := by
  obtain ⟨comp, c, k, h1, h2, h3, h4, h5⟩ := Cond.arrayOver_spec h
  exact ⟨c, fun n z => ⟨fun k h => (by cases h), k, h3, comp, h4⟩, k, comp, h3, h4, h1, h5⟩
set_option maxHeartbeats 4000000 in
set_option maxRecDepth 100000 in
theorem law_loop {p : Program} {l : Launch} {e : Env} {s : State} {m : MethodId} {below : List Frame} {meth : Method} {c : Code} {D : va_G} {cI cZ cS : ClassId} {a am : Nat → Nat} {b Ln : Nat} {xs : Nat → Int32} (h0 : Std p s m meth c #[Value.ref b] cL_law 4 (some .boolean) R_law D (tyL cI cZ cS)) (hX : va_X b Ln xs s s.heap) (hbl : b < s.heap.size) (hlocks : meth.locks = false) (hLn : Ln ≤ 3584) : ∀ (n k : Nat), Ln + 1 ≤ k + n → k ≤ Ln → ∀ (H : Heap) (locs : List Loc) (ls : Array Slot), Inv D cI cZ cS a am (fun q : Nat => s.heap.size ≤ q) H → va_S (fun q : Nat => s.heap.size ≤ q) s.heap H locs → lv_has ls 4 [(0, .ref b), (1, .ref (a 0)), (2, .ref (am 0)), (3, .int (nI k))] → W p l e room_1 s m #[Value.ref b] below meth c H locs 58 1798 (lw_Z below #[Value.ref b] s) (F0 m 18 ls []) := by
  obtain ⟨hx, hb, hr, hlk, hml, hown, hts, hK⟩ := id h0
  have hbA : ¬ (fun q : Nat => s.heap.size ≤ q) b := Nat.not_le.mpr hbl
  intro n
  induction n with
  | zero => intro k h1 h2; exact absurd h1 (by omega)
  | succ n ih =>
    intro k hkn hk H locs ls hI hS hl
    refine lv_iload_n hx hb dL_law_18 rfl (lv_at hl 3 rfl) ?_
    refine lv_aload_n hx hb dL_law_19 rfl (lv_at hl 0 rfl) ?_
    refine va_slen hx hb hX hbl hbA hS dL_law_20 ?_
    refine lv_bipush (v := 7) hx hb dL_law_21 (by decide) ?_
    refine lv_isub hx hb dL_law_23 ?_
    have hsub : (Int32.ofNat Ln - 7 : Int32).toInt = (Ln : Int) - 7 := pk_sub_toInt (a := Ln) (b := 7) (by omega) (by decide)
    refine lv_icmp_gt (tgt := 968) hx hb dL_law_24 (by decide) (fun c1 => ?_) (fun c1 => ?_)
    · refine lv_iconst (v := 1) hx hb dL_law_968 (by decide) ?_
      refine va_forget (fun q hq => hS.2.2 q hq) ?_
      refine W.widen (k := 600000) (n := 7302250) (Nat.le_of_ble_eq_true rfl) (Nat.le_of_ble_eq_true rfl) ?_
      exact lw_ret hx hb hr hlocks dL_law_969
    · have hk7 : k + 7 ≤ Ln := by
        rw [Int32.lt_iff_toInt_lt, hsub, nI_toInt (by omega)] at c1
        omega
      have kk : ∀ (H : Heap) (locs : List Loc) (ls : Array Slot), Inv D cI cZ cS a am (fun q : Nat => s.heap.size ≤ q) H → va_S (fun q : Nat => s.heap.size ≤ q) s.heap H locs → lv_has ls 4 [(0, .ref b), (1, .ref (a 0)), (2, .ref (am 0)), (3, .int (nI k))] → W p l e room_1 s m #[Value.ref b] below meth c H locs 58 1798 (lw_Z below #[Value.ref b] s) (F0 m 962 ls []) := by
        intro H locs ls hI hS hl
        refine lv_iinc (v := nI (k + 7)) (lv' := [(3, .int (nI (k + 7))), (0, .ref b), (1, .ref (a 0)), (2, .ref (am 0))]) hx hb dL_law_962 hl (k := 3) rfl (nI_add k 7) (by decide) rfl (fun ls hl => ?_)
        refine lv_goto (tgt := 18) hx hb dL_law_965 (by decide) ?_
        exact ih (k + 7) (by omega) hk7 H locs ls hI hS (lv_sub hl [1, 2, 3, 0] rfl)
      refine lv_aload_n hx hb dL_law_27 rfl (lv_at hl 0 rfl) ?_
      refine lv_iload_n hx hb dL_law_28 rfl (lv_at hl 3 rfl) ?_
      refine va_sld hx hb hX hbl hbA hS (vp_in_nI (by omega) (by omega)) dL_law_29 ?_
      refine lv_bipush (v := 31) hx hb dL_law_30 (by decide) ?_
      refine lv_iand hx hb dL_law_32 ?_
      refine lv_topi (fun x _ => ?_)
      by_cases e0 : x = 0
      · refine lv_tableIn (off := 119) (tgt := 152) hx hb dL_law_33 (by rw [e0]; decide) (by rw [e0]; decide) (by rw [e0]; decide) (by decide) ?_
        exact lc_feed h0 hX hbl k hk7 hLn H locs ls hI hS hl kk
      · skip
        by_cases e1 : x = 1
        · refine lv_tableIn (off := 194) (tgt := 227) hx hb dL_law_33 (by rw [e1]; decide) (by rw [e1]; decide) (by rw [e1]; decide) (by decide) ?_
          exact lc_text h0 hX hbl k hk7 hLn H locs ls hI hS hl kk
        · skip
          by_cases e2 : x = 2
          · refine lv_tableIn (off := 207) (tgt := 240) hx hb dL_law_33 (by rw [e2]; decide) (by rw [e2]; decide) (by rw [e2]; decide) (by decide) ?_
            exact lc_named h0 hX hbl k hk7 hLn H locs ls hI hS hl kk
          · skip
            by_cases e3 : x = 3
            · refine lv_tableIn (off := 220) (tgt := 253) hx hb dL_law_33 (by rw [e3]; decide) (by rw [e3]; decide) (by rw [e3]; decide) (by decide) ?_
              exact lc_bar h0 hX hbl k hk7 hLn H locs ls hI hS hl kk
            · skip
              by_cases e4 : x = 4
              · refine lv_tableIn (off := 253) (tgt := 286) hx hb dL_law_33 (by rw [e4]; decide) (by rw [e4]; decide) (by rw [e4]; decide) (by decide) ?_
                exact lc_off h0 hX hbl k hk7 hLn H locs ls hI hS hl kk
              · skip
                by_cases e5 : x = 5
                · refine lv_tableIn (off := 286) (tgt := 319) hx hb dL_law_33 (by rw [e5]; decide) (by rw [e5]; decide) (by rw [e5]; decide) (by decide) ?_
                  exact lc_told h0 hX hbl k hk7 hLn H locs ls hI hS hl kk
                · skip
                  by_cases e6 : x = 6
                  · refine lv_tableIn (off := 309) (tgt := 342) hx hb dL_law_33 (by rw [e6]; decide) (by rw [e6]; decide) (by rw [e6]; decide) (by decide) ?_
                    exact lc_barAt h0 hX hbl k hk7 hLn H locs ls hI hS hl kk
                  · skip
                    by_cases e7 : x = 7
                    · refine lv_tableIn (off := 342) (tgt := 375) hx hb dL_law_33 (by rw [e7]; decide) (by rw [e7]; decide) (by rw [e7]; decide) (by decide) ?_
                      exact lc_pin h0 hX hbl k hk7 hLn H locs ls hI hS hl kk
                    · skip
                      by_cases e8 : x = 8
                      · refine lv_tableIn (off := 375) (tgt := 408) hx hb dL_law_33 (by rw [e8]; decide) (by rw [e8]; decide) (by rw [e8]; decide) (by decide) ?_
                        exact lc_between h0 hX hbl k hk7 hLn H locs ls hI hS hl kk
                      · skip
                        by_cases e9 : x = 9
                        · refine lv_tableIn (off := 408) (tgt := 441) hx hb dL_law_33 (by rw [e9]; decide) (by rw [e9]; decide) (by rw [e9]; decide) (by decide) ?_
                          exact lc_tied h0 hX hbl k hk7 hLn H locs ls hI hS hl kk
                        · skip
                          by_cases e10 : x = 10
                          · refine lv_tableIn (off := 441) (tgt := 474) hx hb dL_law_33 (by rw [e10]; decide) (by rw [e10]; decide) (by rw [e10]; decide) (by decide) ?_
                            exact lc_part h0 hX hbl k hk7 hLn H locs ls hI hS hl kk
                          · skip
                            by_cases e11 : x = 11
                            · refine lv_tableIn (off := 464) (tgt := 497) hx hb dL_law_33 (by rw [e11]; decide) (by rw [e11]; decide) (by rw [e11]; decide) (by decide) ?_
                              exact lc_ring h0 hX hbl k hk7 hLn H locs ls hI hS hl kk
                            · skip
                              by_cases e12 : x = 12
                              · refine lv_tableIn (off := 487) (tgt := 520) hx hb dL_law_33 (by rw [e12]; decide) (by rw [e12]; decide) (by rw [e12]; decide) (by decide) ?_
                                exact lc_worst h0 hX hbl k hk7 hLn H locs ls hI hS hl kk
                              · skip
                                by_cases e13 : x = 13
                                · refine lv_tableIn (off := 510) (tgt := 543) hx hb dL_law_33 (by rw [e13]; decide) (by rw [e13]; decide) (by rw [e13]; decide) (by decide) ?_
                                  exact lc_without h0 hX hbl k hk7 hLn H locs ls hI hS hl kk
                                · skip
                                  by_cases e14 : x = 14
                                  · refine lv_tableIn (off := 533) (tgt := 566) hx hb dL_law_33 (by rw [e14]; decide) (by rw [e14]; decide) (by rw [e14]; decide) (by decide) ?_
                                    exact lc_with h0 hX hbl k hk7 hLn H locs ls hI hS hl kk
                                  · skip
                                    by_cases e15 : x = 15
                                    · refine lv_tableIn (off := 566) (tgt := 599) hx hb dL_law_33 (by rw [e15]; decide) (by rw [e15]; decide) (by rw [e15]; decide) (by decide) ?_
                                      exact lc_lacking h0 hX hbl k hk7 hLn H locs ls hI hS hl kk
                                    · skip
                                      by_cases e16 : x = 16
                                      · refine lv_tableIn (off := 589) (tgt := 622) hx hb dL_law_33 (by rw [e16]; decide) (by rw [e16]; decide) (by rw [e16]; decide) (by decide) ?_
                                        exact lc_down h0 hX hbl k hk7 hLn H locs ls hI hS hl kk
                                      · skip
                                        by_cases e17 : x = 17
                                        · refine lv_tableIn (off := 622) (tgt := 655) hx hb dL_law_33 (by rw [e17]; decide) (by rw [e17]; decide) (by rw [e17]; decide) (by decide) ?_
                                          exact lc_line h0 hX hbl k hk7 hLn H locs ls hI hS hl kk
                                        · skip
                                          by_cases e18 : x = 18
                                          · refine lv_tableIn (off := 645) (tgt := 678) hx hb dL_law_33 (by rw [e18]; decide) (by rw [e18]; decide) (by rw [e18]; decide) (by decide) ?_
                                            exact lc_tells h0 hX hbl k hk7 hLn H locs ls hI hS hl kk
                                          · skip
                                            by_cases e19 : x = 19
                                            · refine lv_tableIn (off := 678) (tgt := 711) hx hb dL_law_33 (by rw [e19]; decide) (by rw [e19]; decide) (by rw [e19]; decide) (by decide) ?_
                                              exact lc_film h0 hX hbl k hk7 hLn H locs ls hI hS hl kk
                                            · skip
                                              by_cases e20 : x = 20
                                              · refine lv_tableIn (off := 701) (tgt := 734) hx hb dL_law_33 (by rw [e20]; decide) (by rw [e20]; decide) (by rw [e20]; decide) (by decide) ?_
                                                exact lc_image h0 hX hbl k hk7 hLn H locs ls hI hS hl kk
                                              · skip
                                                by_cases e21 : x = 21
                                                · refine lv_tableIn (off := 714) (tgt := 747) hx hb dL_law_33 (by rw [e21]; decide) (by rw [e21]; decide) (by rw [e21]; decide) (by decide) ?_
                                                  exact lc_back h0 hX hbl k hk7 hLn H locs ls hI hS hl kk
                                                · skip
                                                  by_cases e22 : x = 22
                                                  · refine lv_tableIn (off := 727) (tgt := 760) hx hb dL_law_33 (by rw [e22]; decide) (by rw [e22]; decide) (by rw [e22]; decide) (by decide) ?_
                                                    exact lc_sheet h0 hX hbl k hk7 hLn H locs ls hI hS hl kk
                                                  · skip
                                                    by_cases e23 : x = 23
                                                    · refine lv_tableIn (off := 770) (tgt := 803) hx hb dL_law_33 (by rw [e23]; decide) (by rw [e23]; decide) (by rw [e23]; decide) (by decide) ?_
                                                      exact lc_put h0 hX hbl k hk7 hLn H locs ls hI hS hl kk
                                                    · skip
                                                      by_cases e24 : x = 24
                                                      · refine lv_tableIn (off := 813) (tgt := 846) hx hb dL_law_33 (by rw [e24]; decide) (by rw [e24]; decide) (by rw [e24]; decide) (by decide) ?_
                                                        exact lc_copy h0 hX hbl k hk7 hLn H locs ls hI hS hl kk
                                                      · skip
                                                        by_cases e25 : x = 25
                                                        · refine lv_tableIn (off := 876) (tgt := 909) hx hb dL_law_33 (by rw [e25]; decide) (by rw [e25]; decide) (by rw [e25]; decide) (by decide) ?_
                                                          exact lc_load h0 hX hbl k hk7 hLn H locs ls hI hS hl kk
                                                        · skip
                                                          refine lv_tableOut (tgt := 962) hx hb dL_law_33 (tsw_out 25 (by decide) (fun k hk => by match k, hk with | 0, _ => exact e0 | 1, _ => exact e1 | 2, _ => exact e2 | 3, _ => exact e3 | 4, _ => exact e4 | 5, _ => exact e5 | 6, _ => exact e6 | 7, _ => exact e7 | 8, _ => exact e8 | 9, _ => exact e9 | 10, _ => exact e10 | 11, _ => exact e11 | 12, _ => exact e12 | 13, _ => exact e13 | 14, _ => exact e14 | 15, _ => exact e15 | 16, _ => exact e16 | 17, _ => exact e17 | 18, _ => exact e18 | 19, _ => exact e19 | 20, _ => exact e20 | 21, _ => exact e21 | 22, _ => exact e22 | 23, _ => exact e23 | 24, _ => exact e24 | 25, _ => exact e25 | k + 26, hk => exact absurd hk (by omega))) (by decide) ?_
                                                          exact kk H locs ls hI hS hl
theorem wn6x (cI cZ cS : ClassId) (q : Nat) (u : Nat → Nat) : ∃ a : Nat → Nat, a 0 = q ∧ wnX6 cI cZ cS q u = List.flatten [wX6 (a 0) (a 2) (a 6) (a 10) (a 12) (a 20) (a 1) 0, wSA cS (a 1) (saL a), wX0 cI (a 2) (a 3) (a 4) (a 5) 0 0 (fun _ => 0) (fun _ => 0) (fun _ => 0), wX0 cI (a 6) (a 7) (a 8) (a 9) 0 0 (fun _ => 0) (fun _ => 0) (fun _ => 0), wX5 cI (a 10) (a 11) (fun _ => 0) 0 0 0, wX3 cI (a 12) (a 13) (a 14) (a 15) (a 16) (a 17) (a 18) (a 19) (fun _ => 0) (fun _ => 0) (fun _ => 0) 0 0 0 0 0 0 0 (fun _ => 0) (fun _ => 0) (fun _ => 0), wX4 cI (a 20) (a 21) (a 22) (a 23) (a 24) (a 25) (a 26) (a 27) (a 28) (fun _ => 0) 0 (fun _ => 0) (fun _ => 0) (fun _ => 0) (fun _ => 0) (fun _ => 0) (fun _ => 0), wX2 cI (a 29) (a 30) (-1) 0 (fun _ => 0), wX2 cI (a 31) (a 32) (-1) 0 (fun _ => 0), wX2 cI (a 33) (a 34) (-1) 0 (fun _ => 0), wX2 cI (a 35) (a 36) (-1) 0 (fun _ => 0)] := ⟨fun k => if k = 0 then q else u k, rfl, rfl⟩
theorem wn7x (cI cZ cS : ClassId) (q : Nat) (u : Nat → Nat) : ∃ am : Nat → Nat, am 0 = q ∧ wnX7 cI cZ cS q u = wX7 cI cZ am 0 0 0 0 0 0 (fun _ => 0) (fun _ => 0) (fun _ => 0) (fun _ => 0) (fun _ => 0) 0 0 (fun _ => 0) (fun _ => 0) (fun _ => 0) 0 (fun _ => 0) (fun _ => 0) 0 0 (fun _ => 0) (fun _ => 0) 0 0 (fun _ => 0) (fun _ => 0) (fun _ => 0) (fun _ => 0) 0 0 0 (upd (upd (upd (upd (fun _ => 0) ((0 : Int32).toNatClampNeg) (-1)) ((1 : Int32).toNatClampNeg) (-1)) ((2 : Int32).toNatClampNeg) (-1)) ((3 : Int32).toNatClampNeg) (-1)) (fun _ => 0) (fun _ => 0) (fun _ => 0) 0 0 := ⟨fun k => if k = 0 then q else u k, rfl, rfl⟩
set_option maxHeartbeats 4000000 in
set_option maxRecDepth 100000 in
theorem whole_start {p : Program} {e : Env} {s : State} {m : MethodId} {below : List Frame} {meth : Method} {c : Code} (l : Launch) (hflags : l.flags = flags0) {b L : Nat} {xs : Nat → Int32} (hL : L ≤ 3584) (C0 : lw_At p s m meth c b L xs) : W p l e room_1 s m #[Value.ref b] below meth c s.heap [] 0 0 (lw_Z below #[Value.ref b] s) (entryFrame m ([Value.ref b] : List Value).toArray 4) := by
  obtain ⟨hx, hb, hr, hml, hown, hts0, hX, hbl, hlocks, hgv⟩ := id C0
  have hA : ∀ q : Nat, s.heap.size ≤ q → (fun q : Nat => s.heap.size ≤ q) q := fun _ h => h
  have hts : ∀ w ∈ lw_g, w.before #[Value.ref b] s = true := fun w h => hts0 w (lw_gt w h)
  obtain ⟨c0, iS0, hKn0⟩ := u_known (C := RX0) (T := TX0) (N := 5) (n := 5) hts inX0 (hts _ wq_21)
  obtain ⟨c1, iS1, hKn1⟩ := u_known (C := RX1) (T := TX1) (N := 3) (n := 3) hts inX1 (hts _ wq_80)
  obtain ⟨c2, iS2, hKn2⟩ := u_known (C := RX2) (T := TX2) (N := 3) (n := 3) hts inX2 (hts _ wq_170)
  obtain ⟨c3, iS3, hKn3⟩ := u_known (C := RX3) (T := TX3) (N := 11) (n := 11) hts inX3 (hts _ wq_74)
  obtain ⟨c4, iS4, hKn4⟩ := u_known (C := RX4) (T := TX4) (N := 6) (n := 6) hts inX4 (hts _ wq_138)
  obtain ⟨c5, iS5, hKn5⟩ := u_known (C := RX5) (T := TX5) (N := 4) (n := 4) hts inX5 (hts _ wq_53)
  obtain ⟨c6, iS6, hKn6⟩ := u_known (C := RX6) (T := TX6) (N := 7) (n := 7) hts inX6 (hts _ wq_13)
  obtain ⟨c7, iS7, hKn7⟩ := u_known (C := RX7) (T := TX7) (N := 38) (n := 38) hts inX7 (hts _ wq_601)
  obtain ⟨dC, dI, hKc⟩ : ∃ (dC : Nat → ClassId) (dI : Nat → Nat → Nat), ∀ (k : Nat) (q : vw_C), vwCl[k]? = some q → u_Kn s q.1 q.2.1 q.2.2 (dC k) (dI k) := by
    refine ⟨fun k => [c0, c1, c2, c3, c4, c5, c6, c7].getD k c0, fun k => [iS0, iS1, iS2, iS3, iS4, iS5, iS6, iS7].getD k iS0, ?_⟩
    intro k q hq
    match k, hq with
    | 0, hq => cases hq; exact hKn0
    | 1, hq => cases hq; exact hKn1
    | 2, hq => cases hq; exact hKn2
    | 3, hq => cases hq; exact hKn3
    | 4, hq => cases hq; exact hKn4
    | 5, hq => cases hq; exact hKn5
    | 6, hq => cases hq; exact hKn6
    | 7, hq => cases hq; exact hKn7
    | k + 8, hq => simp [vwCl] at hq
  obtain ⟨cI, hI1, hI2⟩ := arrK (hts _ wq_51)
  obtain ⟨cZ, hZ1, hZ2⟩ := arrK (hts _ wq_721)
  have hN : Nst s := ⟨fun q hq => va_Nw.of rfl (hts0 _ ((by decide +kernel : ∀ q ∈ nestL, Cond.methodLinkNest q.1 q.2.1 q.2.2.1 q.2.2.2 ∈ lw_tbl) q hq)), va_AO.of (hts0 (Cond.arrayOver (.object "PebbleBars$Sheet")) (List.mem_append_right _ (List.mem_of_getElem? (i := 169) (by decide +kernel))))⟩
  obtain ⟨cS, hS1, hS2⟩ := arrS (args := #[Value.ref b]) hN.2.use
  have hK : va_K (dC, dI) vwCl (tyL cI cZ cS) s := by
    refine ⟨hKc, fun k q h => ?_⟩
    match k, h with
    | 0, h => cases h; exact ⟨hI1, hI2⟩
    | 1, h => cases h; exact ⟨hZ1, hZ2⟩
    | 2, h => cases h; exact ⟨hS1, hS2⟩
    | k + 3, h => simp [tyL] at h
  have h0 : Std p s m meth c #[Value.ref b] cL_law 4 (some .boolean) R_law (dC, dI) (tyL cI cZ cS) := ⟨hx, hb, hr, hlocks, hml, hown, hts, hK⟩
  have hS : va_S (fun q : Nat => s.heap.size ≤ q) s.heap s.heap [] := va_S.rf
  have hP : va_P (dC, dI) vwCl [] s.heap := fun k q h => by simp at h
  have hD : va_D (fun q : Nat => s.heap.size ≤ q) [] := ⟨fun i j p q h => by simp at h, fun k q h => by simp at h⟩
  have hl := lv_entry ([.ref b]) (n := 4) (Nat.le_of_ble_eq_true rfl)
  rw [lg_entry_eq]
  generalize (lg_sl ([.ref b]) ++ List.replicate (4 - (lg_sl ([.ref b])).length) Slot.unset).toArray = ls at hl ⊢
  have hl : lv_has ls 4 [(0, .ref b)] := hl
  refine newO (ci := 6) (fs := [.null, .null, .int 0, .null, .null, .null, .null]) (C := RX6) (T := TX6) (N := 7) h0 inX6 tyX6 tyX6_ok wq_12 wq_13 wq_1 hP hD hS hA rfl (fun j hj => by match j, hj with | 0, _ => rfl | 1, _ => rfl | 2, _ => rfl | 3, _ => rfl | 4, _ => rfl | 5, _ => rfl | 6, _ => rfl | j + 7, hj => exact absurd hj (by omega)) (Nat.le_of_ble_eq_true rfl) (Nat.le_of_ble_eq_true rfl) dL_law_0 (fun q6 H hP hD hS => ?_)
  refine W.widen (k := 1) (n := 7) (Nat.le_refl _) (Nat.le_refl _) ?_
  refine lv_dup hx hb dL_law_3 rfl ?_
  refine callIP (w0 := []) h0 hN (cn_X6 l (dC, dI) cI cZ cS q6) wq_16 wq_1 wq_15 rfl wq_14 hdnX6 ⟨Nat.le_of_ble_eq_true rfl, Nat.le_of_ble_eq_true rfl⟩ ⟨Nat.le_of_ble_eq_true rfl, Nat.le_of_ble_eq_true rfl⟩ hP hD hS hA hl.1 rfl (Nat.le_of_ble_eq_true rfl) dL_law_4 (fun u6 H locs hP hD hS => ?_)
  refine W.widen (k := 37) (n := 562) (Nat.le_refl _) (Nat.le_refl _) ?_
  refine lv_astore_n (lv' := [(1, .ref q6), (0, .ref b)]) hx hb dL_law_7 rfl hl (by decide) rfl (fun ls hl => ?_)
  refine newO (ci := 7) (fs := [.int 0, .int 0, .int 0, .int 0, .int 0, .int 0, .null, .null, .null, .null, .null, .int 0, .int 0, .null, .null, .null, .int 0, .null, .null, .int 0, .int 0, .null, .null, .int 0, .int 0, .null, .null, .null, .null, .int 0, .int 0, .int 0, .null, .null, .null, .null, .int 0, .int 0]) (C := RX7) (T := TX7) (N := 38) h0 inX7 tyX7 tyX7_ok wq_600 wq_601 wq_8 hP hD hS hA rfl (fun j hj => by match j, hj with | 0, _ => rfl | 1, _ => rfl | 2, _ => rfl | 3, _ => rfl | 4, _ => rfl | 5, _ => rfl | 6, _ => rfl | 7, _ => rfl | 8, _ => rfl | 9, _ => rfl | 10, _ => rfl | 11, _ => rfl | 12, _ => rfl | 13, _ => rfl | 14, _ => rfl | 15, _ => rfl | 16, _ => rfl | 17, _ => rfl | 18, _ => rfl | 19, _ => rfl | 20, _ => rfl | 21, _ => rfl | 22, _ => rfl | 23, _ => rfl | 24, _ => rfl | 25, _ => rfl | 26, _ => rfl | 27, _ => rfl | 28, _ => rfl | 29, _ => rfl | 30, _ => rfl | 31, _ => rfl | 32, _ => rfl | 33, _ => rfl | 34, _ => rfl | 35, _ => rfl | 36, _ => rfl | 37, _ => rfl | j + 38, hj => exact absurd hj (by omega)) (Nat.le_of_ble_eq_true rfl) (Nat.le_of_ble_eq_true rfl) dL_law_8 (fun q7 H hP hD hS => ?_)
  refine W.widen (k := 38) (n := 600) (Nat.le_refl _) (Nat.le_refl _) ?_
  refine lv_dup hx hb dL_law_11 rfl ?_
  refine callIP (w0 := [] ++ wnX6 cI cZ cS q6 u6) h0 hN (cn_X7 l (dC, dI) cI cZ cS q7) wq_604 wq_8 wq_603 rfl wq_602 hdnX7 ⟨Nat.le_of_ble_eq_true rfl, Nat.le_of_ble_eq_true rfl⟩ ⟨Nat.le_of_ble_eq_true rfl, Nat.le_of_ble_eq_true rfl⟩ hP hD hS hA hl.1 rfl (Nat.le_of_ble_eq_true rfl) dL_law_12 (fun u7 H locs hP hD hS => ?_)
  refine W.widen (k := 58) (n := 1798) (Nat.le_refl _) (Nat.le_refl _) ?_
  refine lv_astore_n (lv' := [(2, .ref q7), (1, .ref q6), (0, .ref b)]) hx hb dL_law_15 rfl hl (by decide) rfl (fun ls hl => ?_)
  refine lv_iconst (v := 0) hx hb dL_law_16 (by decide) ?_
  refine lv_istore_n (lv' := [(3, .int 0), (2, .ref q7), (1, .ref q6), (0, .ref b)]) hx hb dL_law_17 rfl hl (by decide) rfl (fun ls hl => ?_)
  obtain ⟨a, rfl, e6⟩ := wn6x cI cZ cS q6 u6
  obtain ⟨am, rfl, e7⟩ := wn7x cI cZ cS q7 u7
  rw [List.nil_append, e6, e7] at hP hD
  have hf : ∀ (x : List va_W) (y : va_W), x.flatten ++ y = (x ++ [y]).flatten := fun x y => by simp
  rw [hf] at hP hD
  exact law_loop (a := a) (am := am) h0 hX hbl hlocks hL (L + 1) 0 (by omega) (by omega) H locs ls ⟨(fun _ => 0), (fun _ _ => 0), (fun _ => -1), (fun _ => 0), (fun _ _ => 0), (fun _ => 0), (fun k => ([(fun _ => 0), (fun _ => 0), (fun _ => 0), (fun _ => 0), (fun _ => 0), (fun _ => 0), (fun _ => 0), (fun _ => 0), (fun _ => 0), (fun _ => 0), (fun _ => 0), (fun _ => 0), (fun _ => 0), (fun _ => 0), (fun _ => 0), (fun _ => 0), (upd (upd (upd (upd (fun _ => 0) ((0 : Int32).toNatClampNeg) (-1)) ((1 : Int32).toNatClampNeg) (-1)) ((2 : Int32).toNatClampNeg) (-1)) ((3 : Int32).toNatClampNeg) (-1)), (fun _ => 0), (fun _ => 0), (fun _ => 0)] : List (Nat → Int32)).getD k (fun _ => 0)), rel_init, hP, hD⟩ hS (lv_sub hl [3, 2, 1, 0] rfl)
