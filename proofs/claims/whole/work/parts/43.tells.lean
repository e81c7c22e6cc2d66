/-! tells -/
theorem sim1 {c m : Int32} (h : simP c m) : c = 1 ↔ m = 1 := by
  rcases h with rfl | h
  · exact Iff.rfl
  · exact ⟨fun e => absurd e (h 1 (by decide)).1, fun e => absurd e (h 1 (by decide)).2⟩
theorem tc_v {a z : Nat} (ha : a < z) (hz : z ≤ 40) (it : Nat → Int32) : FX2_tellsCarrying (nI a) (nI z) it = some (if it a = 1 then 1 else 0) := by
  unfold FX2_tellsCarrying FX2_has
  rw [if_neg (show ¬ nI a < (0 : Int32) from nI_nlt (Nat.zero_le a) (by omega)), if_neg (nI_ge (by omega) (by omega))]
  simp only [Option.bind_some, if_neg (show ¬ (1 : Int32) = 0 by decide)]
  rw [gi (show a < 40 by omega) (by decide), clp (by omega)]
  by_cases h : it a = 1
  · rw [if_pos h, if_pos h]
  · rw [if_neg h, if_neg h]
