theorem rel_init : Rel 0 0 (fun _ => 0) (fun _ => 0) (fun _ => 0) 0 0 (fun _ => 0) (fun _ => 0) (fun _ => 0) 0 (fun _ => 0) 0 (fun _ => -1) (fun _ => 0) (fun _ _ => 0) 0 0 0 (fun _ => 0) (fun _ => 0) (fun _ => 0) (fun _ => 0) 0 0 (fun _ => 0) (fun _ => 0) (fun _ => 0) 0 (upd (upd (upd (upd (fun _ => 0) ((0 : Int32).toNatClampNeg) (-1)) ((1 : Int32).toNatClampNeg) (-1)) ((2 : Int32).toNatClampNeg) (-1)) ((3 : Int32).toNatClampNeg) (-1)) (fun _ => 0) (fun _ => 0) := by
  refine ⟨⟨0, 0, by omega, by omega, rfl, rfl, rfl, rfl, fun b hb => by omega, fun b c hb => by omega, fun p hp => by omega⟩, Or.inl rfl, rfl, fun h => absurd h (by decide), ⟨0, by omega, rfl, rfl, fun i hi => by omega⟩, ?_⟩
  intro j hj
  refine ⟨Or.inl rfl, ?_, 0, by omega, rfl, rfl, fun _ => rfl, fun i hi => by omega⟩
  match j, hj with
  | 0, _ => rfl
  | 1, _ => rfl
  | 2, _ => rfl
  | 3, _ => rfl
  | j + 4, hj => exact absurd hj (by omega)
