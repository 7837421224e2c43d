theorem dfX0 (g : XG) : ∀ j, j < 1 → defaultValue (tyX0 j) = vp_V (([vR 0] : List XV).map (x_v g)) j := by
  intro j hj
  match j, hj with
  | 0, _ => rfl
  | j + 1, hj => exact absurd hj (by omega)
theorem dfX1 (g : XG) : ∀ j, j < 5 → defaultValue (tyX1 j) = vp_V (([vI 0, vI 0, vI 0, vI 0, vR 0] : List XV).map (x_v g)) j := by
  intro j hj
  match j, hj with
  | 0, _ => rfl
  | 1, _ => rfl
  | 2, _ => rfl
  | 3, _ => rfl
  | 4, _ => rfl
  | j + 5, hj => exact absurd hj (by omega)
theorem dfX2 (g : XG) : ∀ j, j < 5 → defaultValue (tyX2 j) = vp_V (([vR 0, vR 0, vR 0, vR 0, vI 0] : List XV).map (x_v g)) j := by
  intro j hj
  match j, hj with
  | 0, _ => rfl
  | 1, _ => rfl
  | 2, _ => rfl
  | 3, _ => rfl
  | 4, _ => rfl
  | j + 5, hj => exact absurd hj (by omega)
theorem dfX3 (g : XG) : ∀ j, j < 13 → defaultValue (tyX3 j) = vp_V (([vR 0, vR 0, vR 0, vR 0, vR 0, vR 0, vR 0, vI 0, vI 0, vI 0, vI 0, vI 0, vI 0] : List XV).map (x_v g)) j := by
  intro j hj
  match j, hj with
  | 0, _ => rfl
  | 1, _ => rfl
  | 2, _ => rfl
  | 3, _ => rfl
  | 4, _ => rfl
  | 5, _ => rfl
  | 6, _ => rfl
  | 7, _ => rfl
  | 8, _ => rfl
  | 9, _ => rfl
  | 10, _ => rfl
  | 11, _ => rfl
  | 12, _ => rfl
  | j + 13, hj => exact absurd hj (by omega)
theorem dfX4 (g : XG) : ∀ j, j < 4 → defaultValue (tyX4 j) = vp_V (([vR 0, vR 0, vR 0, vI 0] : List XV).map (x_v g)) j := by
  intro j hj
  match j, hj with
  | 0, _ => rfl
  | 1, _ => rfl
  | 2, _ => rfl
  | 3, _ => rfl
  | j + 4, hj => exact absurd hj (by omega)
theorem dfX5 (g : XG) : ∀ j, j < 3 → defaultValue (tyX5 j) = vp_V (([vR 0, vR 0, vI 0] : List XV).map (x_v g)) j := by
  intro j hj
  match j, hj with
  | 0, _ => rfl
  | 1, _ => rfl
  | 2, _ => rfl
  | j + 3, hj => exact absurd hj (by omega)
theorem dfX6 (g : XG) : ∀ j, j < 14 → defaultValue (tyX6 j) = vp_V (([vR 0, vR 0, vI 0, vR 0, vI 0, vI 0, vR 0, vR 0, vR 0, vR 0, vR 0, vR 0, vR 0, vR 0] : List XV).map (x_v g)) j := by
  intro j hj
  match j, hj with
  | 0, _ => rfl
  | 1, _ => rfl
  | 2, _ => rfl
  | 3, _ => rfl
  | 4, _ => rfl
  | 5, _ => rfl
  | 6, _ => rfl
  | 7, _ => rfl
  | 8, _ => rfl
  | 9, _ => rfl
  | 10, _ => rfl
  | 11, _ => rfl
  | 12, _ => rfl
  | 13, _ => rfl
  | j + 14, hj => exact absurd hj (by omega)
theorem dfX7 (g : XG) : ∀ j, j < 27 → defaultValue (tyX7 j) = vp_V (([vI 0, vR 0, vI 0, vI 0, vR 0, vR 0, vR 0, vR 0, vI 0, vR 0, vR 0, vR 0, vR 0, vR 0, vR 0, vR 0, vR 0, vR 0, vR 0, vR 0, vR 0, vI 0, vR 0, vR 0, vR 0, vR 0, vR 0] : List XV).map (x_v g)) j := by
  intro j hj
  match j, hj with
  | 0, _ => rfl
  | 1, _ => rfl
  | 2, _ => rfl
  | 3, _ => rfl
  | 4, _ => rfl
  | 5, _ => rfl
  | 6, _ => rfl
  | 7, _ => rfl
  | 8, _ => rfl
  | 9, _ => rfl
  | 10, _ => rfl
  | 11, _ => rfl
  | 12, _ => rfl
  | 13, _ => rfl
  | 14, _ => rfl
  | 15, _ => rfl
  | 16, _ => rfl
  | 17, _ => rfl
  | 18, _ => rfl
  | 19, _ => rfl
  | 20, _ => rfl
  | 21, _ => rfl
  | 22, _ => rfl
  | 23, _ => rfl
  | 24, _ => rfl
  | 25, _ => rfl
  | 26, _ => rfl
  | j + 27, hj => exact absurd hj (by omega)
