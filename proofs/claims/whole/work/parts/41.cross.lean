-- ===== the segments in the cells =====
def sg (z : Int) : Int32 := if 0 < z then 1 else if z < 0 then -1 else 0
theorem sg3 (z : Int) : (0 < z ∧ sg z = 1) ∨ (z < 0 ∧ sg z = -1) ∨ (z = 0 ∧ sg z = 0) := by
  unfold sg
  by_cases h1 : 0 < z
  · rw [if_pos h1]; exact Or.inl ⟨h1, rfl⟩
  · rw [if_neg h1]
    by_cases h2 : z < 0
    · rw [if_pos h2]; exact Or.inr (Or.inl ⟨h2, rfl⟩)
    · rw [if_neg h2]; exact Or.inr (Or.inr ⟨by omega, rfl⟩)
theorem sg_pos (u v : Int) : (0 < sg u * sg v) ↔ ((0 < u ∧ 0 < v) ∨ (u < 0 ∧ v < 0)) := by
  rcases sg3 u with ⟨a, b⟩ | ⟨a, b⟩ | ⟨a, b⟩ <;> rcases sg3 v with ⟨c, d⟩ | ⟨c, d⟩ | ⟨c, d⟩ <;> rw [b, d]
  · exact ⟨fun _ => by omega, fun _ => by decide⟩
  · exact ⟨fun h => absurd h (by decide), fun _ => by omega⟩
  · exact ⟨fun h => absurd h (by decide), fun _ => by omega⟩
  · exact ⟨fun h => absurd h (by decide), fun _ => by omega⟩
  · exact ⟨fun _ => by omega, fun _ => by decide⟩
  · exact ⟨fun h => absurd h (by decide), fun _ => by omega⟩
  · exact ⟨fun h => absurd h (by decide), fun _ => by omega⟩
  · exact ⟨fun h => absurd h (by decide), fun _ => by omega⟩
  · exact ⟨fun h => absurd h (by decide), fun _ => by omega⟩
theorem sg_nn (u v : Int) : (0 ≤ sg u * sg v) ↔ ¬ ((0 < u ∧ v < 0) ∨ (u < 0 ∧ 0 < v)) := by
  rcases sg3 u with ⟨a, b⟩ | ⟨a, b⟩ | ⟨a, b⟩ <;> rcases sg3 v with ⟨c, d⟩ | ⟨c, d⟩ | ⟨c, d⟩ <;> rw [b, d]
  · exact ⟨fun _ => by omega, fun _ => by decide⟩
  · exact ⟨fun h => absurd h (by decide), fun _ => by omega⟩
  · exact ⟨fun _ => by omega, fun _ => by decide⟩
  · exact ⟨fun h => absurd h (by decide), fun _ => by omega⟩
  · exact ⟨fun _ => by omega, fun _ => by decide⟩
  · exact ⟨fun _ => by omega, fun _ => by decide⟩
  · exact ⟨fun _ => by omega, fun _ => by decide⟩
  · exact ⟨fun _ => by omega, fun _ => by decide⟩
  · exact ⟨fun _ => by omega, fun _ => by decide⟩
theorem sg_0 (u : Int) : sg u = 0 ↔ u = 0 := by
  rcases sg3 u with ⟨a, b⟩ | ⟨a, b⟩ | ⟨a, b⟩ <;> rw [b]
  · exact ⟨fun h => absurd h (by decide), fun _ => by omega⟩
  · exact ⟨fun h => absurd h (by decide), fun _ => by omega⟩
  · exact ⟨fun _ => a, fun _ => rfl⟩
theorem sg_mul {l z : Int} (hl : 1 ≤ l) : sg (l * z) = sg z := by
  rcases sg3 z with ⟨a, b⟩ | ⟨a, b⟩ | ⟨a, b⟩
  · rw [b]; exact if_pos (Int.mul_pos (by omega) a)
  · rw [b]
    have h : l * z < 0 := Int.mul_neg_of_pos_of_neg (by omega) a
    unfold sg
    rw [if_neg (by omega), if_pos h]
  · rw [b, a, Int.mul_zero]; rfl
theorem cmp_sg (x : Int64) : fJ13_compare_74951 x 0 = sg x.toInt := by
  have z0 : (0 : Int64).toInt = 0 := rfl
  unfold fJ13_compare_74951 sg
  by_cases h1 : (0 : Int64) ≤ x
  · rw [if_pos h1]
    rw [leL, z0] at h1
    by_cases h2 : x = 0
    · rw [if_pos h2]; rw [eqL, z0] at h2; rw [if_neg (by omega), if_neg (by omega)]
    · rw [if_neg h2]; rw [eqL, z0] at h2; rw [if_pos (by omega)]
  · rw [if_neg h1]
    rw [leL, z0] at h1
    rw [if_neg (by omega), if_pos (by omega)]
theorem cmp_sg2 (x : Int64) : (if x ≤ (0 : Int64) then if (0 : Int64) ≤ x then (0 : Int32) else (-1 : Int32) else (1 : Int32)) = sg x.toInt := by
  have z0 : (0 : Int64).toInt = 0 := rfl
  unfold sg
  by_cases h1 : x ≤ 0
  · rw [if_pos h1]
    rw [leL, z0] at h1
    by_cases h2 : 0 ≤ x
    · rw [if_pos h2]; rw [leL, z0] at h2; rw [if_neg (by omega), if_neg (by omega)]
    · rw [if_neg h2]; rw [leL, z0] at h2; rw [if_neg (by omega), if_pos (by omega)]
  · rw [if_neg h1]
    rw [leL, z0] at h1
    rw [if_pos (by omega)]
theorem turn_e {x0 y0 x1 y1 px py : Int64} (h0 : absI x0.toInt 660000) (h1 : absI y0.toInt 660000) (h2 : absI x1.toInt 660000) (h3 : absI y1.toInt 660000) (h4 : absI px.toInt 660000) (h5 : absI py.toInt 660000) : ((x1 - x0) * (py - y0) - (y1 - y0) * (px - x0)).toInt = (x1.toInt - x0.toInt) * (py.toInt - y0.toInt) - (y1.toInt - y0.toInt) * (px.toInt - x0.toInt) := by
  unfold absI at *
  have e1 : (x1 - x0).toInt = x1.toInt - x0.toInt := subL (by omega) (by omega)
  have e2 : (py - y0).toInt = py.toInt - y0.toInt := subL (by omega) (by omega)
  have e3 : (y1 - y0).toInt = y1.toInt - y0.toInt := subL (by omega) (by omega)
  have e4 : (px - x0).toInt = px.toInt - x0.toInt := subL (by omega) (by omega)
  have m1 := absI_mul (A := 1320000) (B := 1320000) (a := x1.toInt - x0.toInt) (b := py.toInt - y0.toInt) (by unfold absI; omega) (by unfold absI; omega)
  have m2 := absI_mul (A := 1320000) (B := 1320000) (a := y1.toInt - y0.toInt) (b := px.toInt - x0.toInt) (by unfold absI; omega) (by unfold absI; omega)
  unfold absI at m1 m2
  have f1 : ((x1 - x0) * (py - y0)).toInt = (x1.toInt - x0.toInt) * (py.toInt - y0.toInt) := by
    rw [mulL, e1, e2] <;> rw [e1, e2] <;> omega
  have f2 : ((y1 - y0) * (px - x0)).toInt = (y1.toInt - y0.toInt) * (px.toInt - x0.toInt) := by
    rw [mulL, e3, e4] <;> rw [e3, e4] <;> omega
  rw [subL, f1, f2] <;> rw [f1, f2] <;> omega
theorem ranges_e (x0 x1 x2 x3 : Int64) : fX5_rangesMeet x0 x1 x2 x3 = 0 ↔ ¬ (min x2.toInt x3.toInt ≤ max x0.toInt x1.toInt ∧ min x0.toInt x1.toInt ≤ max x2.toInt x3.toInt) := by
  unfold fX5_rangesMeet
  by_cases h1 : fJ9_max_f86c9 x0 x1 < fJ9_min_f86c9 x2 x3
  · rw [if_pos h1]
    rw [ltL, maxL, minL] at h1
    exact ⟨fun _ => by omega, fun _ => rfl⟩
  · rw [if_neg h1]
    rw [ltL, maxL, minL] at h1
    by_cases h2 : fJ9_max_f86c9 x2 x3 < fJ9_min_f86c9 x0 x1
    · rw [if_pos h2]
      rw [ltL, maxL, minL] at h2
      exact ⟨fun _ => by omega, fun _ => rfl⟩
    · rw [if_neg h2]
      rw [ltL, maxL, minL] at h2
      exact ⟨fun h => absurd h (by decide), fun h => absurd h (by omega)⟩
theorem between_e (x0 x1 x : Int64) : fX7_isBetween x0 x1 x = 0 ↔ ¬ btw x0.toInt x1.toInt x.toInt := by
  unfold fX7_isBetween btw
  by_cases h1 : x < fX7_least x0 x1
  · rw [if_pos h1]
    rw [ltL, leastL] at h1
    exact ⟨fun _ => by omega, fun _ => rfl⟩
  · rw [if_neg h1]
    rw [ltL, leastL] at h1
    by_cases h2 : fX7_most x0 x1 < x
    · rw [if_pos h2]
      rw [ltL, mostL] at h2
      exact ⟨fun _ => by omega, fun _ => rfl⟩
    · rw [if_neg h2]
      rw [ltL, mostL] at h2
      exact ⟨fun h => absurd h (by decide), fun h => absurd h (by omega)⟩
