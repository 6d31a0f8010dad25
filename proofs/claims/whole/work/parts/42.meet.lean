-- ===== do two shadows of limbs meet: both answers =====
def SG (x0 y0 x1 y1 : Int64) (ax ay l sx sy : Int) : Prop := (x0.toInt = ax ∧ y0.toInt = ay ∧ x1.toInt = ax + l * sx ∧ y1.toInt = ay + l * sy) ∧ absI x0.toInt 660000 ∧ absI y0.toInt 660000 ∧ absI x1.toInt 660000 ∧ absI y1.toInt 660000
theorem side_e {x0 y0 x1 y1 px py : Int64} {ax ay l sx sy : Int} (h : SG x0 y0 x1 y1 ax ay l sx sy) (hl : 1 ≤ l) (hp : absI px.toInt 660000) (hq : absI py.toInt 660000) : sg ((x1 - x0) * (py - y0) - (y1 - y0) * (px - x0)).toInt = sg (sx * (py.toInt - ay) - sy * (px.toInt - ax)) := by
  obtain ⟨⟨e1, e2, e3, e4⟩, b1, b2, b3, b4⟩ := h
  rw [turn_e b1 b2 b3 b4 hp hq, e1, e2, e3, e4, show ax + l * sx - ax = l * sx by omega, show ay + l * sy - ay = l * sy by omega, Int.mul_assoc, Int.mul_assoc, ← Int.mul_sub, sg_mul hl]
theorem meets_C {σ : St} {ax ay l sx sy cx cy m tx ty : Int} (hA : SG (σ.2.1 17 0) (σ.2.1 17 1) (σ.2.1 17 2) (σ.2.1 17 3) ax ay l sx sy) (hB : SG (σ.2.1 18 0) (σ.2.1 18 1) (σ.2.1 18 2) (σ.2.1 18 3) cx cy m tx ty) (hl : 1 ≤ l) (hm : 1 ≤ m) : fX5_meets σ 17 18 = 0 ↔ ¬ gC sx sy tx ty (cx - ax) (cy - ay) l m := by
  have r1 := ranges_e (σ.2.1 17 0) (σ.2.1 17 2) (σ.2.1 18 0) (σ.2.1 18 2)
  have r2 := ranges_e (σ.2.1 17 1) (σ.2.1 17 3) (σ.2.1 18 1) (σ.2.1 18 3)
  have s1 := side_e hA hl hB.2.1 hB.2.2.1
  have s2 := side_e hA hl hB.2.2.2.1 hB.2.2.2.2
  have s3 := side_e hB hm hA.2.1 hA.2.2.1
  have s4 := side_e hB hm hA.2.2.2.1 hA.2.2.2.2
  have l1 : fX5_lineMeets σ 17 18 = 0 ↔ 0 < (fX5_side σ 17 (σ.2.1 18 0) (σ.2.1 18 1)) * (fX5_side σ 17 (σ.2.1 18 2) (σ.2.1 18 3)) := by
    unfold fX5_lineMeets
    split
    · exact ⟨fun _ => by assumption, fun _ => rfl⟩
    · exact ⟨fun h => absurd h (by decide), fun h => absurd h (by assumption)⟩
  have l2 : fX5_lineMeets σ 18 17 = 0 ↔ 0 < (fX5_side σ 18 (σ.2.1 17 0) (σ.2.1 17 1)) * (fX5_side σ 18 (σ.2.1 17 2) (σ.2.1 17 3)) := by
    unfold fX5_lineMeets
    split
    · exact ⟨fun _ => by assumption, fun _ => rfl⟩
    · exact ⟨fun h => absurd h (by decide), fun h => absurd h (by assumption)⟩
  unfold fX5_side fX5_side_b35 at l1 l2
  rw [cmp_sg, cmp_sg, s1, s2, sg_pos] at l1
  rw [cmp_sg, cmp_sg, s3, s4, sg_pos] at l2
  obtain ⟨⟨a1, a2, a3, a4⟩, -⟩ := hA
  obtain ⟨⟨b1, b2, b3, b4⟩, -⟩ := hB
  rw [a1, a3, b1, b3] at r1
  rw [a2, a4, b2, b4] at r2
  rw [b1, b2, b3, b4] at l1
  rw [a1, a2, a3, a4] at l2
  have f2a : cy + m * ty - ay = (cy - ay) + m * ty := by omega
  have f2b : cx + m * tx - ax = (cx - ax) + m * tx := by omega
  have f3 : tx * (ay - cy) - ty * (ax - cx) = ty * (cx - ax) - tx * (cy - ay) := by
    rw [show ay - cy = -(cy - ay) by omega, show ax - cx = -(cx - ax) by omega, Int.mul_neg, Int.mul_neg]; omega
  have f4a : ay + l * sy - cy = l * sy - (cy - ay) := by omega
  have f4b : ax + l * sx - cx = l * sx - (cx - ax) := by omega
  rw [f2a, f2b] at l1
  rw [f3, f4a, f4b] at l2
  unfold gC kC fX5_meets
  generalize sx * (cy - ay) - sy * (cx - ax) = g1 at *
  generalize sx * ((cy - ay) + m * ty) - sy * ((cx - ax) + m * tx) = g2 at *
  generalize ty * (cx - ax) - tx * (cy - ay) = g3 at *
  generalize tx * (l * sy - (cy - ay)) - ty * (l * sx - (cx - ax)) = g4 at *
  have r1' : fX5_rangesMeet (σ.2.1 17 0) (σ.2.1 17 2) (σ.2.1 18 0) (σ.2.1 18 2) = 0 ↔ ¬ (min (cx - ax) (cx - ax + m * tx) ≤ max 0 (l * sx) ∧ min 0 (l * sx) ≤ max (cx - ax) (cx - ax + m * tx)) := by rw [r1]; omega
  have r2' : fX5_rangesMeet (σ.2.1 17 1) (σ.2.1 17 3) (σ.2.1 18 1) (σ.2.1 18 3) = 0 ↔ ¬ (min (cy - ay) (cy - ay + m * ty) ≤ max 0 (l * sy) ∧ min 0 (l * sy) ≤ max (cy - ay) (cy - ay + m * ty)) := by rw [r2]; omega
  by_cases c1 : fX5_rangesMeet (σ.2.1 17 0) (σ.2.1 17 2) (σ.2.1 18 0) (σ.2.1 18 2) = 0
  · rw [if_pos c1]
    exact ⟨fun _ h => r1'.mp c1 h.1, fun _ => rfl⟩
  rw [if_neg c1]
  by_cases c2 : fX5_rangesMeet (σ.2.1 17 1) (σ.2.1 17 3) (σ.2.1 18 1) (σ.2.1 18 3) = 0
  · rw [if_pos c2]
    exact ⟨fun _ h => r2'.mp c2 h.2.1, fun _ => rfl⟩
  rw [if_neg c2]
  by_cases c3 : fX5_lineMeets σ 17 18 = 0
  · rw [if_pos c3]
    refine ⟨fun _ h => ?_, fun _ => rfl⟩
    rcases l1.mp c3 with z | z
    · exact h.2.2.1.1 z
    · exact h.2.2.1.2 z
  rw [if_neg c3]
  by_cases c4 : fX5_lineMeets σ 18 17 = 0
  · rw [if_pos c4]
    refine ⟨fun _ h => ?_, fun _ => rfl⟩
    rcases l2.mp c4 with z | z
    · exact h.2.2.2.1 z
    · exact h.2.2.2.2 z
  rw [if_neg c4]
  refine ⟨fun h => absurd h (by decide), fun h => absurd ⟨Classical.not_not.mp (fun z => c1 (r1'.mpr z)), Classical.not_not.mp (fun z => c2 (r2'.mpr z)), ⟨fun z => c3 (l1.mpr (Or.inl z)), fun z => c3 (l1.mpr (Or.inr z))⟩, fun z => c4 (l2.mpr (Or.inl z)), fun z => c4 (l2.mpr (Or.inr z))⟩ h⟩
theorem sideOf_e {τ : St} {i j : Nat} (hi : i + 1 < 4) (hj : j < 4) : fX7_sideOf τ (nI i) (nI j) = some (fX7_side (τ.2.1 19 i) (τ.2.1 20 i) (τ.2.1 19 (i + 1)) (τ.2.1 20 (i + 1)) (τ.2.1 19 j) (τ.2.1 20 j)) := by
  unfold fX7_sideOf
  rw [show nI i + (1 : Int32) = nI (i + 1) from nI_1 i, grdN (by omega) (by omega), grdN (by omega) (by omega), grdN (by omega) (by omega), grdN (by omega) (by omega), grdN (by omega) (by omega), grdN (by omega) (by omega), ixN (by omega), ixN (by omega), ixN (by omega)]
theorem onSeg_e {τ : St} {i j : Nat} (hi : i + 1 < 4) (hj : j < 4) : fX7_isOnSegment τ (nI i) (nI j) = some (fX7_isOn (τ.2.1 19 i) (τ.2.1 20 i) (τ.2.1 19 (i + 1)) (τ.2.1 20 (i + 1)) (τ.2.1 19 j) (τ.2.1 20 j)) := by
  unfold fX7_isOnSegment
  rw [show nI i + (1 : Int32) = nI (i + 1) from nI_1 i, grdN (by omega) (by omega), grdN (by omega) (by omega), grdN (by omega) (by omega), grdN (by omega) (by omega), grdN (by omega) (by omega), grdN (by omega) (by omega), ixN (by omega), ixN (by omega), ixN (by omega)]
theorem isOn_e (x0 y0 x1 y1 px py : Int64) : fX7_isOn x0 y0 x1 y1 px py = 0 ↔ ¬ (fX7_side x0 y0 x1 y1 px py = 0 ∧ btw x0.toInt x1.toInt px.toInt ∧ btw y0.toInt y1.toInt py.toInt) := by
  unfold fX7_isOn
  have b1 := between_e x0 x1 px
  have b2 := between_e y0 y1 py
  by_cases h1 : fX7_side x0 y0 x1 y1 px py = 0
  · rw [if_pos h1]
    by_cases h2 : fX7_isBetween x0 x1 px = 0
    · rw [if_pos h2]; exact ⟨fun _ h => b1.mp h2 h.2.1, fun _ => rfl⟩
    · rw [if_neg h2]
      by_cases h3 : fX7_isBetween y0 y1 py = 0
      · rw [if_pos h3]; exact ⟨fun _ h => b2.mp h3 h.2.2, fun _ => rfl⟩
      · rw [if_neg h3]
        exact ⟨fun h => absurd h (by decide), fun h => absurd ⟨h1, Classical.not_not.mp (fun z => h2 (b1.mpr z)), Classical.not_not.mp (fun z => h3 (b2.mpr z))⟩ h⟩
  · rw [if_neg h1]; exact ⟨fun _ h => h1 h.1, fun _ => rfl⟩
theorem doMeet_M {τ : St} {ax ay l sx sy cx cy m tx ty : Int} (hA : SG (τ.2.1 19 0) (τ.2.1 20 0) (τ.2.1 19 1) (τ.2.1 20 1) ax ay l sx sy) (hB : SG (τ.2.1 19 2) (τ.2.1 20 2) (τ.2.1 19 3) (τ.2.1 20 3) cx cy m tx ty) (hl : 1 ≤ l) (hm : 1 ≤ m) : ∃ r, fX7_doMeet τ = some r ∧ (r = 0 ↔ ¬ gM sx sy tx ty (cx - ax) (cy - ay) l m) := by
  have s1 := side_e hA hl hB.2.1 hB.2.2.1
  have s2 := side_e hA hl hB.2.2.2.1 hB.2.2.2.2
  have s3 := side_e hB hm hA.2.1 hA.2.2.1
  have s4 := side_e hB hm hA.2.2.2.1 hA.2.2.2.2
  have t1 : fX7_side (τ.2.1 19 0) (τ.2.1 20 0) (τ.2.1 19 1) (τ.2.1 20 1) (τ.2.1 19 2) (τ.2.1 20 2) = sg (sx * (cy - ay) - sy * (cx - ax)) := by
    unfold fX7_side; rw [cmp_sg2, s1, hB.1.1, hB.1.2.1]
  have t2 : fX7_side (τ.2.1 19 0) (τ.2.1 20 0) (τ.2.1 19 1) (τ.2.1 20 1) (τ.2.1 19 3) (τ.2.1 20 3) = sg (sx * ((cy - ay) + m * ty) - sy * ((cx - ax) + m * tx)) := by
    unfold fX7_side; rw [cmp_sg2, s2, hB.1.2.2.1, hB.1.2.2.2, show cy + m * ty - ay = (cy - ay) + m * ty by omega, show cx + m * tx - ax = (cx - ax) + m * tx by omega]
  have t3 : fX7_side (τ.2.1 19 2) (τ.2.1 20 2) (τ.2.1 19 3) (τ.2.1 20 3) (τ.2.1 19 0) (τ.2.1 20 0) = sg (ty * (cx - ax) - tx * (cy - ay)) := by
    unfold fX7_side
    rw [cmp_sg2, s3, hA.1.1, hA.1.2.1]
    congr 1
    rw [show ay - cy = -(cy - ay) by omega, show ax - cx = -(cx - ax) by omega, Int.mul_neg, Int.mul_neg]; omega
  have t4 : fX7_side (τ.2.1 19 2) (τ.2.1 20 2) (τ.2.1 19 3) (τ.2.1 20 3) (τ.2.1 19 1) (τ.2.1 20 1) = sg (tx * (l * sy - (cy - ay)) - ty * (l * sx - (cx - ax))) := by
    unfold fX7_side; rw [cmp_sg2, s4, hA.1.2.2.1, hA.1.2.2.2, show ay + l * sy - cy = l * sy - (cy - ay) by omega, show ax + l * sx - cx = l * sx - (cx - ax) by omega]
  have o1 := isOn_e (τ.2.1 19 0) (τ.2.1 20 0) (τ.2.1 19 1) (τ.2.1 20 1) (τ.2.1 19 2) (τ.2.1 20 2)
  have o2 := isOn_e (τ.2.1 19 0) (τ.2.1 20 0) (τ.2.1 19 1) (τ.2.1 20 1) (τ.2.1 19 3) (τ.2.1 20 3)
  have o3 := isOn_e (τ.2.1 19 2) (τ.2.1 20 2) (τ.2.1 19 3) (τ.2.1 20 3) (τ.2.1 19 0) (τ.2.1 20 0)
  have o4 := isOn_e (τ.2.1 19 2) (τ.2.1 20 2) (τ.2.1 19 3) (τ.2.1 20 3) (τ.2.1 19 1) (τ.2.1 20 1)
  obtain ⟨⟨a1, a2, a3, a4⟩, -⟩ := hA
  obtain ⟨⟨b1, b2, b3, b4⟩, -⟩ := hB
  rw [t1, sg_0, a1, a2, a3, a4, b1, b2] at o1
  rw [t2, sg_0, a1, a2, a3, a4, b3, b4] at o2
  rw [t3, sg_0, a1, a2, b1, b2, b3, b4] at o3
  rw [t4, sg_0, a3, a4, b1, b2, b3, b4] at o4
  have w1 : ∀ a d x : Int, btw a (a + d) x ↔ btw 0 d (x - a) := fun a d x => by unfold btw; omega
  have w2 : ∀ a d x e : Int, btw a (a + d) (x + e) ↔ btw 0 d (x - a + e) := fun a d x e => by unfold btw; omega
  have w3 : ∀ a d x : Int, btw a (a + d) x ↔ btw (a - x) (a - x + d) 0 := fun a d x => by unfold btw; omega
  have w4 : ∀ a d x e : Int, btw a (a + d) (x + e) ↔ btw (a - x) (a - x + d) e := fun a d x e => by unfold btw; omega
  rw [w1, w1] at o1
  rw [w2, w2] at o2
  rw [w3 cx (m * tx) ax, w3 cy (m * ty) ay] at o3
  rw [w4, w4] at o4
  have d02 : fX7_isOnSegment τ 0 2 = _ := onSeg_e (τ := τ) (i := 0) (j := 2) (by decide) (by decide)
  have d03 : fX7_isOnSegment τ 0 3 = _ := onSeg_e (τ := τ) (i := 0) (j := 3) (by decide) (by decide)
  have d20 : fX7_isOnSegment τ 2 0 = _ := onSeg_e (τ := τ) (i := 2) (j := 0) (by decide) (by decide)
  have d21 : fX7_isOnSegment τ 2 1 = _ := onSeg_e (τ := τ) (i := 2) (j := 1) (by decide) (by decide)
  have e02 : fX7_sideOf τ 0 2 = _ := sideOf_e (τ := τ) (i := 0) (j := 2) (by decide) (by decide)
  have e03 : fX7_sideOf τ 0 3 = _ := sideOf_e (τ := τ) (i := 0) (j := 3) (by decide) (by decide)
  have e20 : fX7_sideOf τ 2 0 = _ := sideOf_e (τ := τ) (i := 2) (j := 0) (by decide) (by decide)
  have e21 : fX7_sideOf τ 2 1 = _ := sideOf_e (τ := τ) (i := 2) (j := 1) (by decide) (by decide)
  unfold gM kM fX7_doMeet fX7_doMeet_b36 fX7_doMeet_b41
  simp only [d02, d03, d20, d21, e02, e03, e20, e21, bd_some, t1, t2, t3, t4, sg_nn, if_true, show ¬ ((1 : Int32) = 0) by decide, if_false, Nat.zero_add, Nat.reduceAdd]
  generalize sx * (cy - ay) - sy * (cx - ax) = g1 at *
  generalize sx * ((cy - ay) + m * ty) - sy * ((cx - ax) + m * tx) = g2 at *
  generalize ty * (cx - ax) - tx * (cy - ay) = g3 at *
  generalize tx * (l * sy - (cy - ay)) - ty * (l * sx - (cx - ax)) = g4 at *
  by_cases c1 : fX7_isOn (τ.2.1 19 0) (τ.2.1 20 0) (τ.2.1 19 1) (τ.2.1 20 1) (τ.2.1 19 2) (τ.2.1 20 2) = 0
  case neg =>
    rw [if_neg c1]
    exact ⟨1, rfl, fun h => absurd h (by decide), fun h => absurd (Or.inl (Classical.not_not.mp (fun z => c1 (o1.mpr z)))) h⟩
  rw [if_pos c1]
  by_cases c2 : fX7_isOn (τ.2.1 19 0) (τ.2.1 20 0) (τ.2.1 19 1) (τ.2.1 20 1) (τ.2.1 19 3) (τ.2.1 20 3) = 0
  case neg =>
    rw [if_neg c2]
    exact ⟨1, rfl, fun h => absurd h (by decide), fun h => absurd (Or.inr (Or.inl (Classical.not_not.mp (fun z => c2 (o2.mpr z))))) h⟩
  rw [if_pos c2]
  by_cases c3 : fX7_isOn (τ.2.1 19 2) (τ.2.1 20 2) (τ.2.1 19 3) (τ.2.1 20 3) (τ.2.1 19 0) (τ.2.1 20 0) = 0
  case neg =>
    rw [if_neg c3]
    exact ⟨1, rfl, fun h => absurd h (by decide), fun h => absurd (Or.inr (Or.inr (Or.inl (Classical.not_not.mp (fun z => c3 (o3.mpr z)))))) h⟩
  rw [if_pos c3]
  by_cases c4 : fX7_isOn (τ.2.1 19 2) (τ.2.1 20 2) (τ.2.1 19 3) (τ.2.1 20 3) (τ.2.1 19 1) (τ.2.1 20 1) = 0
  case neg =>
    rw [if_neg c4]
    exact ⟨1, rfl, fun h => absurd h (by decide), fun h => absurd (Or.inr (Or.inr (Or.inr (Or.inl (Classical.not_not.mp (fun z => c4 (o4.mpr z))))))) h⟩
  rw [if_pos c4]
  have n1 := o1.mp c1
  have n2 := o2.mp c2
  have n3 := o3.mp c3
  have n4 := o4.mp c4
  by_cases c5 : ¬ ((0 < g1 ∧ g2 < 0) ∨ (g1 < 0 ∧ 0 < g2))
  · rw [if_pos c5]
    refine ⟨0, rfl, fun _ h => ?_, fun _ => rfl⟩
    rcases h with h | h | h | h | h
    · exact n1 h
    · exact n2 h
    · exact n3 h
    · exact n4 h
    · exact c5 h.1
  rw [if_neg c5]
  by_cases c6 : ¬ ((0 < g3 ∧ g4 < 0) ∨ (g3 < 0 ∧ 0 < g4))
  · rw [if_pos c6]
    refine ⟨0, rfl, fun _ h => ?_, fun _ => rfl⟩
    rcases h with h | h | h | h | h
    · exact n1 h
    · exact n2 h
    · exact n3 h
    · exact n4 h
    · exact c6 h.2
  rw [if_neg c6]
  exact ⟨1, rfl, fun h => absurd h (by decide), fun h => absurd (Or.inr (Or.inr (Or.inr (Or.inr ⟨Classical.not_not.mp c5, Classical.not_not.mp c6⟩)))) h⟩
