-- ===== two poses =====
theorem PO.congr {σ σ' τ : St} {t0 D k n : Nat} {s : Bs} (h : PO σ τ t0 D k n s) (hr : ∀ t, t0 ≤ t → t < t0 + 5 → σ'.1 t = σ.1 t) : PO σ' τ t0 D k n s := by
  unfold PO PT BX at h ⊢
  rw [hr t0 (by omega) (by omega), hr (t0 + 2) (by omega) (by omega), hr (t0 + 3) (by omega) (by omega), hr (t0 + 4) (by omega) (by omega)]
  exact h
theorem takePoses_ok {σ τ : St} {bd D nf : Nat} {ft lb : Nat → Nat} {nm : Nat} {mt : Nat → Nat} {k k' B : Nat} (a : RD σ τ D) (b : RF σ τ nf ft lb bd) (c : RM σ τ nm mt nf ft lb bd) (hk : k < nf) (hk' : k' < nf) (hB : B < 100) : ∃ σ', fX6_takePoses (ft k) (ft k') σ (nI B) = some σ' ∧ SameC σ σ' ∧ PO σ' τ 7 D k (lb k) (bsA τ D k nm B) ∧ PO σ' τ 12 D k' (lb k') (bsA τ D k' nm B) := by
  obtain ⟨⟨σ1, u1, u2, u3⟩, -⟩ := take_ok (t0 := 7) (B := B) b c hk (by decide) a.2.2 hB
  have hs1 : SameC σ σ1 := u2.sameC (by decide)
  have b1 := b.same hs1 (SameM.rfl' τ)
  have c1 := c.same hs1 (SameM.rfl' τ)
  obtain ⟨⟨σ2, v1, v2, v3⟩, -⟩ := take_ok (t0 := 12) (B := B) b1 c1 hk' (by decide) a.2.2 hB
  have hs2 : SameC σ1 σ2 := v2.sameC (by decide)
  unfold fX6_takePoses
  rw [a.1, u1, bd_some, hs1.1 0 (by omega), a.1, v1, bd_some]
  exact ⟨σ2, rfl, hs1.trans hs2, u3.congr (fun t _ _ => v2.1 t (by omega)), v3⟩
theorem msr0 (P : Nat → Int × Int × Int) (n : Nat) : msr P n 0 = mnP (fun i => (P i).1) n := if_pos rfl
theorem msr1 (P : Nat → Int × Int × Int) (n : Nat) : msr P n 1 = mxP (fun i => (P i).1) n := by unfold msr; rw [if_neg (by decide), if_pos rfl]
theorem msr2 (P : Nat → Int × Int × Int) (n : Nat) : msr P n 2 = mnP (fun i => (P i).2.1) n := by unfold msr; rw [if_neg (by decide), if_neg (by decide), if_pos rfl]
theorem msr3 (P : Nat → Int × Int × Int) (n : Nat) : msr P n 3 = mxP (fun i => (P i).2.1) n := by unfold msr; rw [if_neg (by decide), if_neg (by decide), if_neg (by decide), if_pos rfl]
theorem msr5 (P : Nat → Int × Int × Int) (n : Nat) : msr P n 5 = mxP (fun i => (P i).2.1) n - mnP (fun i => (P i).2.1) n := by unfold msr; rw [if_neg (by decide), if_neg (by decide), if_neg (by decide), if_neg (by decide), if_neg (by decide)]
theorem mulL_b {x : Int64} {p : Int32} {A : Int} (h1 : absI x.toInt A) (hA : A ≤ 100000) (h2 : 1 ≤ p.toInt ∧ p.toInt ≤ 200) : (x * p.toInt64).toInt = x.toInt * p.toInt ∧ absI (x.toInt * p.toInt) (A * 200) := by
  have h := absI_mul (B := 200) h1 (show absI p.toInt 200 by unfold absI; omega)
  refine ⟨?_, h⟩
  unfold absI at h
  rw [mulL, toL] <;> rw [toL] <;> omega
theorem wid_b {x y z w : Int64} (hx : absI x.toInt 660000) (hy : absI y.toInt 660000) (hz : absI z.toInt 660000) (hw : absI w.toInt 660000) : absI (fX7_least x y - fX7_most z w).toInt 1320000 := by
  unfold absI at *
  have h1 := leastL x y
  have h2 := mostL z w
  rw [subL] <;> omega
theorem s_overlap (x1 x2 x3 x4 : Int32) : StS Rel (fun σ => fX6_overlap σ x1 x2 x3 x4) (fun τ => fX7_overlap τ x1 x2 x3 x4) := by
  intro σ τ bd h
  obtain ⟨D, nf, ft, lb, nm, mt, ns, a, b, c, d⟩ := id h
  show ∃ r σ' τ', fX6_overlap σ x1 x2 x3 x4 = some (r, σ') ∧ fX7_overlap τ x1 x2 x3 x4 = some (r, τ') ∧ Rel σ' τ' bd
  unfold fX6_overlap fX7_overlap fX6_overlap_b41 fX7_overlap_b33 fX7_lost
  rw [figAt b, figAt b, noFig b, noFig b, bd_some, bd_some]
  have hn6 := b.1.2.2
  by_cases hx : ¬ (0 ≤ x1.toInt ∧ x1.toInt < nf)
  · rw [if_neg hx, if_neg hx, elim_none, if_neg (by decide)]
    exact ⟨_, σ, τ, rfl, rfl, h⟩
  have hx := Classical.not_not.mp hx
  rw [if_pos hx, if_pos hx, elim_some, if_pos rfl]
  by_cases hy : ¬ (0 ≤ x2.toInt ∧ x2.toInt < nf)
  · rw [if_neg hy, if_neg hy, elim_none, if_neg (by decide)]
    exact ⟨_, σ, τ, rfl, rfl, h⟩
  have hy := Classical.not_not.mp hy
  rw [if_pos hy, if_pos hy, elim_some, if_pos rfl]
  obtain ⟨k, hk, rfl⟩ := toN hx.1 hx.2 (by omega)
  obtain ⟨k', hk', rfl⟩ := toN hy.1 hy.2 (by omega)
  rw [ixN (by omega), ixN (by omega), isB, inR]
  by_cases h2 : fX7_isBeat x3 = 0
  · rw [if_pos h2, if_pos h2]; exact ⟨_, σ, τ, rfl, rfl, h⟩
  rw [if_neg h2, if_neg h2]
  by_cases h4 : fX7_in x4 0 1 = 0
  · rw [if_pos h4, if_pos h4]; exact ⟨_, σ, τ, rfl, rfl, h⟩
  rw [if_neg h4, if_neg h4]
  obtain ⟨B, hB, rfl⟩ := beat_of h2
  obtain ⟨σ', u1, u2, ⟨p1, -, p2⟩, ⟨q1, -, q2⟩⟩ := takePoses_ok a b c hk hk' hB
  obtain ⟨τ', v1, v2, v3⟩ := goTo_ok a b c hB
  have hR := h.same u2 v2
  have hf := b.2.2.1 k hk
  have hf' := b.2.2.1 k' hk'
  have hp := pbd_of a b c hk hB
  have hq := pbd_of a b c hk' hB
  obtain ⟨w1, w2⟩ := v3 k hk
  obtain ⟨y1, y2⟩ := v3 k' hk'
  have M1 := measure_M (by omega) hf.2.2.1 (by rw [v2 4 (by omega)]; exact hf.2.1) w2 hp
  have M2 := measure_M (by omega) hf'.2.2.1 (by rw [v2 4 (by omega)]; exact hf'.2.1) y2 hq
  have hpl := (take_ok (t0 := 7) (B := B) b c hk (by decide) a.2.2 hB).2.2.2.1
  have hql := (take_ok (t0 := 7) (B := B) b c hk' (by decide) a.2.2 hB).2.2.2.1
  have hD := a.2.2
  obtain ⟨mp1, mp2, mp3, mp4⟩ := msr_4 hp
  obtain ⟨mq1, mq2, mq3, mq4⟩ := msr_4 hq
  generalize ptN τ k (bsA τ D k nm B) (lb k) = P at *
  generalize ptN τ k' (bsA τ D k' nm B) (lb k') = Q at *
  obtain ⟨r10, a10, b10⟩ := M1 0
  obtain ⟨r11, a11, b11⟩ := M1 1
  obtain ⟨r12, a12, b12⟩ := M1 2
  obtain ⟨r13, a13, b13⟩ := M1 3
  obtain ⟨r20, a20, b20⟩ := M2 0
  obtain ⟨r21, a21, b21⟩ := M2 1
  obtain ⟨r22, a22, b22⟩ := M2 2
  obtain ⟨r23, a23, b23⟩ := M2 3
  rw [msr0] at b10 b20
  rw [msr1] at b11 b21
  rw [msr2] at b12 b22
  rw [msr3] at b13 b23
  rw [u1, v1, bd_some, bd_some]
  unfold fX7_along fX6_overlap_b127 fX6_overlap_b180 fX6_overlap_b194 fX6_overlap_b203 fX7_overlap_b92 fX7_overlap_b113
  have g1 : ∀ {α : Type} (z : Option α), grd (nI k) 6 z = z := fun z => grdN (by omega) (by omega)
  have g2 : ∀ {α : Type} (z : Option α), grd (nI k') 6 z = z := fun z => grdN (by omega) (by omega)
  simp only [a10, a11, a12, a13, a20, a21, a22, a23, bd_some, g1, g2, ixN (show k < 2 ^ 31 by omega), ixN (show k' < 2 ^ 31 by omega), u2.1 0 (by decide), v2 0 (by decide), a.1, a.2.1]
  have eP : σ'.1 7 4 = τ'.1 14 k := by rw [eqI, p1, w1]
  have eQ : σ'.1 12 4 = τ'.1 14 k' := by rw [eqI, q1, y1]
  rw [← w1] at hpl
  rw [← y1] at hql
  have e15 : (σ'.1 7 5).toInt64 = r10 := by rw [eqL, toL, p2.1, b10]
  have e16 : (σ'.1 7 6).toInt64 = r11 := by rw [eqL, toL, p2.2.1, b11]
  have e17 : (σ'.1 7 7).toInt64 = r12 := by rw [eqL, toL, p2.2.2.1, b12]
  have e18 : (σ'.1 7 8).toInt64 = r13 := by rw [eqL, toL, p2.2.2.2, b13]
  have e25 : (σ'.1 12 5).toInt64 = r20 := by rw [eqL, toL, q2.1, b20]
  have e26 : (σ'.1 12 6).toInt64 = r21 := by rw [eqL, toL, q2.2.1, b21]
  have e27 : (σ'.1 12 7).toInt64 = r22 := by rw [eqL, toL, q2.2.2.1, b22]
  have e28 : (σ'.1 12 8).toInt64 = r23 := by rw [eqL, toL, q2.2.2.2, b23]
  have hmin : ∀ x y, fJ9_min_f86c9 x y = fX7_least x y := fun x y => by rw [eqL, minL, leastL]
  have hmax : ∀ x y, fJ9_max_f86c9 x y = fX7_most x y := fun x y => by rw [eqL, maxL, mostL]
  rw [← b10] at mp1
  rw [← b11] at mp2
  rw [← b12] at mp3
  rw [← b13] at mp4
  rw [← b20] at mq1
  rw [← b21] at mq2
  rw [← b22] at mq3
  rw [← b23] at mq4
  simp only [eP, eQ, e15, e16, e17, e18, e25, e26, e27, e28, hmin, hmax]
  generalize τ'.1 14 k = p at *
  generalize τ'.1 14 k' = q at *
  have hpl2 : 1 ≤ p.toInt ∧ p.toInt ≤ 200 := by omega
  have hql2 : 1 ≤ q.toInt ∧ q.toInt ≤ 200 := by omega
  have bb : ∀ (x : Int64) (z : Int32), absI x.toInt 3300 → 1 ≤ z.toInt ∧ z.toInt ≤ 200 → absI (x * z.toInt64).toInt 660000 := fun x z hx hz => by
    obtain ⟨t1, t2⟩ := mulL_b hx (by decide) hz
    rw [t1]; exact t2
  have hW := wid_b (bb r11 q mp2 hql2) (bb r21 p mq2 hpl2) (bb r10 q mp1 hql2) (bb r20 p mq1 hpl2)
  have hH := wid_b (bb r13 q mp4 hql2) (bb r23 p mq4 hpl2) (bb r12 q mp3 hql2) (bb r22 p mq3 hpl2)
  generalize fX7_least (r11 * q.toInt64) (r21 * p.toInt64) - fX7_most (r10 * q.toInt64) (r20 * p.toInt64) = W at *
  generalize fX7_least (r13 * q.toInt64) (r23 * p.toInt64) - fX7_most (r12 * q.toInt64) (r22 * p.toInt64) = H at *
  have hpq : absI (p.toInt * q.toInt) (200 * 200) := absI_mul (by unfold absI; omega) (by unfold absI; omega)
  have hpq1 : 0 < p.toInt * q.toInt := Int.mul_pos (by omega) (by omega)
  have hZ0 : p.toInt64 * q.toInt64 = (p * q).toInt64 := by
    unfold absI at hpq
    rw [eqL, mulL, toL, toL, toL, mulI] <;> (try rw [toL, toL]) <;> omega
  have hZt : ((p * q).toInt64).toInt = p.toInt * q.toInt := by
    unfold absI at hpq
    rw [toL, mulI] <;> omega
  have hden : p.toInt64 * q.toInt64 * p.toInt64 * q.toInt64 = (p * q).toInt64 * (p * q).toInt64 := by
    rw [Int64.mul_assoc (p.toInt64 * q.toInt64), hZ0]
  rw [hden]
  generalize (p * q).toInt64 = Z at hZt hden ⊢
  rw [← hZt] at hpq hpq1
  have hZZ : absI (Z.toInt * Z.toInt) (200 * 200 * (200 * 200)) := absI_mul hpq hpq
  have hZZ1 : 0 < Z.toInt * Z.toInt := Int.mul_pos hpq1 hpq1
  have hZm : (Z * Z).toInt = Z.toInt * Z.toInt := by
    unfold absI at hZZ
    rw [mulL] <;> omega
  have z0 : (0 : Int64).toInt = 0 := rfl
  have fin : ∀ num : Int64, num.toInt ≠ -9223372036854775808 → ∃ r, fX6_partOfFraction num (Z * Z) x4 = some r ∧ fX7_partOf num (Z * Z) x4 = some r := fun num hnum => part_ok num (Z * Z) x4 hnum (by rw [hZm]; exact hZZ1) (by rw [hZm]; unfold absI at hZZ; omega)
  obtain ⟨z, z1, z2⟩ := fin 0 (by decide)
  by_cases c1 : W ≤ 0
  · rw [if_pos c1, Int64.zero_mul, Int64.zero_mul, z1, bd_some]
    refine ⟨z, σ', τ', rfl, ?_, hR⟩
    by_cases c2 : W < 0
    · rw [if_pos c2, z2, bd_some]
    · have hW0 : W = 0 := by rw [eqL, z0]; rw [leL, z0] at c1; rw [ltL, z0] at c2; omega
      rw [if_neg c2, hW0, Int64.zero_mul, Int64.zero_mul, Int64.zero_mul, z2, bd_some]
      by_cases c3 : 0 ≤ H
      · rw [if_pos c3]
      · rw [if_neg c3]
  · have c2 : ¬ W < 0 := by rw [ltL, z0]; rw [leL, z0] at c1; omega
    rw [if_neg c1, if_neg c2]
    by_cases c3 : 0 < H
    · have c4 : 0 ≤ H := by rw [leL, z0]; rw [ltL, z0] at c3; omega
      rw [if_pos c3, if_pos c4]
      have hWH : absI (W.toInt * H.toInt) (1320000 * 1320000) := absI_mul hW hH
      have hWHm : (W * H).toInt = W.toInt * H.toInt := by
        unfold absI at hWH
        rw [mulL] <;> omega
      have hD2 : (nI D).toInt64.toInt = D := by rw [toL, nI_toInt (by omega)]
      have hD3 : absI (D : Int) 200 := by unfold absI; omega
      have h5 := absI_mul hWH hD3
      have h5m : (W * H * (nI D).toInt64).toInt = W.toInt * H.toInt * D := by
        unfold absI at h5
        rw [mulL, hWHm, hD2] <;> rw [hWHm, hD2] <;> omega
      have h6 := absI_mul h5 hD3
      have h6m : (W * H * (nI D).toInt64 * (nI D).toInt64).toInt = W.toInt * H.toInt * D * D := by
        unfold absI at h6
        rw [mulL, h5m, hD2] <;> rw [h5m, hD2] <;> omega
      obtain ⟨z', z1', z2'⟩ := fin (W * H * (nI D).toInt64 * (nI D).toInt64) (by rw [h6m]; unfold absI at h6; omega)
      rw [z1', z2', bd_some, bd_some]
      exact ⟨_, σ', τ', rfl, rfl, hR⟩
    · rw [if_neg c3, Int64.zero_mul, Int64.zero_mul, z1, bd_some]
      refine ⟨z, σ', τ', rfl, ?_, hR⟩
      by_cases c4 : 0 ≤ H
      · have hH0 : H = 0 := by rw [eqL, z0]; rw [leL, z0] at c4; rw [ltL, z0] at c3; omega
        rw [if_pos c4, hH0, Int64.mul_zero, Int64.zero_mul, Int64.zero_mul, z2, bd_some]
      · rw [if_neg c4, z2, bd_some]
