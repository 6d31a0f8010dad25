-- ===== position =====
theorem absI_mul {a b A B : Int} (h1 : absI a A) (h2 : absI b B) : absI (a * b) (A * B) := by
  unfold absI at *
  have e : (a * b).natAbs ≤ A.natAbs * B.natAbs := by
    rw [Int.natAbs_mul]
    exact Nat.mul_le_mul (by omega) (by omega)
  have e2 : ((A.natAbs * B.natAbs : Nat) : Int) = A * B := by
    rw [Int.natCast_mul, Int.natAbs_of_nonneg (by omega), Int.natAbs_of_nonneg (by omega)]
  omega
theorem s_position (x1 x2 x3 x4 : Int32) : StS Rel (fun σ => fX6_position σ x1 x2 x3 x4) (fun τ => fX7_position τ x1 x2 x3 x4) := by
  intro σ τ bd h
  obtain ⟨D, nf, ft, lb, nm, mt, ns, a, b, c, d⟩ := id h
  show ∃ r σ' τ', fX6_position σ x1 x2 x3 x4 = some (r, σ') ∧ fX7_position τ x1 x2 x3 x4 = some (r, τ') ∧ Rel σ' τ' bd
  unfold fX6_position fX7_position fX6_position_b42 fX7_position_b39 fX7_lost
  rw [figAt b, noFig b, bd_some]
  have hn6 := b.1.2.2
  by_cases hx : 0 ≤ x1.toInt ∧ x1.toInt < nf
  · rw [if_pos hx, if_pos hx, elim_some, if_pos rfl]
    obtain ⟨k, hk, rfl⟩ := toN hx.1 hx.2 (by omega)
    have hf := b.2.2.1 k hk
    have h8 := hf.2.2.1
    rw [ixN (by omega), grdN (by omega) (by omega), hf.1.2.2.2.2, hf.2.1, inR, isB, inR]
    by_cases h2 : fX7_in x2 0 (nI (lb k)) = 0
    · rw [if_pos h2, if_pos h2]; exact ⟨_, σ, τ, rfl, rfl, h⟩
    rw [if_neg h2, if_neg h2]
    by_cases h3 : fX7_isBeat x3 = 0
    · rw [if_pos h3, if_pos h3]; exact ⟨_, σ, τ, rfl, rfl, h⟩
    rw [if_neg h3, if_neg h3]
    by_cases h4 : fX7_in x4 0 3 = 0
    · rw [if_pos h4, if_pos h4]; exact ⟨_, σ, τ, rfl, rfl, h⟩
    rw [if_neg h4, if_neg h4]
    obtain ⟨B, hB, rfl⟩ := beat_of h3
    rw [in_0, nI_toInt (by omega)] at h2
    have h2 : (0 : Int) ≤ x2.toInt ∧ x2.toInt ≤ lb k := Classical.not_not.mp h2
    obtain ⟨i, hi, rfl⟩ := toN (x := x2) (n := lb k + 1) h2.1 (by omega) (by omega)
    obtain ⟨⟨σ', u1, u2, u3, u4, u5⟩, ub⟩ := take_ok (t0 := 7) (B := B) b c hk (by decide) a.2.2 hB
    obtain ⟨τ', v1, v2, v3⟩ := goTo_ok a b c hB
    obtain ⟨w1, w2⟩ := v3 k hk
    have hR := h.same (u2.sameC (by decide)) v2
    obtain ⟨p1, p2, p3⟩ := u4 i (by omega)
    obtain ⟨q1, q2, q3⟩ := w2 i (by omega)
    rw [a.1, u1, v1, bd_some, bd_some, e9ki, grdN (by omega) (by omega), grdN (by omega) (by omega), grdN (by omega) (by omega), grdN (by omega) (by omega), grdN (by omega) (by omega), grdN (by omega) (by omega), grdN (by omega) (by omega), ixN (by omega), ixN (by omega)]
    by_cases g0 : x4 = 0
    · rw [if_pos g0, if_pos g0]
      refine ⟨_, σ', τ', rfl, ?_, hR⟩
      congr 2
      rw [eqL, toL, p1, q1]
    rw [if_neg g0, if_neg g0]
    by_cases g1 : x4 = 1
    · rw [if_pos g1, if_pos g1]
      refine ⟨_, σ', τ', rfl, ?_, hR⟩
      congr 2
      rw [eqL, toL, p2, q2]
    rw [if_neg g1, if_neg g1]
    by_cases g2 : x4 = 2
    · rw [if_pos g2, if_pos g2]
      refine ⟨_, σ', τ', rfl, ?_, hR⟩
      congr 2
      rw [eqL, toL, toL, p3, q3]
    rw [if_neg g2, if_neg g2]
    refine ⟨_, σ', τ', rfl, ?_, hR⟩
    congr 2
    rw [eqL, toL, toL, u3, w1]
  · rw [if_neg hx, if_neg hx, elim_none, if_neg (by decide)]
    exact ⟨_, σ, τ, rfl, rfl, h⟩
-- ===== the greatest common divisor =====
theorem divL {x y : Int64} (hx : 0 ≤ x.toInt) (h : 0 < y.toInt) : (x / y).toInt = x.toInt / y.toInt := by
  have := rngL x
  have h0 : 0 ≤ x.toInt / y.toInt := Int.ediv_nonneg hx (by omega)
  have h1 : x.toInt / y.toInt ≤ x.toInt := Int.ediv_le_self _ hx
  rw [Int64.toInt_div, Int.tdiv_eq_ediv_of_nonneg hx, bmL (by omega) (by omega)]
theorem remL {x y : Int64} (hx : 0 ≤ x.toInt) (h : 0 < y.toInt) : (x - x / y * y).toInt = x.toInt % y.toInt := by
  have hr := rngL x
  have hd := divL hx h
  have h0 : 0 ≤ x.toInt / y.toInt := Int.ediv_nonneg hx (by omega)
  have e := Int.mul_ediv_add_emod x.toInt y.toInt
  have g0 := Int.emod_nonneg x.toInt (show y.toInt ≠ 0 by omega)
  have g1 := Int.emod_lt_of_pos x.toInt h
  have hp : 0 ≤ y.toInt * (x.toInt / y.toInt) := Int.mul_nonneg (by omega) h0
  have hm : (x / y * y).toInt = y.toInt * (x.toInt / y.toInt) := by
    rw [mulL, hd, Int.mul_comm] <;> (try rw [hd, Int.mul_comm]) <;> omega
  rw [subL, hm] <;> (try rw [hm]) <;> omega
theorem euclid (q : Nat) : ∀ (a b : Int64) (s N M : Nat), 0 ≤ a.toInt → 0 ≤ b.toInt → b.toInt < 2 ^ q → 0 < a.toInt ∨ 0 < b.toInt → s + 2 * q + 1 ≤ 100 → 2 * q < N → 2 * q < M → ∃ g, fX7_common_L17 M a b = some g ∧ fX6_commonDivisor_L9 N a b (nI s) = some g ∧ 0 < g.toInt := by
  have hmx : ∀ a : Int64, 0 < a.toInt → fX6_commonDivisor_b44 a = some a := by
    intro a ha
    unfold fX6_commonDivisor_b44 fJ9_max_f86c9
    by_cases h1 : (1 : Int64) < a
    · rw [if_pos h1]
    · rw [if_neg h1]
      rw [ltL] at h1
      have e1 : (1 : Int64).toInt = 1 := rfl
      congr 1
      rw [eqL]
      omega
  have z0 : (0 : Int64).toInt = 0 := rfl
  induction q with
  | zero =>
    intro a b s N M ha hb hb2 hab hs hN hM
    obtain ⟨N, rfl⟩ : ∃ z, N = z + 1 := ⟨N - 1, by omega⟩
    obtain ⟨M, rfl⟩ : ∃ z, M = z + 1 := ⟨M - 1, by omega⟩
    have e0 : b = 0 := by rw [eqL, z0]; omega
    have hs2 : ¬ (100 : Int32) ≤ nI s := by rw [show (100 : Int32) = nI 100 from rfl, nI_leI (by decide) (by omega)]; omega
    rw [fX7_common_L17_s, fX6_commonDivisor_L9_s, if_pos e0, if_neg hs2, if_pos e0, hmx a (by rw [e0, z0] at hab; omega)]
    exact ⟨a, rfl, rfl, by rw [e0, z0] at hab; omega⟩
  | succ q ih =>
    intro a b s N M ha hb hb2 hab hs hN hM
    obtain ⟨N, rfl⟩ : ∃ z, N = z + 1 + 1 := ⟨N - 2, by omega⟩
    obtain ⟨M, rfl⟩ : ∃ z, M = z + 1 + 1 := ⟨M - 2, by omega⟩
    have hs2 : ¬ (100 : Int32) ≤ nI s := by rw [show (100 : Int32) = nI 100 from rfl, nI_leI (by decide) (by omega)]; omega
    have hs3 : ¬ (100 : Int32) ≤ nI (s + 1) := by rw [show (100 : Int32) = nI 100 from rfl, nI_leI (by decide) (by omega)]; omega
    rw [fX7_common_L17_s, fX6_commonDivisor_L9_s, if_neg hs2]
    by_cases e0 : b = 0
    · rw [if_pos e0, if_pos e0, hmx a (by rw [e0, z0] at hab; omega)]
      exact ⟨a, rfl, rfl, by rw [e0, z0] at hab; omega⟩
    have hbp : 0 < b.toInt := by rw [eqL, z0] at e0; omega
    rw [if_neg e0, if_neg e0, show nI s + (1 : Int32) = nI (s + 1) from nI_1 s]
    unfold dvL
    rw [if_neg e0, if_neg e0]
    have hr := remL ha hbp
    generalize a - a / b * b = r at hr
    have r0 := Int.emod_nonneg a.toInt (show b.toInt ≠ 0 by omega)
    have r1 := Int.emod_lt_of_pos a.toInt hbp
    rw [fX7_common_L17_s, fX6_commonDivisor_L9_s, if_neg hs3]
    by_cases e1 : r = 0
    · rw [if_pos e1, if_pos e1, hmx b hbp]
      exact ⟨b, rfl, rfl, hbp⟩
    have hrp : 0 < r.toInt := by rw [eqL, z0] at e1; omega
    rw [if_neg e1, if_neg e1, show nI (s + 1) + (1 : Int32) = nI (s + 2) from nI_1 (s + 1)]
    unfold dvL
    rw [if_neg e1, if_neg e1]
    have hr2 := remL hb hrp
    generalize b - b / r * r = r' at hr2
    have r2 := Int.emod_nonneg b.toInt (show r.toInt ≠ 0 by omega)
    have r3 := Int.emod_lt_of_pos b.toInt hrp
    have hdiv : 1 ≤ b.toInt / r.toInt := by
      rw [Int.le_ediv_iff_mul_le hrp]; omega
    have hme := Int.mul_ediv_add_emod b.toInt r.toInt
    have hge : r.toInt ≤ r.toInt * (b.toInt / r.toInt) := by
      have := Int.mul_le_mul_of_nonneg_left hdiv (show 0 ≤ r.toInt by omega)
      omega
    have hp2 : (2 : Int) ^ (q + 1) = 2 * 2 ^ q := by rw [Int.pow_succ, Int.mul_comm]
    exact ih r r' (s + 2) N M (by omega) (by omega) (by omega) (Or.inl hrp) (by omega) (by omega) (by omega)
theorem part_ok (x y : Int64) (w : Int32) (hx : x.toInt ≠ -9223372036854775808) (hy : 0 < y.toInt) (hy2 : y.toInt < 2147483648) : ∃ r, fX6_partOfFraction x y w = some r ∧ fX7_partOf x y w = some r := by
  unfold fX6_partOfFraction fX7_partOf fX7_partOf_b10 fX7_common fX7_common_b12 fX6_partOfFraction_b20 fX6_commonDivisor
  have z0 : (0 : Int64).toInt = 0 := rfl
  have key : ∀ u : Int64, 0 ≤ u.toInt → ∃ g, fX7_common_L17 FU u y = some g ∧ fX6_commonDivisor_L9 FU u y 0 = some g ∧ 0 < g.toInt := by
    intro u hu
    have := euclid 31 u y 0 FU FU hu (by omega) (by omega) (Or.inr hy) (by omega) (by rw [FU_big]; decide) (by rw [FU_big]; decide)
    rw [nI_0] at this
    exact this
  have fin : ∀ u : Int64, 0 ≤ u.toInt → ∃ r, bd (fX6_commonDivisor_L9 FU u y 0) (fun r1 => if w = 0 then dvL r1 (some (x / r1)) else dvL r1 (some (y / r1))) = some r ∧ (if w = 0 then bd (fX7_common_L17 FU u y) (fun r1 => dvL r1 (some (x / r1))) else bd (fX7_common_L17 FU u y) (fun r1 => dvL r1 (some (y / r1)))) = some r := by
    intro u hu
    obtain ⟨g, g1, g2, g3⟩ := key u hu
    rw [g1, g2, bd_some, bd_some, bd_some]
    have hg : ¬ g = 0 := by rw [eqL, z0]; omega
    unfold dvL
    rw [if_neg hg, if_neg hg]
    by_cases hw : w = 0
    · simp only [if_pos hw]; exact ⟨_, rfl, rfl⟩
    · simp only [if_neg hw]; exact ⟨_, rfl, rfl⟩
  unfold fJ9_abs_067f4
  by_cases h0 : (0 : Int64) ≤ x
  · rw [if_pos h0, if_pos h0]
    rw [leL, z0] at h0
    exact fin x h0
  · rw [if_neg h0, if_neg h0]
    rw [leL, z0] at h0
    exact fin (-x) (by rw [negL hx]; omega)
-- ===== the measures of a box =====
theorem mxP_b {f : Nat → Int} {b : Int} : ∀ n, (∀ i, i ≤ n → absI (f i) b) → absI (mxP f n) b := by
  intro n
  induction n with
  | zero => intro h; exact h 0 (by omega)
  | succ n ih =>
    intro h
    have h1 := ih (fun i hi => h i (by omega))
    have h2 := h (n + 1) (by omega)
    unfold absI at *
    show -b ≤ max (mxP f n) (f (n + 1)) ∧ max (mxP f n) (f (n + 1)) ≤ b
    omega
theorem mnP_b {f : Nat → Int} {b : Int} : ∀ n, (∀ i, i ≤ n → absI (f i) b) → absI (mnP f n) b := by
  intro n
  induction n with
  | zero => intro h; exact h 0 (by omega)
  | succ n ih =>
    intro h
    have h1 := ih (fun i hi => h i (by omega))
    have h2 := h (n + 1) (by omega)
    unfold absI at *
    show -b ≤ min (mnP f n) (f (n + 1)) ∧ min (mnP f n) (f (n + 1)) ≤ b
    omega
theorem mnP_le (f : Nat → Int) (n : Nat) : mnP f n ≤ mxP f n := by
  induction n with
  | zero => exact Int.le_refl _
  | succ n ih =>
    show min (mnP f n) (f (n + 1)) ≤ max (mxP f n) (f (n + 1))
    omega
theorem mxP_neg (f : Nat → Int) (n : Nat) : mxP (fun i => -1 * f i) n = -mnP f n := by
  induction n with
  | zero => show -1 * f 0 = -f 0; omega
  | succ n ih =>
    show max (mxP (fun i => -1 * f i) n) (-1 * f (n + 1)) = -(min (mnP f n) (f (n + 1)))
    omega
theorem mxP_one (f : Nat → Int) (n : Nat) : mxP (fun i => 1 * f i) n = mxP f n := by
  congr 1; funext i; omega
theorem mostL (x y : Int64) : (fX7_most x y).toInt = max x.toInt y.toInt := by
  unfold fX7_most
  by_cases h : x ≤ y
  · rw [if_pos h]; rw [leL] at h; omega
  · rw [if_neg h]; rw [leL] at h; omega
theorem leastL (x y : Int64) : (fX7_least x y).toInt = min x.toInt y.toInt := by
  unfold fX7_least
  by_cases h : y ≤ x
  · rw [if_pos h]; rw [leL] at h; omega
  · rw [if_neg h]; rw [leL] at h; omega
theorem maxL (x y : Int64) : (fJ9_max_f86c9 x y).toInt = max x.toInt y.toInt := by
  unfold fJ9_max_f86c9
  by_cases h : x < y
  · rw [if_pos h]; rw [ltL] at h; omega
  · rw [if_neg h]; rw [ltL] at h; omega
theorem minL (x y : Int64) : (fJ9_min_f86c9 x y).toInt = min x.toInt y.toInt := by
  unfold fJ9_min_f86c9
  by_cases h : y < x
  · rw [if_pos h]; rw [ltL] at h; omega
  · rw [if_neg h]; rw [ltL] at h; omega
theorem one_mul3 {c : Int32} (hc : c = 1 ∨ c = -1) {v : Int64} (hv : absI v.toInt 100000) : ((c.toInt64) * v).toInt = c.toInt * v.toInt ∧ absI (c.toInt * v.toInt) 100000 := by
  unfold absI at *
  rcases hc with rfl | rfl
  · have e : (1 : Int32).toInt = 1 := rfl
    rw [mulL, toL, e] <;> (try rw [toL, e]) <;> omega
  · have e : (-1 : Int32).toInt = -1 := rfl
    rw [mulL, toL, e] <;> (try rw [toL, e]) <;> omega
theorem reach_ok {τ : St} {k n : Nat} {c x2 : Int32} {f : Nat → Int} (hk : k < 6) (hn : n ≤ 8) (h4 : τ.1 4 k = nI n) (hc : c = 1 ∨ c = -1) (hf : ∀ i, i ≤ n → (τ.2.1 (if x2 = 0 then 17 else 16) (9 * k + i)).toInt = f i ∧ absI (f i) 100000) : ∃ r, fX7_reach τ (nI k) x2 c = some r ∧ r.toInt = mxP (fun i => c.toInt * f i) n := by
  have loop : ∀ (q m N : Nat) (x : Int64), m + q = n → q < N → x.toInt = mxP (fun i => c.toInt * f i) m → ∃ r, fX7_reach_L33 τ N (nI k) x2 c x (nI (m + 1)) = some r ∧ r.toInt = mxP (fun i => c.toInt * f i) n := by
    intro q
    induction q with
    | zero =>
      intro m N x hm hN hx
      obtain ⟨N, rfl⟩ : ∃ z, N = z + 1 := ⟨N - 1, by omega⟩
      have hm : m = n := by omega
      subst hm
      rw [fX7_reach_L33_s, grdN (by omega) (by omega), ixN (by omega), h4, if_pos (by rw [nI_ltI (by omega) (by omega)]; omega)]
      exact ⟨x, rfl, hx⟩
    | succ q ih =>
      intro m N x hm hN hx
      obtain ⟨N, rfl⟩ : ∃ z, N = z + 1 := ⟨N - 1, by omega⟩
      rw [fX7_reach_L33_s, grdN (by omega) (by omega), ixN (by omega), h4, if_neg (by rw [nI_ltI (by omega) (by omega)]; omega), e9ki, grdN (by omega) (by omega), grdN (by omega) (by omega), ixN (by omega)]
      obtain ⟨g1, g2⟩ := hf (m + 1) (by omega)
      unfold fX7_reach_b79
      rw [show nI (m + 1) + (1 : Int32) = nI (m + 1 + 1) from nI_1 (m + 1)]
      by_cases e : x2 = 0
      · rw [if_pos e]
        rw [if_pos e] at g1
        refine ih (m + 1) N _ (by omega) (by omega) ?_
        rw [mostL, (one_mul3 hc (by rw [g1]; exact g2)).1, hx, g1]
        rfl
      · rw [if_neg e]
        rw [if_neg e] at g1
        refine ih (m + 1) N _ (by omega) (by omega) ?_
        rw [mostL, (one_mul3 hc (by rw [g1]; exact g2)).1, hx, g1]
        rfl
  unfold fX7_reach fX7_reach_b27
  rw [e9k, grdN (by omega) (by omega), grdN (by omega) (by omega), ixN (by omega)]
  obtain ⟨g1, g2⟩ := hf 0 (by omega)
  rw [Nat.add_zero] at g1
  by_cases e : x2 = 0
  · rw [if_pos e]
    rw [if_pos e] at g1
    refine loop n 0 FU _ (by omega) (by rw [FU_big]; omega) ?_
    rw [(one_mul3 hc (by rw [g1]; exact g2)).1, g1]
    rfl
  · rw [if_neg e]
    rw [if_neg e] at g1
    refine loop n 0 FU _ (by omega) (by rw [FU_big]; omega) ?_
    rw [(one_mul3 hc (by rw [g1]; exact g2)).1, g1]
    rfl
/-- a measure of a box, numbered as in the document -/
def msr (P : Nat → Int × Int × Int) (n : Nat) (w : Int32) : Int := if w = 0 then mnP (fun i => (P i).1) n else if w = 1 then mxP (fun i => (P i).1) n else if w = 2 then mnP (fun i => (P i).2.1) n else if w = 3 then mxP (fun i => (P i).2.1) n else if w = 4 then mxP (fun i => (P i).1) n - mnP (fun i => (P i).1) n else mxP (fun i => (P i).2.1) n - mnP (fun i => (P i).2.1) n
def PBd (P : Nat → Int × Int × Int) (n : Nat) : Prop := ∀ i, i ≤ n → absI (P i).1 3300 ∧ absI (P i).2.1 3300
theorem msr_4 {P : Nat → Int × Int × Int} {n : Nat} (h : PBd P n) : absI (mnP (fun i => (P i).1) n) 3300 ∧ absI (mxP (fun i => (P i).1) n) 3300 ∧ absI (mnP (fun i => (P i).2.1) n) 3300 ∧ absI (mxP (fun i => (P i).2.1) n) 3300 := ⟨mnP_b n (fun i hi => (h i hi).1), mxP_b n (fun i hi => (h i hi).1), mnP_b n (fun i hi => (h i hi).2), mxP_b n (fun i hi => (h i hi).2)⟩
theorem msr_b {P : Nat → Int × Int × Int} {n : Nat} (h : PBd P n) (w : Int32) : absI (msr P n w) 6600 := by
  obtain ⟨a1, a2, a3, a4⟩ := msr_4 h
  unfold absI at *
  unfold msr
  split
  · omega
  split
  · omega
  split
  · omega
  split
  · omega
  split
  · omega
  · omega
theorem measure_C {σ : St} {t0 n : Nat} {P : Nat → Int × Int × Int} (hb : BX σ t0 P n) (h : PBd P n) (w : Int32) : (fX2_measure σ t0 w).toInt = msr P n w := by
  obtain ⟨a1, a2, a3, a4⟩ := msr_4 h
  obtain ⟨b1, b2, b3, b4⟩ := hb
  unfold absI at *
  unfold fX2_measure msr fX2_height
  by_cases h0 : w = 0
  · rw [if_pos h0, if_pos h0]; exact b1
  rw [if_neg h0, if_neg h0]
  by_cases h1 : w = 1
  · rw [if_pos h1, if_pos h1]; exact b2
  rw [if_neg h1, if_neg h1]
  by_cases h2 : w = 2
  · rw [if_pos h2, if_pos h2]; exact b3
  rw [if_neg h2, if_neg h2]
  by_cases h3 : w = 3
  · rw [if_pos h3, if_pos h3]; exact b4
  rw [if_neg h3, if_neg h3]
  by_cases h4 : w = 4
  · rw [if_pos h4, if_pos h4, subI, b1, b2] <;> omega
  rw [if_neg h4, if_neg h4, subI, b3, b4] <;> omega
theorem measure_M {τ : St} {k n : Nat} {P : Nat → Int × Int × Int} (hk : k < 6) (hn : n ≤ 8) (h4 : τ.1 4 k = nI n) (hp : PM τ k P n) (h : PBd P n) (w : Int32) : ∃ r, fX7_measure τ (nI k) w = some r ∧ r.toInt = msr P n w := by
  obtain ⟨a1, a2, a3, a4⟩ := msr_4 h
  have hx : ∀ c : Int32, c = 1 ∨ c = -1 → ∃ r, fX7_reach τ (nI k) 1 c = some r ∧ r.toInt = mxP (fun i => c.toInt * (P i).1) n := fun c hc => reach_ok (f := fun i => (P i).1) hk hn h4 hc (fun i hi => ⟨by rw [if_neg (by decide)]; exact (hp i hi).1, by have := (h i hi).1; unfold absI at *; omega⟩)
  have hy : ∀ c : Int32, c = 1 ∨ c = -1 → ∃ r, fX7_reach τ (nI k) 0 c = some r ∧ r.toInt = mxP (fun i => c.toInt * (P i).2.1) n := fun c hc => reach_ok (f := fun i => (P i).2.1) hk hn h4 hc (fun i hi => ⟨by rw [if_pos rfl]; exact (hp i hi).2.1, by have := (h i hi).2; unfold absI at *; omega⟩)
  obtain ⟨r1, c1, d1⟩ := hx 1 (Or.inl rfl)
  obtain ⟨r2, c2, d2⟩ := hx (-1) (Or.inr rfl)
  obtain ⟨r3, c3, d3⟩ := hy 1 (Or.inl rfl)
  obtain ⟨r4, c4, d4⟩ := hy (-1) (Or.inr rfl)
  rw [show (1 : Int32).toInt = 1 from rfl, mxP_one] at d1 d3
  rw [show (-1 : Int32).toInt = -1 from rfl, mxP_neg] at d2 d4
  unfold absI at a1 a2 a3 a4
  unfold fX7_measure msr
  rw [c1, c2, c3, c4]
  simp only [bd_some]
  by_cases h0 : w = 0
  · rw [if_pos h0, if_pos h0]; exact ⟨_, rfl, by rw [negL] <;> omega⟩
  rw [if_neg h0, if_neg h0]
  by_cases h1 : w = 1
  · rw [if_pos h1, if_pos h1]; exact ⟨_, rfl, d1⟩
  rw [if_neg h1, if_neg h1]
  by_cases h2 : w = 2
  · rw [if_pos h2, if_pos h2]; exact ⟨_, rfl, by rw [negL] <;> omega⟩
  rw [if_neg h2, if_neg h2]
  by_cases h3 : w = 3
  · rw [if_pos h3, if_pos h3]; exact ⟨_, rfl, d3⟩
  rw [if_neg h3, if_neg h3]
  by_cases h4 : w = 4
  · rw [if_pos h4, if_pos h4]; exact ⟨_, rfl, by rw [addL] <;> omega⟩
  rw [if_neg h4, if_neg h4]; exact ⟨_, rfl, by rw [addL] <;> omega⟩
theorem pbd_of {σ τ : St} {bd D nf : Nat} {ft lb : Nat → Nat} {nm : Nat} {mt : Nat → Nat} {k B : Nat} (a : RD σ τ D) (b : RF σ τ nf ft lb bd) (c : RM σ τ nm mt nf ft lb bd) (hk : k < nf) (hB : B < 100) : PBd (ptN τ k (bsA τ D k nm B) (lb k)) (lb k) := by
  intro i hi
  have hf := b.2.2.1 k hk
  have h8 := hf.2.2.1
  obtain ⟨c1, c2, -⟩ := (take_ok (t0 := 7) (B := B) b c hk (by decide) a.2.2 hB).2
  have := ptN_b (s := bsA τ D k nm B) (fun j hj => (hf.2.2.2.2 j hj).2) (by unfold absI at *; omega) (by unfold absI at *; omega) (lb k) (Nat.le_refl _) i hi
  unfold absI at *
  omega
theorem s_box (x1 x2 x3 x4 : Int32) : StS Rel (fun σ => fX6_box σ x1 x2 x3 x4) (fun τ => fX7_box τ x1 x2 x3 x4) := by
  intro σ τ bd h
  obtain ⟨D, nf, ft, lb, nm, mt, ns, a, b, c, d⟩ := id h
  show ∃ r σ' τ', fX6_box σ x1 x2 x3 x4 = some (r, σ') ∧ fX7_box τ x1 x2 x3 x4 = some (r, τ') ∧ Rel σ' τ' bd
  unfold fX6_box fX7_box fX6_box_b38 fX7_box_b34 fX7_lost
  rw [figAt b, noFig b, bd_some]
  have hn6 := b.1.2.2
  by_cases hx : 0 ≤ x1.toInt ∧ x1.toInt < nf
  · rw [if_pos hx, if_pos hx, elim_some, if_pos rfl]
    obtain ⟨k, hk, rfl⟩ := toN hx.1 hx.2 (by omega)
    have hf := b.2.2.1 k hk
    have h8 := hf.2.2.1
    rw [ixN (by omega), isB, inR, inR]
    by_cases h2 : fX7_isBeat x2 = 0
    · rw [if_pos h2, if_pos h2]; exact ⟨_, σ, τ, rfl, rfl, h⟩
    rw [if_neg h2, if_neg h2]
    by_cases h3 : fX7_in x3 0 5 = 0
    · rw [if_pos h3, if_pos h3]; exact ⟨_, σ, τ, rfl, rfl, h⟩
    rw [if_neg h3, if_neg h3]
    by_cases h4 : fX7_in x4 0 1 = 0
    · rw [if_pos h4, if_pos h4]; exact ⟨_, σ, τ, rfl, rfl, h⟩
    rw [if_neg h4, if_neg h4]
    obtain ⟨B, hB, rfl⟩ := beat_of h2
    obtain ⟨⟨σ', u1, u2, u3, u4, u5⟩, ub⟩ := take_ok (t0 := 7) (B := B) b c hk (by decide) a.2.2 hB
    obtain ⟨τ', v1, v2, v3⟩ := goTo_ok a b c hB
    obtain ⟨w1, w2⟩ := v3 k hk
    have hR := h.same (u2.sameC (by decide)) v2
    have hp := pbd_of a b c hk hB
    have hm1 := measure_C u5 hp x3
    obtain ⟨r, r1, r2⟩ := measure_M (by omega) h8 (by rw [v2 4 (by omega)]; exact hf.2.1) w2 hp x3
    have hmb := msr_b hp x3
    rw [a.1, u1, v1, bd_some, bd_some, r1, bd_some, grdN (by omega) (by omega), u2.1 0 (by decide), v2 0 (by decide), a.1, a.2.1]
    have e1 : (fX2_measure σ' 7 x3).toInt64 = r := by rw [eqL, toL, hm1, r2]
    have e2 : σ'.1 7 4 = τ'.1 14 k := by rw [eqI, u3, w1]
    rw [e1, e2]
    have hpl := ub.2.2.1
    have hD := a.2.2
    have hD2 : (nI D).toInt = D := nI_toInt (by omega)
    have hb2 : absI (r.toInt * D) (6600 * 200) := absI_mul (by rw [r2]; exact hmb) (by unfold absI; omega)
    have hmul : (r * (nI D).toInt64).toInt = r.toInt * D := by
      unfold absI at hb2
      rw [mulL, toL, hD2] <;> (try rw [toL, hD2]) <;> omega
    obtain ⟨z, z1, z2⟩ := part_ok (r * (nI D).toInt64) ((τ'.1 14 k).toInt64) x4 (by rw [hmul]; unfold absI at hb2; omega) (by rw [toL, w1]; omega) (by rw [toL, w1]; omega)
    rw [z1, z2, bd_some, bd_some]
    exact ⟨_, σ', τ', rfl, rfl, hR⟩
  · rw [if_neg hx, if_neg hx, elim_none, if_neg (by decide)]
    exact ⟨_, σ, τ, rfl, rfl, h⟩
