-- ===== within =====
theorem none_of {σ τ : St} {nf bd : Nat} {ft lb : Nat → Nat} (b : RF σ τ nf ft lb bd) {m : Nat} (h6 : m < 6) (h : nf ≤ m) : σ.2.2 1 m = none := by rw [b.2.1 m h6, if_neg (by omega)]
theorem within_tail {σ τ : St} {nf bd : Nat} {ft lb : Nat → Nat} (b : RF σ τ nf ft lb bd) (x1 x2 x3 x : Int32) : ∀ (q m N : Nat), m + q = 6 → nf ≤ m → q < N → fX6_within_L49 N σ x1 x2 x3 x 6 (nI m) = some (x, σ) := by
  intro q
  induction q with
  | zero =>
    intro m N hm hn hN
    obtain ⟨N, rfl⟩ : ∃ z, N = z + 1 := ⟨N - 1, by omega⟩
    rw [fX6_within_L49_s, if_pos (by rw [show m = 6 by omega]; decide)]
  | succ q ih =>
    intro m N hm hn hN
    obtain ⟨N, rfl⟩ : ∃ z, N = z + 1 := ⟨N - 1, by omega⟩
    rw [fX6_within_L49_s, if_neg (by rw [show (6 : Int32) = nI 6 from rfl, nI_leI (by decide) (by omega)]; omega), grdN (by omega) (by omega), app1_e, ixN (by omega), none_of b (by omega) hn, elim_none]
    unfold fX6_within_b110
    rw [show nI m + (1 : Int32) = nI (m + 1) from nI_1 m]
    exact ih (m + 1) N (by omega) (by omega) (by omega)
theorem within_same {σ τ : St} {k n D : Nat} {P : Nat → Int × Int × Int} {x y : Int32} (hk : k < 6) (hn : n ≤ 8) (h4 : τ.1 4 k = nI n) (hp : PM τ k P n) (h : PBd P n) (hb : BX σ 7 P n) (hpl : σ.1 7 4 = τ.1 14 k) (hpl2 : 1 ≤ (τ.1 14 k).toInt ∧ (τ.1 14 k).toInt ≤ 200) (hD0 : τ.1 0 0 = nI D) (hD : 10 ≤ D ∧ D ≤ 200) (hx : absI x.toInt 20000) (hy : absI y.toInt 20000) : fX7_isWithin τ (nI k) x.toInt64 y.toInt64 = some (fX2_isWithin σ 7 x y (nI D)) := by
  obtain ⟨r0, a0, b0⟩ := measure_M hk hn h4 hp h 0
  obtain ⟨r1, a1, b1⟩ := measure_M hk hn h4 hp h 1
  obtain ⟨r2, a2, b2⟩ := measure_M hk hn h4 hp h 2
  obtain ⟨r3, a3, b3⟩ := measure_M hk hn h4 hp h 3
  rw [msr0] at b0
  rw [msr1] at b1
  rw [msr2] at b2
  rw [msr3] at b3
  obtain ⟨m0, m1, m2, m3⟩ := msr_4 h
  obtain ⟨c0, c1, c2, c3⟩ := hb
  unfold fX7_isWithin fX2_isWithin
  rw [a0, a1, a2, a3, bd_some, bd_some, bd_some, bd_some, grdN (by omega) (by omega), grdN (by omega) (by omega), ixN (by omega), hD0, hpl]
  generalize τ.1 14 k = p at hpl2
  have hDi : (nI D).toInt = D := nI_toInt (by omega)
  have key : ∀ (z : Int32) (u v : Int64) (s t : Int32), absI z.toInt 20000 → u.toInt = s.toInt → v.toInt = t.toInt → absI s.toInt 3300 → absI t.toInt 3300 → ((z.toInt64 * p.toInt64 < fX7_most v (-u) * (nI D).toInt64) ↔ (z * p < fJ9_max_7cf53 (-s) t * nI D)) := by
    intro z u v s t hz e1 e2 hs ht
    have hzp : absI (z.toInt * p.toInt) (20000 * 200) := absI_mul hz (by unfold absI; omega)
    have hneg : (-s).toInt = -s.toInt := negI (by unfold absI at hs; omega)
    have hneg2 : (-u).toInt = -u.toInt := negL (by unfold absI at hs; omega)
    have hmx : (fJ9_max_7cf53 (-s) t).toInt = max (-s.toInt) t.toInt := by rw [maxI, hneg]
    have hmx2 : (fX7_most v (-u)).toInt = max (-s.toInt) t.toInt := by rw [mostL, hneg2, e1, e2]; omega
    have hb2 : absI (max (-s.toInt) t.toInt) 3300 := by unfold absI at *; omega
    have hmD : absI (max (-s.toInt) t.toInt * D) (3300 * 200) := absI_mul hb2 (by unfold absI; omega)
    unfold absI at hzp hmD
    have q1 : (z.toInt64 * p.toInt64).toInt = z.toInt * p.toInt := by
      rw [mulL, toL, toL] <;> rw [toL, toL] <;> omega
    have q2 : (z * p).toInt = z.toInt * p.toInt := by rw [mulI] <;> omega
    have q3 : (fX7_most v (-u) * (nI D).toInt64).toInt = max (-s.toInt) t.toInt * D := by
      rw [mulL, toL, hDi, hmx2] <;> rw [toL, hDi, hmx2] <;> omega
    have q4 : (fJ9_max_7cf53 (-s) t * nI D).toInt = max (-s.toInt) t.toInt * D := by
      rw [mulI, hDi, hmx] <;> rw [hDi, hmx] <;> omega
    rw [ltL, ltI, q1, q2, q3, q4]
  have k1 := key x r0 r1 (σ.1 7 5) (σ.1 7 6) hx (by rw [b0, c0]) (by rw [b1, c1]) (by rw [c0]; exact m0) (by rw [c1]; exact m1)
  have k2 := key y r2 r3 (σ.1 7 7) (σ.1 7 8) hy (by rw [b2, c2]) (by rw [b3, c3]) (by rw [c2]; exact m2) (by rw [c3]; exact m3)
  by_cases g1 : x * p < fJ9_max_7cf53 (-(σ.1 7 5)) (σ.1 7 6) * nI D
  · rw [if_pos g1, if_pos (k1.mpr g1)]
  · rw [if_neg g1, if_neg (fun z => g1 (k1.mp z))]
    by_cases g2 : y * p < fJ9_max_7cf53 (-(σ.1 7 7)) (σ.1 7 8) * nI D
    · rw [if_pos g2, if_pos (k2.mpr g2)]
    · rw [if_neg g2, if_neg (fun z => g2 (k2.mp z))]
theorem within_loop {σ τ τ' : St} {bd D nf : Nat} {ft lb : Nat → Nat} {nm : Nat} {mt : Nat → Nat} {B : Nat} (a : RD σ τ D) (b : RF σ τ nf ft lb bd) (c : RM σ τ nm mt nf ft lb bd) (hB : B < 100) (v2 : SameM τ τ') (v3 : MP τ τ' D nf lb nm B nf) {x y : Int32} (hx : absI x.toInt 20000) (hy : absI y.toInt 20000) : ∀ (q m N M : Nat) (σ1 : St) (acc : Int32), m + q = nf → q + 6 < N → q < M → SameC σ σ1 → ∃ r σ2, fX6_within_L49 N σ1 x y (nI B) acc 6 (nI m) = some (r, σ2) ∧ fX7_within_L43 M τ' x y acc (nI m) = some (r, τ') ∧ SameC σ σ2 := by
  have hn6 := b.1.2.2
  intro q
  induction q with
  | zero =>
    intro m N M σ1 acc hm hN hM sc
    obtain ⟨M, rfl⟩ : ∃ z, M = z + 1 := ⟨M - 1, by omega⟩
    have hm : m = nf := by omega
    subst hm
    rw [within_tail (b.same sc (SameM.rfl' τ)) x y (nI B) acc (6 - m) m N (by omega) (Nat.le_refl _) (by omega), fX7_within_L43_s, v2 0 (by decide), b.1.2.1, if_pos (Int32.le_refl _)]
    exact ⟨acc, σ1, rfl, rfl, sc⟩
  | succ q ih =>
    intro m N M σ1 acc hm hN hM sc
    obtain ⟨N, rfl⟩ : ∃ z, N = z + 1 := ⟨N - 1, by omega⟩
    obtain ⟨M, rfl⟩ : ∃ z, M = z + 1 := ⟨M - 1, by omega⟩
    have hmn : m < nf := by omega
    have a1 := a.same sc (SameM.rfl' τ)
    have b1 := b.same sc (SameM.rfl' τ)
    have c1 := c.same sc (SameM.rfl' τ)
    have hf := b1.2.2.1 m hmn
    obtain ⟨⟨σ2, u1, u2, u3, u4, u5⟩, ub⟩ := take_ok (t0 := 7) (B := B) b1 c1 hmn (by decide) a.2.2 hB
    have sc2 : SameC σ1 σ2 := u2.sameC (by decide)
    obtain ⟨w1, w2⟩ := v3 m hmn
    have hft := b1.2.2.2.1 m hmn
    have hws := within_same (σ := σ2) (τ := τ') (k := m) (D := D) (x := x) (y := y) (by omega) hf.2.2.1 (by rw [v2 4 (by decide)]; exact hf.2.1) w2 (pbd_of a b c hmn hB) u5 (by rw [eqI, u3, w1]) (by rw [w1]; have := ub.2.2.1; have := a.2.2; omega) (by rw [v2 0 (by decide)]; exact a.2.1) a.2.2 hx hy
    rw [fX6_within_L49_s, if_neg (by rw [show (6 : Int32) = nI 6 from rfl, nI_leI (by decide) (by omega)]; omega), grdN (by omega) (by omega), app1_e, ixN (by omega), b1.2.1 m (by omega), if_pos hmn, elim_some, a1.1, u1, bd_some, sc2.1 0 (by decide), a1.1]
    rw [fX7_within_L43_s, v2 0 (by decide), b.1.2.1, if_neg (show ¬ nI nf ≤ nI m by rw [nI_leI (by omega) (by omega)]; omega), hws, bd_some, sc2.1 (ft m) (by omega), hf.1.1]
    unfold fX6_within_b110 fX7_within_b75
    rw [show nI m + (1 : Int32) = nI (m + 1) from nI_1 m]
    by_cases e : fX2_isWithin σ2 7 x y (nI D) = 0
    · rw [if_pos e, if_pos e, Int32.or_zero]
      exact ih (m + 1) N M σ2 _ (by omega) (by omega) (by omega) (sc.trans sc2)
    · rw [if_neg e, if_neg e]
      exact ih (m + 1) N M σ2 _ (by omega) (by omega) (by omega) (sc.trans sc2)
theorem s_within (x1 x2 x3 : Int32) : StS Rel (fun σ => fX6_within σ x1 x2 x3) (fun τ => fX7_within τ x1 x2 x3) := by
  intro σ τ bd h
  obtain ⟨D, nf, ft, lb, nm, mt, ns, a, b, c, d⟩ := id h
  show ∃ r σ' τ', fX6_within σ x1 x2 x3 = some (r, σ') ∧ fX7_within τ x1 x2 x3 = some (r, τ') ∧ Rel σ' τ' bd
  unfold fX6_within fX7_within
  have hn6 := b.1.2.2
  rw [inR, inR, isB]
  by_cases h1 : fX7_in x1 0 20000 = 0
  · rw [if_pos h1, if_pos h1]; exact ⟨_, σ, τ, rfl, rfl, h⟩
  rw [if_neg h1, if_neg h1]
  by_cases h2 : fX7_in x2 0 20000 = 0
  · rw [if_pos h2, if_pos h2]; exact ⟨_, σ, τ, rfl, rfl, h⟩
  rw [if_neg h2, if_neg h2]
  by_cases h3 : fX7_isBeat x3 = 0
  · rw [if_pos h3, if_pos h3]; exact ⟨_, σ, τ, rfl, rfl, h⟩
  rw [if_neg h3, if_neg h3]
  obtain ⟨B, hB, rfl⟩ := beat_of h3
  rw [in_0] at h1 h2
  have h1 : (0 : Int) ≤ x1.toInt ∧ x1.toInt ≤ 20000 := Classical.not_not.mp h1
  have h2 : (0 : Int) ≤ x2.toInt ∧ x2.toInt ≤ 20000 := Classical.not_not.mp h2
  obtain ⟨τ', v1, v2, v3⟩ := goTo_ok a b c hB
  rw [v1, bd_some]
  obtain ⟨r, σ2, w1, w2, w3⟩ := within_loop a b c hB v2 v3 (x := x1) (y := x2) (by unfold absI; omega) (by unfold absI; omega) nf 0 FU FU σ 0 (by omega) (by rw [FU_big]; omega) (by rw [FU_big]; omega) (SameC.rfl' σ)
  rw [nI_0] at w1 w2
  exact ⟨r, σ2, τ', w1, w2, h.same w3 v2⟩
-- ===== highest =====
def oH (ft : Nat → Nat) (o : Option Nat) : Option Nat := o.map ft
def iH (o : Option Nat) : Int32 := o.elim (-5) nI
theorem high_tail {σ τ : St} {nf bd : Nat} {ft lb : Nat → Nat} (b : RF σ τ nf ft lb bd) (x1 : Int32) (o : Option Nat) (ho : ∀ f, o = some f → f < nf) : ∀ (q m N : Nat), m + q = 6 → nf ≤ m → q < N → fX6_highest_L24 N σ x1 (oH ft o) 6 (nI m) = some (iH o, σ) := by
  intro q
  induction q with
  | zero =>
    intro m N hm hn hN
    obtain ⟨N, rfl⟩ : ∃ z, N = z + 1 := ⟨N - 1, by omega⟩
    rw [fX6_highest_L24_s, if_pos (by rw [show m = 6 by omega]; decide)]
    cases o with
    | none => rfl
    | some f =>
      show some (σ.1 (ft f) 0, σ) = some (nI f, σ)
      rw [(b.2.2.1 f (ho f rfl)).1.1]
  | succ q ih =>
    intro m N hm hn hN
    obtain ⟨N, rfl⟩ : ∃ z, N = z + 1 := ⟨N - 1, by omega⟩
    rw [fX6_highest_L24_s, if_neg (by rw [show (6 : Int32) = nI 6 from rfl, nI_leI (by decide) (by omega)]; omega), grdN (by omega) (by omega), app1_e, ixN (by omega), none_of b (by omega) hn, elim_none]
    unfold fX6_highest_b60
    rw [show nI m + (1 : Int32) = nI (m + 1) from nI_1 m]
    exact ih (m + 1) N (by omega) (by omega) (by omega)
theorem high_loop {σ τ τ' : St} {bq D nf : Nat} {ft lb : Nat → Nat} {nm : Nat} {mt : Nat → Nat} {B : Nat} (a : RD σ τ D) (b : RF σ τ nf ft lb bq) (c : RM σ τ nm mt nf ft lb bq) (hB : B < 100) (v2 : SameM τ τ') (v3 : MP τ τ' D nf lb nm B nf) : ∀ (q m N M : Nat) (σ1 : St) (o : Option Nat), m + q = nf → q + 6 < N → q < M → SameC σ σ1 → (∀ f, o = some f → f < nf) → ∃ r σ2, fX6_highest_L24 N σ1 (nI B) (oH ft o) 6 (nI m) = some (r, σ2) ∧ fX7_highest_L20 M τ' (iH o) (nI m) = some (r, τ') ∧ SameC σ σ2 := by
  have hn6 := b.1.2.2
  intro q
  induction q with
  | zero =>
    intro m N M σ1 o hm hN hM sc ho
    obtain ⟨M, rfl⟩ : ∃ z, M = z + 1 := ⟨M - 1, by omega⟩
    have hm : m = nf := by omega
    subst hm
    rw [high_tail (b.same sc (SameM.rfl' τ)) (nI B) o ho (6 - m) m N (by omega) (Nat.le_refl _) (by omega), fX7_highest_L20_s, v2 0 (by decide), b.1.2.1, if_pos (Int32.le_refl _)]
    exact ⟨iH o, σ1, rfl, rfl, sc⟩
  | succ q ih =>
    intro m N M σ1 o hm hN hM sc ho
    obtain ⟨N, rfl⟩ : ∃ z, N = z + 1 := ⟨N - 1, by omega⟩
    obtain ⟨M, rfl⟩ : ∃ z, M = z + 1 := ⟨M - 1, by omega⟩
    have hmn : m < nf := by omega
    have a1 := a.same sc (SameM.rfl' τ)
    have b1 := b.same sc (SameM.rfl' τ)
    have c1 := c.same sc (SameM.rfl' τ)
    rw [fX6_highest_L24_s, if_neg (by rw [show (6 : Int32) = nI 6 from rfl, nI_leI (by decide) (by omega)]; omega), grdN (by omega) (by omega), app1_e, ixN (by omega), b1.2.1 m (by omega), if_pos hmn, elim_some]
    rw [fX7_highest_L20_s, v2 0 (by decide), b.1.2.1, if_neg (show ¬ nI nf ≤ nI m by rw [nI_leI (by omega) (by omega)]; omega)]
    unfold fX6_highest_b57 fX6_highest_b60 fX7_highest_b64 fX7_highest_b69 fX7_highest_b81
    rw [show nI m + (1 : Int32) = nI (m + 1) from nI_1 m]
    cases o with
    | none =>
      have e : iH none < 0 := by decide
      rw [if_pos e, if_neg (by decide)]
      show ∃ r σ2, fX6_highest_L24 N σ1 (nI B) (some (ft m)) 6 (nI (m + 1)) = some (r, σ2) ∧ _
      exact ih (m + 1) N M σ1 (some m) (by omega) (by omega) (by omega) sc (fun f hf => by cases hf; exact hmn)
    | some f =>
      have hf := ho f rfl
      have e : ¬ iH (some f) < 0 := by
        show ¬ nI f < 0
        rw [ltI, nI_toInt (by omega)]
        show ¬ ((f : Int) < 0)
        omega
      rw [if_neg e]
      rw [show oH ft (some f) = some (ft f) from rfl, elim_some, show iH (some f) = nI f from rfl]
      obtain ⟨σ2, u1, u2, ⟨p1, -, p2⟩, ⟨q1, -, q2⟩⟩ := takePoses_ok a1 b1 c1 hmn hf hB
      obtain ⟨w1, w2⟩ := v3 m hmn
      obtain ⟨y1, y2⟩ := v3 f hf
      have hfm := b.2.2.1 m hmn
      have hff := b.2.2.1 f hf
      have hp := pbd_of a b c hmn hB
      have hq := pbd_of a b c hf hB
      obtain ⟨r1, e1, d1⟩ := measure_M (by omega) hfm.2.2.1 (by rw [v2 4 (by omega)]; exact hfm.2.1) w2 hp 5
      obtain ⟨r2, e2, d2⟩ := measure_M (by omega) hff.2.2.1 (by rw [v2 4 (by omega)]; exact hff.2.1) y2 hq 5
      have hpl := (take_ok (t0 := 7) (B := B) b c hmn (by decide) a.2.2 hB).2.2.2.1
      have hql := (take_ok (t0 := 7) (B := B) b c hf (by decide) a.2.2 hB).2.2.2.1
      have hD := a.2.2
      have hh1 : (fX2_height σ2 7).toInt = r1.toInt := by
        obtain ⟨m0, m1, m2, m3⟩ := msr_4 hp
        unfold absI at m2 m3
        rw [d1, msr5]
        unfold fX2_height
        rw [subI, p2.2.2.1, p2.2.2.2] <;> rw [p2.2.2.1, p2.2.2.2] <;> omega
      have hh2 : (fX2_height σ2 12).toInt = r2.toInt := by
        obtain ⟨m0, m1, m2, m3⟩ := msr_4 hq
        unfold absI at m2 m3
        rw [d2, msr5]
        unfold fX2_height
        rw [subI, q2.2.2.1, q2.2.2.2] <;> rw [q2.2.2.1, q2.2.2.2] <;> omega
      have hb1 := msr_b hp 5
      have hb2 := msr_b hq 5
      rw [← d1] at hb1
      rw [← d2] at hb2
      rw [← w1] at hpl p1
      rw [← y1] at hql q1
      have eP : σ2.1 7 4 = τ'.1 14 m := eqI.mpr p1
      have eQ : σ2.1 12 4 = τ'.1 14 f := eqI.mpr q1
      have i1 := absI_mul (B := 200) hb1 (show absI (τ'.1 14 f).toInt 200 by unfold absI; omega)
      have i2 := absI_mul (B := 200) hb2 (show absI (τ'.1 14 m).toInt 200 by unfold absI; omega)
      unfold absI at i1 i2
      have hcmp : (r1 * (τ'.1 14 f).toInt64 ≤ r2 * (τ'.1 14 m).toInt64) ↔ (fX2_height σ2 7 * τ'.1 14 f ≤ fX2_height σ2 12 * τ'.1 14 m) := by
        have z1 : (r1 * (τ'.1 14 f).toInt64).toInt = r1.toInt * (τ'.1 14 f).toInt := by rw [mulL, toL] <;> rw [toL] <;> omega
        have z2 : (r2 * (τ'.1 14 m).toInt64).toInt = r2.toInt * (τ'.1 14 m).toInt := by rw [mulL, toL] <;> rw [toL] <;> omega
        have z3 : (fX2_height σ2 7 * τ'.1 14 f).toInt = r1.toInt * (τ'.1 14 f).toInt := by rw [mulI, hh1] <;> rw [hh1] <;> omega
        have z4 : (fX2_height σ2 12 * τ'.1 14 m).toInt = r2.toInt * (τ'.1 14 m).toInt := by rw [mulI, hh2] <;> rw [hh2] <;> omega
        rw [leL, leI, z1, z2, z3, z4]
      unfold fX6_isHigher
      rw [u1, bd_some, e1, e2, bd_some, bd_some, grdN (by omega) (by omega), grdN (by omega) (by omega), eP, eQ, ixN (by omega), ixN (by omega), if_pos rfl, if_neg (show ¬ (1 : Int32) = 0 by decide)]
      by_cases g : fX2_height σ2 7 * τ'.1 14 f ≤ fX2_height σ2 12 * τ'.1 14 m
      · rw [if_pos g, if_pos (hcmp.mpr g), bd2_some, if_pos rfl]
        exact ih (m + 1) N M σ2 (some f) (by omega) (by omega) (by omega) (sc.trans u2) (fun z hz => by cases hz; exact hf)
      · rw [if_neg g, if_neg (fun z => g (hcmp.mp z)), bd2_some, if_neg (by decide)]
        exact ih (m + 1) N M σ2 (some m) (by omega) (by omega) (by omega) (sc.trans u2) (fun z hz => by cases hz; exact hmn)
theorem s_highest (x1 : Int32) : StS Rel (fun σ => fX6_highest σ x1) (fun τ => fX7_highest τ x1) := by
  intro σ τ bd h
  obtain ⟨D, nf, ft, lb, nm, mt, ns, a, b, c, d⟩ := id h
  show ∃ r σ' τ', fX6_highest σ x1 = some (r, σ') ∧ fX7_highest τ x1 = some (r, τ') ∧ Rel σ' τ' bd
  unfold fX6_highest fX7_highest
  have hn6 := b.1.2.2
  rw [isB]
  by_cases h3 : fX7_isBeat x1 = 0
  · rw [if_pos h3, if_pos h3]; exact ⟨_, σ, τ, rfl, rfl, h⟩
  rw [if_neg h3, if_neg h3]
  obtain ⟨B, hB, rfl⟩ := beat_of h3
  obtain ⟨τ', v1, v2, v3⟩ := goTo_ok a b c hB
  rw [v1, bd_some]
  obtain ⟨r, σ2, w1, w2, w3⟩ := high_loop a b c hB v2 v3 nf 0 FU FU σ none (by omega) (by rw [FU_big]; omega) (by rw [FU_big]; omega) (SameC.rfl' σ) (fun f hf => by cases hf)
  rw [nI_0] at w1 w2
  exact ⟨r, σ2, τ', w1, w2, h.same w3 v2⟩
-- ===== planeFor =====
theorem plane_loop {τ : St} {h X : Nat} {x : Int64} (hx : x.toInt = X) (h1 : 1 ≤ h ∧ h ≤ 100000) : ∀ (p N : Nat), p ≤ 200 → p < N → fX7_planeFor_L55 N τ (nI h) x (nI p) = some (if min (X / h) p < 1 then -5 else nI (min (X / h) p), τ) := by
  intro p
  induction p with
  | zero =>
    intro N _ hN
    obtain ⟨N, rfl⟩ : ∃ z, N = z + 1 := ⟨N - 1, by omega⟩
    rw [fX7_planeFor_L55_s, if_pos (by rw [nI_0]; decide), if_pos (by omega)]
  | succ p ih =>
    intro N hp hN
    obtain ⟨N, rfl⟩ : ∃ z, N = z + 1 := ⟨N - 1, by omega⟩
    rw [fX7_planeFor_L55_s, if_neg (by rw [leI, nI_toInt (by omega)]; show ¬ ((((p + 1 : Nat)) : Int) ≤ 0); omega)]
    have hb : absI ((h : Int) * ((p + 1 : Nat) : Int)) (100000 * 200) := absI_mul (by unfold absI; omega) (by unfold absI; omega)
    unfold absI at hb
    have hm : ((nI h).toInt64 * (nI (p + 1)).toInt64).toInt = (h : Int) * ((p + 1 : Nat) : Int) := by
      rw [mulL, toL, toL, nI_toInt (by omega), nI_toInt (by omega)] <;> rw [toL, toL, nI_toInt (by omega), nI_toInt (by omega)] <;> omega
    have hiff : x < (nI h).toInt64 * (nI (p + 1)).toInt64 ↔ X / h < p + 1 := by
      rw [ltL, hm, hx, Nat.div_lt_iff_lt_mul (by omega), Nat.mul_comm (p + 1), ← Int.natCast_mul]
      omega
    by_cases g : x < (nI h).toInt64 * (nI (p + 1)).toInt64
    · rw [if_pos g]
      rw [hiff] at g
      have e : nI (p + 1) + (-1 : Int32) = nI p := by
        rw [eqI, addI, nI_toInt (by omega), nI_toInt (by omega)] <;> (try rw [nI_toInt (by omega)]) <;> (try rw [show (-1 : Int32).toInt = -1 from rfl]) <;> omega
      rw [e, ih N (by omega) (by omega), show min (X / h) (p + 1) = min (X / h) p by omega]
    · rw [if_neg g]
      rw [hiff] at g
      rw [show min (X / h) (p + 1) = p + 1 by omega, if_neg (by omega)]
theorem s_planeFor (x1 x2 x3 : Int32) : StS Rel (fun σ => fX6_planeFor σ x1 x2 x3) (fun τ => fX7_planeFor τ x1 x2 x3) := by
  intro σ τ bd h
  obtain ⟨D, nf, ft, lb, nm, mt, ns, a, b, c, d⟩ := id h
  show ∃ r σ' τ', fX6_planeFor σ x1 x2 x3 = some (r, σ') ∧ fX7_planeFor τ x1 x2 x3 = some (r, τ') ∧ Rel σ' τ' bd
  unfold fX6_planeFor fX7_planeFor
  rw [figAt b, noFig b, bd_some]
  have hn6 := b.1.2.2
  by_cases hx : ¬ (0 ≤ x1.toInt ∧ x1.toInt < nf)
  · rw [if_neg hx, if_neg hx, elim_none, if_neg (by decide)]
    exact ⟨_, σ, τ, rfl, rfl, h⟩
  have hx := Classical.not_not.mp hx
  rw [if_pos hx, if_pos hx, elim_some, if_pos rfl]
  obtain ⟨k, hk, rfl⟩ := toN hx.1 hx.2 (by omega)
  have hf := b.2.2.1 k hk
  have h8 := hf.2.2.1
  rw [ixN (by omega), isB, inR]
  by_cases h2 : fX7_isBeat x2 = 0
  · rw [if_pos h2, if_pos h2]; exact ⟨_, σ, τ, rfl, rfl, h⟩
  rw [if_neg h2, if_neg h2]
  by_cases h3 : fX7_in x3 0 100000 = 0
  · rw [if_pos h3, if_pos h3]; exact ⟨_, σ, τ, rfl, rfl, h⟩
  rw [if_neg h3, if_neg h3]
  obtain ⟨B, hB, rfl⟩ := beat_of h2
  rw [in_0] at h3
  have h3 : (0 : Int) ≤ x3.toInt ∧ x3.toInt ≤ 100000 := Classical.not_not.mp h3
  obtain ⟨z, hz, rfl⟩ := toN (x := x3) (n := 100001) h3.1 (by omega) (by decide)
  obtain ⟨⟨σ', u1, u2, u3, u4, u5⟩, ub⟩ := take_ok (t0 := 7) (B := B) b c hk (by decide) a.2.2 hB
  obtain ⟨τ', v1, v2, v3⟩ := goTo_ok a b c hB
  obtain ⟨w1, w2⟩ := v3 k hk
  have hp := pbd_of a b c hk hB
  obtain ⟨r, r1, r2⟩ := measure_M (by omega) h8 (by rw [v2 4 (by omega)]; exact hf.2.1) w2 hp 5
  have hle := mnP_le (fun i => (ptN τ k (bsA τ D k nm B) (lb k) i).2.1) (lb k)
  obtain ⟨m0, m1, m2, m3⟩ := msr_4 hp
  rw [msr5] at r2
  unfold absI at m2 m3
  have hD := a.2.2
  have hDi : (nI D).toInt = D := nI_toInt (by omega)
  have hb : absI (r.toInt * D) (6600 * 200) := absI_mul (by unfold absI; omega) (by unfold absI; omega)
  have hnn : 0 ≤ r.toInt * D := Int.mul_nonneg (by omega) (by omega)
  unfold absI at hb
  have hm : (r * (nI D).toInt64).toInt = r.toInt * D := by
    rw [mulL, toL, hDi] <;> rw [toL, hDi] <;> omega
  obtain ⟨X, hX⟩ : ∃ X : Nat, r.toInt * D = X := ⟨(r.toInt * D).toNat, by omega⟩
  rw [v1, bd_some, r1, bd_some, v2 0 (by decide), a.2.1]
  by_cases z0 : z = 0
  · subst z0
    rw [nI_0, if_pos rfl, a.1]
    refine ⟨nI D, σ, τ', rfl, ?_, h.same (SameC.rfl' σ) v2⟩
    rw [FU_big, fX7_planeFor_L55_s, if_neg (by rw [leI, hDi]; show ¬ ((D : Int) ≤ 0); omega), if_neg]
    rw [ltL, hm, show (0 : Int32).toInt64 = 0 from rfl, Int64.zero_mul]
    show ¬ (r.toInt * D < 0)
    omega
  · have zi : (nI z).toInt = z := nI_toInt (by omega)
    have hz0 : ¬ nI z = 0 := by
      rw [eqI, zi]
      show ¬ ((z : Int) = 0)
      omega
    rw [if_neg hz0, a.1, u1, bd_some, plane_loop (by rw [hm]; exact hX) ⟨by omega, by omega⟩ D FU (by omega) (by rw [FU_big]; omega)]
    unfold dvI
    rw [if_neg hz0, u2.1 0 (by decide), a.1]
    have hh : (fX2_height σ' 7).toInt = r.toInt := by
      rw [r2]
      unfold fX2_height
      rw [subI, u5.2.2.1, u5.2.2.2] <;> rw [u5.2.2.1, u5.2.2.2] <;> omega
    have hmC : (fX2_height σ' 7 * nI D).toInt = X := by
      rw [mulI, hh, hDi, hX] <;> rw [hh, hDi] <;> omega
    have hdv : (fX2_height σ' 7 * nI D / nI z).toInt = ((X / z : Nat) : Int) := by
      rw [divI (by rw [zi]; omega), hmC, zi, Int.tdiv_eq_ediv_of_nonneg (by omega)]
      rfl
    have hmn : (fJ9_min_7cf53 (fX2_height σ' 7 * nI D / nI z) (nI D)).toInt = ((min (X / z) D : Nat) : Int) := by
      rw [minI, hdv, hDi]; omega
    have hlt : (fJ9_min_7cf53 (fX2_height σ' 7 * nI D / nI z) (nI D) < (1 : Int32)) ↔ min (X / z) D < 1 := by
      rw [ltI, hmn]
      show ((min (X / z) D : Nat) : Int) < 1 ↔ _
      omega
    have hR := h.same (u2.sameC (by decide)) v2
    by_cases g : min (X / z) D < 1
    · rw [if_pos g, if_pos (hlt.mpr g)]
      exact ⟨_, σ', τ', rfl, rfl, hR⟩
    · rw [if_neg g, if_neg (fun q => g (hlt.mp q))]
      refine ⟨_, σ', τ', rfl, ?_, hR⟩
      congr 2
      rw [eqI, hmn, nI_toInt (by omega)]
