-- ===== the loops over the limbs =====
theorem lay_C {σ : St} {t0 t1 st en : Nat} {p : Int32} (h1 : st < 9) (h2 : en < 9) : ∃ σ', fX5_lay t0 t1 σ (nI st) (nI en) p = some σ' ∧ σ'.1 = σ.1 ∧ σ'.2.2 = σ.2.2 ∧ (∀ t, t ≠ t0 → σ'.2.1 t = σ.2.1 t) ∧ σ'.2.1 t0 0 = (σ.1 (t1 + 2) st).toInt64 * p.toInt64 ∧ σ'.2.1 t0 1 = (σ.1 (t1 + 3) st).toInt64 * p.toInt64 ∧ σ'.2.1 t0 2 = (σ.1 (t1 + 2) en).toInt64 * p.toInt64 ∧ σ'.2.1 t0 3 = (σ.1 (t1 + 3) en).toInt64 * p.toInt64 := by
  unfold fX5_lay fX5_lay_b15 fX5_lay_b30 fX5_lay_b45
  rw [grdN (by omega) (by omega), grdN (by omega) (by omega), grdN (by omega) (by omega), grdN (by omega) (by omega), ixN (by omega), ixN (by omega)]
  refine ⟨_, rfl, rfl, rfl, fun t ht => ?_, ?_, ?_, ?_, ?_⟩
  · funext j
    rw [rL, if_neg (by omega), rL, if_neg (by omega), rL, if_neg (by omega), rL, if_neg (by omega)]
  · rw [rL, if_neg (by omega), rL, if_neg (by omega), rL, if_neg (by omega), rL, if_pos ⟨rfl, rfl⟩]
  · rw [rL, if_neg (by omega), rL, if_neg (by omega), rL, if_pos ⟨rfl, rfl⟩]; rfl
  · rw [rL, if_neg (by omega), rL, if_pos ⟨rfl, rfl⟩]; rfl
  · rw [rL, if_pos ⟨rfl, rfl⟩]; rfl
theorem lay_M {τ : St} {w k i st : Nat} {p : Int64} (hw : w + 1 < 4) (hk : k < 6) (hi : i < 8) (hst : st ≤ 8) (e5 : τ.1 5 (8 * k + i) + (1 : Int32) = nI st) : ∃ τ', fX7_layEnds τ (nI w) (nI k) (nI i) p = some τ' ∧ τ'.1 = τ.1 ∧ τ'.2.1 16 = τ.2.1 16 ∧ τ'.2.1 17 = τ.2.1 17 ∧ (∀ z, z ≠ w → z ≠ w + 1 → τ'.2.1 19 z = τ.2.1 19 z ∧ τ'.2.1 20 z = τ.2.1 20 z) ∧ τ'.2.1 19 w = τ.2.1 16 (9 * k + st) * p ∧ τ'.2.1 20 w = τ.2.1 17 (9 * k + st) * p ∧ τ'.2.1 19 (w + 1) = τ.2.1 16 (9 * k + (i + 1)) * p ∧ τ'.2.1 20 (w + 1) = τ.2.1 17 (9 * k + (i + 1)) * p := by
  unfold fX7_layEnds fX7_layEnds_b46 fX7_layEnds_b62 fX7_layEnds_b80
  rw [e8ki, ixN (by omega), Int32.add_assoc ((9 : Int32) * nI k) (τ.1 5 (8 * k + i)), e5, e9ki, e9ki, show nI (9 * k + i) + (1 : Int32) = nI (9 * k + (i + 1)) from nI_1 _, show nI w + (1 : Int32) = nI (w + 1) from nI_1 w]
  rw [grdN (by omega) (by omega), grdN (by omega) (by omega), grdN (by omega) (by omega), grdN (by omega) (by omega), grdN (by omega) (by omega), grdN (by omega) (by omega), grdN (by omega) (by omega), grdN (by omega) (by omega), grdN (by omega) (by omega), ixN (by omega), ixN (by omega), ixN (by omega), ixN (by omega)]
  refine ⟨_, rfl, rfl, ?_, ?_, fun z h1 h2 => ?_, ?_, ?_, ?_, ?_⟩
  · funext j
    rw [rL, if_neg (by omega), rL, if_neg (by omega), rL, if_neg (by omega), rL, if_neg (by omega)]
  · funext j
    rw [rL, if_neg (by omega), rL, if_neg (by omega), rL, if_neg (by omega), rL, if_neg (by omega)]
  · rw [rL, if_neg (by omega), rL, if_neg (by omega), rL, if_neg (by omega), rL, if_neg (by omega), rL, if_neg (by omega), rL, if_neg (by omega), rL, if_neg (by omega), rL, if_neg (by omega)]
    exact ⟨rfl, rfl⟩
  · rw [rL, if_neg (by omega), rL, if_neg (by omega), rL, if_neg (by omega), rL, if_pos ⟨rfl, rfl⟩]
  · rw [rL, if_neg (by omega), rL, if_neg (by omega), rL, if_pos ⟨rfl, rfl⟩, rL, if_neg (by omega)]
  · rw [rL, if_neg (by omega), rL, if_pos ⟨rfl, rfl⟩, rL, if_neg (by omega), rL, if_neg (by omega)]
  · rw [rL, if_pos ⟨rfl, rfl⟩, rL, if_neg (by omega), rL, if_neg (by omega), rL, if_neg (by omega)]
theorem ptN_stable (τ : St) (k : Nat) (s : Bs) : ∀ (q m i : Nat), i ≤ m → ptN τ k s (m + q) i = ptN τ k s m i := by
  intro q
  induction q with
  | zero => intro m i _; rfl
  | succ q ih => intro m i hi; rw [← Nat.add_assoc, ptN_old _ _ _ _ _ (by omega)]; exact ih m i hi
theorem dir8_t {t : Int} (h0 : 0 ≤ t) (h1 : t ≤ 7) : dir8 (sx8 t) (sy8 t) := by
  rcases (show t = 0 ∨ t = 1 ∨ t = 2 ∨ t = 3 ∨ t = 4 ∨ t = 5 ∨ t = 6 ∨ t = 7 by omega) with rfl | rfl | rfl | rfl | rfl | rfl | rfl | rfl <;> unfold dir8 <;> decide
/-- a limb of a pose -/
theorem limb_pt {τ : St} {k n i : Nat} {s : Bs} (hn8 : n ≤ 8) (hl : ∀ j, j < n → Lm τ k j) (hi : i < n) : ∃ (st : Nat) (t len : Int), st ≤ i ∧ τ.1 5 (8 * k + i) + (1 : Int32) = nI st ∧ (1 ≤ len ∧ len ≤ 20) ∧ dir8 (sx8 t) (sy8 t) ∧ (ptN τ k s n (i + 1)).1 = (ptN τ k s n st).1 + len * sx8 t ∧ (ptN τ k s n (i + 1)).2.1 = (ptN τ k s n st).2.1 + len * sy8 t := by
  obtain ⟨⟨p1, p2⟩, ⟨p3, p4⟩, -⟩ := hl i hi
  have e1 : (1 : Int32).toInt = 1 := rfl
  have hadd : (τ.1 5 (8 * k + i) + (1 : Int32)).toInt = (τ.1 5 (8 * k + i)).toInt + 1 := by
    rw [addI, e1] <;> rw [e1] <;> omega
  obtain ⟨st, hst, est⟩ := toN (x := τ.1 5 (8 * k + i) + (1 : Int32)) (n := i + 1) (by omega) (by omega) (by omega)
  rw [est, nI_toInt (by omega)] at hadd
  have hnat : ((τ.1 5 (8 * k + i)).toInt + 1).toNat = st := by omega
  have h1 : ptN τ k s n (i + 1) = ptN τ k s (i + 1) (i + 1) := by
    rw [show n = (i + 1) + (n - (i + 1)) by omega]; exact ptN_stable τ k s _ _ _ (Nat.le_refl _)
  have h2 : ptN τ k s n st = ptN τ k s i st := by
    rw [show n = i + (n - i) by omega]; exact ptN_stable τ k s _ _ _ (by omega)
  refine ⟨st, ((ptN τ k s i st).2.2 + s.2.2.2 i) % 8, (τ.1 6 (8 * k + i)).toInt, by omega, est, ⟨p3, p4⟩, dir8_t (by omega) (by omega), ?_, ?_⟩
  · rw [h1, h2, ptN_new, hnat]; rfl
  · rw [h1, h2, ptN_new, hnat]; rfl
theorem SG_of {x0 y0 x1 y1 : Int64} {u v u' v' len p sx sy : Int} (h0 : x0.toInt = u * p) (h1 : y0.toInt = v * p) (h2 : x1.toInt = u' * p) (h3 : y1.toInt = v' * p) (e1 : u' = u + len * sx) (e2 : v' = v + len * sy) (b0 : absI u 3300) (b1 : absI v 3300) (b2 : absI u' 3300) (b3 : absI v' 3300) (hp : 1 ≤ p ∧ p ≤ 200) : SG x0 y0 x1 y1 (u * p) (v * p) (len * p) sx sy := by
  have hpb : absI p 200 := by unfold absI; omega
  have c0 := absI_mul b0 hpb
  have c1 := absI_mul b1 hpb
  have c2 := absI_mul b2 hpb
  have c3 := absI_mul b3 hpb
  refine ⟨⟨h0, h1, ?_, ?_⟩, ?_, ?_, ?_, ?_⟩
  · rw [h2, e1, Int.add_mul, Int.mul_assoc, Int.mul_comm sx p, ← Int.mul_assoc]
  · rw [h3, e2, Int.add_mul, Int.mul_assoc, Int.mul_comm sy p, ← Int.mul_assoc]
  · rw [h0]; exact c0
  · rw [h1]; exact c1
  · rw [h2]; exact c2
  · rw [h3]; exact c3
theorem mulT {x p : Int32} {u q : Int} (hx : x.toInt = u) (hp : p.toInt = q) (hu : absI u 3300) (hq : 1 ≤ q ∧ q ≤ 200) : (x.toInt64 * p.toInt64).toInt = u * q := by
  have h := absI_mul (B := 200) hu (show absI q 200 by unfold absI; omega)
  unfold absI at h
  rw [mulL, toL, toL, hx, hp] <;> rw [toL, toL, hx, hp] <;> omega
theorem mulT2 {x : Int64} {p : Int32} {u q : Int} (hx : x.toInt = u) (hp : p.toInt = q) (hu : absI u 3300) (hq : 1 ≤ q ∧ q ≤ 200) : (x * p.toInt64).toInt = u * q := by
  have h := absI_mul (B := 200) hu (show absI q 200 by unfold absI; omega)
  unfold absI at h
  rw [mulL, toL, hx, hp] <;> rw [toL, hx, hp] <;> omega
/-- two poses, in both worlds -/
def TP (σ τ τ' : St) (k k' n n' : Nat) (s s' : Bs) : Prop := ((σ.1 7 4).toInt = s.2.2.1 ∧ PT σ 7 (ptN τ k s n) n) ∧ ((σ.1 12 4).toInt = s'.2.2.1 ∧ PT σ 12 (ptN τ k' s' n') n') ∧ ((τ'.1 14 k).toInt = s.2.2.1 ∧ PM τ' k (ptN τ k s n) n) ∧ ((τ'.1 14 k').toInt = s'.2.2.1 ∧ PM τ' k' (ptN τ k' s' n') n')
theorem TP.congr {σ σ' τ τ' τ'' : St} {k k' n n' : Nat} {s s' : Bs} (h : TP σ τ τ' k k' n n' s s') (h1 : σ'.1 = σ.1) (h2 : τ''.1 = τ'.1) (h3 : τ''.2.1 16 = τ'.2.1 16) (h4 : τ''.2.1 17 = τ'.2.1 17) : TP σ' τ τ'' k k' n n' s s' := by
  unfold TP PT PM at *
  rw [h1, h2, h3, h4]
  exact h
/-- what stays fixed of two figures -/
def FX (σ τ τ' : St) (t t' k k' n n' : Nat) : Prop := (σ.1 t 7 = nI n ∧ σ.1 t' 7 = nI n') ∧ (∀ j, j < n → σ.1 (t + 1) j = τ.1 5 (8 * k + j)) ∧ (∀ j, j < n' → σ.1 (t' + 1) j = τ.1 5 (8 * k' + j)) ∧ τ'.1 4 k = nI n ∧ τ'.1 4 k' = nI n' ∧ τ'.1 5 = τ.1 5
theorem FX.congr {σ σ' τ τ' τ'' : St} {t t' k k' n n' : Nat} (h : FX σ τ τ' t t' k k' n n') (h1 : σ'.1 = σ.1) (h2 : τ''.1 = τ'.1) : FX σ' τ τ'' t t' k k' n n' := by
  unfold FX at *
  rw [h1, h2]
  exact h
def KCx (σ σ' τ τ' : St) : Prop := σ'.1 = σ.1 ∧ σ'.2.2 = σ.2.2 ∧ τ'.1 = τ.1 ∧ τ'.2.1 16 = τ.2.1 16 ∧ τ'.2.1 17 = τ.2.1 17
theorem KCx.trans {a b c d e f : St} (h : KCx a b d e) (g : KCx b c e f) : KCx a c d f := ⟨g.1.trans h.1, g.2.1.trans h.2.1, g.2.2.1.trans h.2.2.1, g.2.2.2.1.trans h.2.2.2.1, g.2.2.2.2.trans h.2.2.2.2⟩
theorem cross_in {τ : St} {t t' k k' n n' i : Nat} {s s' : Bs} (hk : k < 6) (hk' : k' < 6) (hn : n ≤ 8) (hn' : n' ≤ 8) (hi : i < n) (hl : ∀ j, j < n → Lm τ k j) (hl' : ∀ j, j < n' → Lm τ k' j) (hP : PBd (ptN τ k s n) n) (hQ : PBd (ptN τ k' s' n') n') (hp : 1 ≤ s.2.2.1 ∧ s.2.2.1 ≤ 200) (hq : 1 ≤ s'.2.2.1 ∧ s'.2.2.1 ≤ 200) (k13 : St → Int32 → Int32 → Option (Int32 × St)) (k5 : St → Int32 → Int32 → Int32 → Int32 → Option (Int32 × St)) {ax ay l sx sy : Int} (hl1 : 1 ≤ l) (hd : dir8 sx sy) (hA' : ∀ τ0 τ1 : St, TP τ0 τ τ1 k k' n n' s s' → τ1.1 5 = τ.1 5 → ∃ τ2, fX7_layEnds τ1 0 (nI k) (nI i) (τ1.1 14 k').toInt64 = some τ2 ∧ τ2.1 = τ1.1 ∧ τ2.2.1 16 = τ1.2.1 16 ∧ τ2.2.1 17 = τ1.2.1 17 ∧ SG (τ2.2.1 19 0) (τ2.2.1 20 0) (τ2.2.1 19 1) (τ2.2.1 20 1) ax ay l sx sy) : ∀ (q j N M : Nat) (σ1 τ1 : St) (acc : Int32), j + q = n' → q < N → q < M → TP σ1 τ τ1 k k' n n' s s' → FX σ1 τ τ1 t t' k k' n n' → SG (σ1.2.1 17 0) (σ1.2.1 17 1) (σ1.2.1 17 2) (σ1.2.1 17 3) ax ay l sx sy → ∃ r σ2 τ2, fX6_crossingLimbs_L53 t t' k13 N σ1 acc (nI i) (nI j) = k13 σ2 r (nI (i + 1)) ∧ fX7_crossingsNow_L19 k5 M τ1 (nI k) (nI k') acc (nI i) (nI j) = k5 τ2 (nI k) (nI k') r (nI (i + 1)) ∧ KCx σ1 σ2 τ1 τ2 := by
  intro q
  induction q with
  | zero =>
    intro j N M σ1 τ1 acc hj hN hM tp fx sg1
    obtain ⟨N, rfl⟩ : ∃ z, N = z + 1 := ⟨N - 1, by omega⟩
    obtain ⟨M, rfl⟩ : ∃ z, M = z + 1 := ⟨M - 1, by omega⟩
    have hj : j = n' := by omega
    subst hj
    rw [fX6_crossingLimbs_L53_s, fx.1.2, if_pos (Int32.le_refl _), fX7_crossingsNow_L19_s, grdN (by omega) (by omega), ixN (by omega), fx.2.2.2.2.1, if_pos (Int32.le_refl _), show nI i + (1 : Int32) = nI (i + 1) from nI_1 i]
    exact ⟨acc, σ1, τ1, rfl, rfl, rfl, rfl, rfl, rfl, rfl⟩
  | succ q ih =>
    intro j N M σ1 τ1 acc hj hN hM tp fx sg1
    obtain ⟨N, rfl⟩ : ∃ z, N = z + 1 := ⟨N - 1, by omega⟩
    obtain ⟨M, rfl⟩ : ∃ z, M = z + 1 := ⟨M - 1, by omega⟩
    have hjn : j < n' := by omega
    obtain ⟨st, td, len, g1, g2, g3, g4, g5, g6⟩ := limb_pt (s := s') hn' hl' hjn
    rw [fX6_crossingLimbs_L53_s, fx.1.2, if_neg (by rw [nI_leI (by omega) (by omega)]; omega)]
    unfold fX0_start
    rw [grdN (by omega) (by omega), bd_some, ixN (by omega), fx.2.2.1 j hjn, g2, show nI j + (1 : Int32) = nI (j + 1) from nI_1 j]
    obtain ⟨σ2, u1, u2, u3, u4, u5, u6, u7, u8⟩ := lay_C (σ := σ1) (t0 := 18) (t1 := 12) (st := st) (en := j + 1) (p := σ1.1 7 4) (by omega) (by omega)
    rw [u1, bd_some]
    obtain ⟨⟨w1, w2⟩, ⟨w3, w4⟩, ⟨w5, w6⟩, ⟨w7, w8⟩⟩ := id tp
    have q1 := w4 st (by omega)
    have q2 := w4 (j + 1) (by omega)
    have z1 := hQ st (by omega)
    have z2 := hQ (j + 1) (by omega)
    have hB : SG (σ2.2.1 18 0) (σ2.2.1 18 1) (σ2.2.1 18 2) (σ2.2.1 18 3) ((ptN τ k' s' n' st).1 * s.2.2.1) ((ptN τ k' s' n' st).2.1 * s.2.2.1) (len * s.2.2.1) (sx8 td) (sy8 td) := SG_of (by rw [u5]; exact mulT q1.1 w1 z1.1 hp) (by rw [u6]; exact mulT q1.2.1 w1 z1.2 hp) (by rw [u7]; exact mulT q2.1 w1 z2.1 hp) (by rw [u8]; exact mulT q2.2.1 w1 z2.2 hp) g5 g6 z1.1 z1.2 z2.1 z2.2 hp
    have hlm : 1 ≤ len * s.2.2.1 := by
      have := Int.mul_pos (show 0 < len by omega) (show 0 < s.2.2.1 by omega)
      omega
    have sg2 : SG (σ2.2.1 17 0) (σ2.2.1 17 1) (σ2.2.1 17 2) (σ2.2.1 17 3) ax ay l sx sy := by rw [u4 17 (by decide)]; exact sg1
    have hmC := meets_C sg2 hB hl1 hlm
    rw [fX7_crossingsNow_L19_s, grdN (by omega) (by omega), ixN (by omega), fx.2.2.2.2.1, if_neg (show ¬ nI n' ≤ nI j by rw [nI_leI (by omega) (by omega)]; omega), grdN (by omega) (by omega)]
    obtain ⟨τ2, v1, v2, v3, v4, v5⟩ := hA' σ1 τ1 tp fx.2.2.2.2.2
    rw [v1, bd_some, grdN (by omega) (by omega), ixN (by omega), v2]
    obtain ⟨τ3, y1, y2, y3, y4, y5, y6, y7, y8, y9⟩ := lay_M (τ := τ2) (w := 2) (k := k') (i := j) (st := st) (p := (τ1.1 14 k).toInt64) (by decide) hk' (by omega) (by omega) (by rw [v2, fx.2.2.2.2.2]; exact g2)
    have y1' : fX7_layEnds τ2 2 (nI k') (nI j) (τ1.1 14 k).toInt64 = some τ3 := y1
    rw [y1', bd_some]
    have m1 := w8 st (by omega)
    have m2 := w8 (j + 1) (by omega)
    have hB2 : SG (τ3.2.1 19 2) (τ3.2.1 20 2) (τ3.2.1 19 3) (τ3.2.1 20 3) ((ptN τ k' s' n' st).1 * s.2.2.1) ((ptN τ k' s' n' st).2.1 * s.2.2.1) (len * s.2.2.1) (sx8 td) (sy8 td) := SG_of (by rw [y6, v3]; exact mulT2 m1.1 w5 z1.1 hp) (by rw [y7, v4]; exact mulT2 m1.2.1 w5 z1.2 hp) (by rw [y8, v3]; exact mulT2 m2.1 w5 z2.1 hp) (by rw [y9, v4]; exact mulT2 m2.2.1 w5 z2.2 hp) g5 g6 z1.1 z1.2 z2.1 z2.2 hp
    have hA2 : SG (τ3.2.1 19 0) (τ3.2.1 20 0) (τ3.2.1 19 1) (τ3.2.1 20 1) ax ay l sx sy := by
      rw [(y5 0 (by decide) (by decide)).1, (y5 0 (by decide) (by decide)).2, (y5 1 (by decide) (by decide)).1, (y5 1 (by decide) (by decide)).2]; exact v5
    obtain ⟨rm, e1, e2⟩ := doMeet_M hA2 hB2 hl1 hlm
    rw [e1, bd_some]
    have hgeo := geo_all hd (sx8 td) (sy8 td) ((ptN τ k' s' n' st).1 * s.2.2.1 - ax) ((ptN τ k' s' n' st).2.1 * s.2.2.1 - ay) l (len * s.2.2.1) g4 hl1 hlm
    have hiff : fX5_meets σ2 17 18 = 0 ↔ rm = 0 := by rw [hmC, e2, hgeo]
    have kc : KCx σ1 σ2 τ1 τ3 := ⟨u2, u3, by rw [y2, v2], by rw [y3, v3], by rw [y4, v4]⟩
    have tp2 : TP σ2 τ τ3 k k' n n' s s' := tp.congr kc.1 kc.2.2.1 kc.2.2.2.1 kc.2.2.2.2
    have fx2 : FX σ2 τ τ3 t t' k k' n n' := fx.congr kc.1 kc.2.2.1
    unfold fX6_crossingLimbs_b107 fX7_crossingsNow_b73
    rw [show nI j + (1 : Int32) = nI (j + 1) from nI_1 j]
    by_cases c : rm = 0
    · rw [if_pos (hiff.mpr c), if_pos c, Int32.add_zero]
      obtain ⟨r, a1, a2, a3, a4, a5⟩ := ih (j + 1) N M σ2 τ3 acc (by omega) (by omega) (by omega) tp2 fx2 sg2
      exact ⟨r, a1, a2, a3, a4, kc.trans a5⟩
    · rw [if_neg (fun z => c (hiff.mp z)), if_neg c]
      obtain ⟨r, a1, a2, a3, a4, a5⟩ := ih (j + 1) N M σ2 τ3 (acc + 1) (by omega) (by omega) (by omega) tp2 fx2 sg2
      exact ⟨r, a1, a2, a3, a4, kc.trans a5⟩
theorem cross_out {τ : St} {t t' k k' n n' : Nat} {s s' : Bs} (hk : k < 6) (hk' : k' < 6) (hn : n ≤ 8) (hn' : n' ≤ 8) (hl : ∀ j, j < n → Lm τ k j) (hl' : ∀ j, j < n' → Lm τ k' j) (hP : PBd (ptN τ k s n) n) (hQ : PBd (ptN τ k' s' n') n') (hp : 1 ≤ s.2.2.1 ∧ s.2.2.1 ≤ 200) (hq : 1 ≤ s'.2.2.1 ∧ s'.2.2.1 ≤ 200) : ∀ (q i N M : Nat) (σ1 τ1 : St) (acc : Int32), i + q = n → q < N → q < M → TP σ1 τ τ1 k k' n n' s s' → FX σ1 τ τ1 t t' k k' n n' → ∃ r σ2 τ2, fX6_crossingLimbs_L13 t t' N σ1 acc (nI i) = some (r, σ2) ∧ fX7_crossingsNow_L5 M τ1 (nI k) (nI k') acc (nI i) = some (r, τ2) ∧ KCx σ1 σ2 τ1 τ2 := by
  intro q
  induction q with
  | zero =>
    intro i N M σ1 τ1 acc hi hN hM tp fx
    obtain ⟨N, rfl⟩ : ∃ z, N = z + 1 := ⟨N - 1, by omega⟩
    obtain ⟨M, rfl⟩ : ∃ z, M = z + 1 := ⟨M - 1, by omega⟩
    have hi : i = n := by omega
    subst hi
    rw [fX6_crossingLimbs_L13_s, fx.1.1, if_pos (Int32.le_refl _), fX7_crossingsNow_L5_s, grdN (by omega) (by omega), ixN (by omega), fx.2.2.2.1, if_pos (Int32.le_refl _)]
    exact ⟨acc, σ1, τ1, rfl, rfl, rfl, rfl, rfl, rfl, rfl⟩
  | succ q ih =>
    intro i N M σ1 τ1 acc hi hN hM tp fx
    obtain ⟨N, rfl⟩ : ∃ z, N = z + 1 := ⟨N - 1, by omega⟩
    obtain ⟨M, rfl⟩ : ∃ z, M = z + 1 := ⟨M - 1, by omega⟩
    have hin : i < n := by omega
    obtain ⟨st, td, len, g1, g2, g3, g4, g5, g6⟩ := limb_pt (s := s) hn hl hin
    rw [fX6_crossingLimbs_L13_s, fx.1.1, if_neg (by rw [nI_leI (by omega) (by omega)]; omega)]
    unfold fX0_start
    rw [grdN (by omega) (by omega), bd_some, ixN (by omega), fx.2.1 i hin, g2, show nI i + (1 : Int32) = nI (i + 1) from nI_1 i]
    obtain ⟨σ2, u1, u2, u3, u4, u5, u6, u7, u8⟩ := lay_C (σ := σ1) (t0 := 17) (t1 := 7) (st := st) (en := i + 1) (p := σ1.1 12 4) (by omega) (by omega)
    rw [u1, bd_some]
    obtain ⟨⟨w1, w2⟩, ⟨w3, w4⟩, ⟨w5, w6⟩, ⟨w7, w8⟩⟩ := id tp
    have q1 := w2 st (by omega)
    have q2 := w2 (i + 1) (by omega)
    have z1 := hP st (by omega)
    have z2 := hP (i + 1) (by omega)
    have hA : SG (σ2.2.1 17 0) (σ2.2.1 17 1) (σ2.2.1 17 2) (σ2.2.1 17 3) ((ptN τ k s n st).1 * s'.2.2.1) ((ptN τ k s n st).2.1 * s'.2.2.1) (len * s'.2.2.1) (sx8 td) (sy8 td) := SG_of (by rw [u5]; exact mulT q1.1 w3 z1.1 hq) (by rw [u6]; exact mulT q1.2.1 w3 z1.2 hq) (by rw [u7]; exact mulT q2.1 w3 z2.1 hq) (by rw [u8]; exact mulT q2.2.1 w3 z2.2 hq) g5 g6 z1.1 z1.2 z2.1 z2.2 hq
    have hlm : 1 ≤ len * s'.2.2.1 := by
      have := Int.mul_pos (show 0 < len by omega) (show 0 < s'.2.2.1 by omega)
      omega
    rw [fX7_crossingsNow_L5_s, grdN (by omega) (by omega), ixN (by omega), fx.2.2.2.1, if_neg (show ¬ nI n ≤ nI i by rw [nI_leI (by omega) (by omega)]; omega)]
    have tp2 : TP σ2 τ τ1 k k' n n' s s' := tp.congr u2 rfl rfl rfl
    have fx2 : FX σ2 τ τ1 t t' k k' n n' := fx.congr u2 rfl
    obtain ⟨r, σ3, τ3, a1, a2, a3⟩ := cross_in (t := t) (t' := t') (i := i) hk hk' hn hn' hin hl hl' hP hQ hp hq (fX6_crossingLimbs_L13 t t' N) (fX7_crossingsNow_L5 M) hlm g4 (by
      intro τ0 τ1' tp0 e5
      obtain ⟨τ2, y1, y2, y3, y4, y5, y6, y7, y8, y9⟩ := lay_M (τ := τ1') (w := 0) (k := k) (i := i) (st := st) (p := (τ1'.1 14 k').toInt64) (by decide) hk (by omega) (by omega) (by rw [e5]; exact g2)
      obtain ⟨-, -, ⟨x5, x6⟩, ⟨x7, x8⟩⟩ := tp0
      have m1 := x6 st (by omega)
      have m2 := x6 (i + 1) (by omega)
      exact ⟨τ2, y1, y2, y3, y4, SG_of (by rw [y6]; exact mulT2 m1.1 x7 z1.1 hq) (by rw [y7]; exact mulT2 m1.2.1 x7 z1.2 hq) (by rw [y8]; exact mulT2 m2.1 x7 z2.1 hq) (by rw [y9]; exact mulT2 m2.2.1 x7 z2.2 hq) g5 g6 z1.1 z1.2 z2.1 z2.2 hq⟩) n' 0 FU FU σ2 τ1 acc (by omega) (by rw [FU_big]; omega) (by rw [FU_big]; omega) tp2 fx2 hA
    rw [nI_0] at a1 a2
    rw [a1, a2]
    have tp3 : TP σ3 τ τ3 k k' n n' s s' := tp2.congr a3.1 a3.2.2.1 a3.2.2.2.1 a3.2.2.2.2
    have fx3 : FX σ3 τ τ3 t t' k k' n n' := fx2.congr a3.1 a3.2.2.1
    obtain ⟨r', b1, b2, b3, b4, b5⟩ := ih (i + 1) N M σ3 τ3 r (by omega) (by omega) (by omega) tp3 fx3
    have kc : KCx σ1 σ2 τ1 τ1 := ⟨u2, u3, rfl, rfl, rfl⟩
    exact ⟨r', b1, b2, b3, b4, (kc.trans a3).trans b5⟩
