-- ===== the class's pose =====
theorem BsB.mono {D n m m' : Nat} {s : Bs} (h : BsB D n s m) (hm : m ≤ m') : BsB D n s m' := by
  obtain ⟨a, b, c, d⟩ := h
  unfold absI at a b d
  refine ⟨?_, ?_, c, fun i hi => ?_⟩
  · unfold absI; omega
  · unfold absI; omega
  · have := d i hi; unfold absI; omega
theorem nI_eqN {a b : Nat} (h1 : a < 2 ^ 31) (h2 : b < 2 ^ 31) : nI a = nI b ↔ a = b := by
  rw [eqI, nI_toInt h1, nI_toInt h2]
  omega
theorem divI {x y : Int32} (h : 0 < y.toInt) : (x / y).toInt = x.toInt.tdiv y.toInt := by
  rw [Int32.toInt_div]
  have hx := rngI x
  have h1 : (x.toInt.tdiv y.toInt).natAbs ≤ x.toInt.natAbs := Int.natAbs_tdiv_le_natAbs _ _
  by_cases hm : x.toInt = -2147483648
  · by_cases h0 : 0 ≤ x.toInt.tdiv y.toInt
    · have : x.toInt.tdiv y.toInt ≤ 0 := by
        rw [hm, show (-2147483648 : Int) = -(2147483648 : Int) from rfl, Int.neg_tdiv, Int.tdiv_eq_ediv_of_nonneg (by decide)]
        have : 0 ≤ (2147483648 : Int) / y.toInt := Int.ediv_nonneg (by decide) (by omega)
        omega
      exact bmI (by omega) (by omega)
    · exact bmI (by omega) (by omega)
  · exact bmI (by omega) (by omega)
theorem rem8 (x : Int32) : (x - x / (8 : Int32) * (8 : Int32)).toInt = if 0 ≤ x.toInt then x.toInt % 8 else -((-x.toInt) % 8) := by
  have hx := rngI x
  have e8 : (8 : Int32).toInt = 8 := rfl
  have hd : (x / (8 : Int32)).toInt = if 0 ≤ x.toInt then x.toInt / 8 else -((-x.toInt) / 8) := by
    rw [divI (by rw [e8]; decide), e8]
    by_cases h : 0 ≤ x.toInt
    · rw [if_pos h, Int.tdiv_eq_ediv_of_nonneg h]
    · rw [if_neg h]
      have := Int.neg_tdiv (-x.toInt) 8
      rw [Int.neg_neg, Int.tdiv_eq_ediv_of_nonneg (a := -x.toInt) (by omega)] at this
      exact this
  have hm : (x / (8 : Int32) * (8 : Int32)).toInt = (x / (8 : Int32)).toInt * 8 := by
    rw [mulI, e8] <;> rw [e8, hd] <;> split <;> omega
  rw [subI, hm, hd] <;> (try rw [hm, hd]) <;> split <;> omega
theorem xor8 (x : Int32) : 0 ≤ (x ^^^ (8 : Int32)) ↔ 0 ≤ x.toInt := by
  rw [leI]
  show (0 : Int) ≤ (x.toBitVec ^^^ 8#32).toInt ↔ 0 ≤ x.toBitVec.toInt
  have h1 := BitVec.msb_eq_toInt (x := x.toBitVec ^^^ 8#32)
  have h2 := BitVec.msb_eq_toInt (x := x.toBitVec)
  rw [BitVec.msb_xor, h2, show (8#32).msb = false from rfl, Bool.xor_false] at h1
  have := decide_eq_decide.mp h1
  omega
theorem floorMod8 (x : Int32) : ∃ w, w < 8 ∧ fJ9_floorMod_7cf53 x (8 : Int32) = some (nI w) ∧ (w : Int) = x.toInt % 8 := by
  have hr := rem8 x
  unfold fJ9_floorMod_7cf53 dvI
  rw [if_neg (by decide)]
  by_cases h : 0 ≤ x.toInt
  · rw [if_pos ((xor8 x).mpr h)]
    rw [if_pos h] at hr
    refine ⟨(x.toInt % 8).toNat, by omega, ?_, by omega⟩
    congr 1
    rw [eqI, hr, nI_toInt (by omega)]
    omega
  · rw [if_neg (fun q => h ((xor8 x).mp q))]
    rw [if_neg h] at hr
    by_cases h2 : (x - x / (8 : Int32) * (8 : Int32)) = 0
    · rw [if_pos h2]
      rw [eqI, hr] at h2
      have h2 : -((-x.toInt) % 8) = 0 := h2
      refine ⟨0, by omega, ?_, by omega⟩
      congr 1
      rw [eqI, hr, h2]; rfl
    · rw [if_neg h2]
      rw [eqI, hr] at h2
      have h2 : ¬ -((-x.toInt) % 8) = 0 := h2
      refine ⟨(x.toInt % 8).toNat, by omega, ?_, by omega⟩
      congr 1
      have e8 : (8 : Int32).toInt = 8 := rfl
      rw [eqI, nI_toInt (by omega), addI, hr, e8] <;> (try rw [hr, e8]) <;> omega
theorem stX_e {w : Nat} (h : w < 8) : (stX w).toInt = sx8 w := by
  rcases (show w = 0 ∨ w = 1 ∨ w = 2 ∨ w = 3 ∨ w = 4 ∨ w = 5 ∨ w = 6 ∨ w = 7 by omega) with rfl | rfl | rfl | rfl | rfl | rfl | rfl | rfl <;> decide
theorem stY_e {w : Nat} (h : w < 8) : (stY w).toInt = sy8 w := by
  rcases (show w = 0 ∨ w = 1 ∨ w = 2 ∨ w = 3 ∨ w = 4 ∨ w = 5 ∨ w = 6 ∨ w = 7 by omega) with rfl | rfl | rfl | rfl | rfl | rfl | rfl | rfl <;> decide
theorem sx8_3 (t : Int) : sx8 t = 0 ∨ sx8 t = 1 ∨ sx8 t = -1 := by unfold sx8; split <;> (try split) <;> simp
theorem sy8_3 (t : Int) : sy8 t = 0 ∨ sy8 t = 1 ∨ sy8 t = -1 := by unfold sy8; split <;> (try split) <;> simp
theorem mul3 {a s : Int} (h : s = 0 ∨ s = 1 ∨ s = -1) (h1 : 1 ≤ a) (h2 : a ≤ 20) : -20 ≤ a * s ∧ a * s ≤ 20 := by
  rcases h with rfl | rfl | rfl <;> omega
theorem ptN_b {τ : St} {k n : Nat} {s : Bs} (hl : ∀ j, j < n → Lm τ k j) (h1 : absI s.1 3100) (h2 : absI s.2.1 3100) : ∀ m, m ≤ n → ∀ i, i ≤ m → absI (ptN τ k s m i).1 (3100 + 20 * m) ∧ absI (ptN τ k s m i).2.1 (3100 + 20 * m) ∧ 0 ≤ (ptN τ k s m i).2.2 ∧ (ptN τ k s m i).2.2 ≤ 7 := by
  intro m
  induction m with
  | zero =>
    intro _ i _
    unfold absI at *
    show (-(3100 + 20 * ((0 : Nat) : Int)) ≤ s.1 ∧ s.1 ≤ _) ∧ (_ ≤ s.2.1 ∧ s.2.1 ≤ _) ∧ (0 : Int) ≤ 0 ∧ (0 : Int) ≤ 7
    omega
  | succ m ih =>
    intro hm i hi
    by_cases e : i = m + 1
    · subst e
      rw [ptN_new]
      obtain ⟨⟨p1, p2⟩, ⟨p3, p4⟩, -⟩ := hl m (by omega)
      have g := ih (by omega) ((τ.1 5 (8 * k + m)).toInt + 1).toNat (by omega)
      generalize ptN τ k s m ((τ.1 5 (8 * k + m)).toInt + 1).toNat = q at g
      unfold absI at g ⊢
      unfold ptS
      dsimp only
      have a1 := mul3 (sx8_3 ((q.2.2 + s.2.2.2 m) % 8)) p3 p4
      have a2 := mul3 (sy8_3 ((q.2.2 + s.2.2.2 m) % 8)) p3 p4
      omega
    · rw [ptN_old _ _ _ _ _ (by omega)]
      have g := ih (by omega) i (by omega)
      unfold absI at g ⊢
      omega
def PT (σ : St) (t0 : Nat) (P : Nat → Int × Int × Int) (m : Nat) : Prop := ∀ i, i ≤ m → (σ.1 (t0 + 2) i).toInt = (P i).1 ∧ (σ.1 (t0 + 3) i).toInt = (P i).2.1 ∧ (σ.1 (t0 + 4) i).toInt = (P i).2.2
theorem lay_loop {σ0 τ : St} {t0 t k n : Nat} {s : Bs} (hf : Fg σ0 τ t k n) (ht : 19 ≤ t) (h0 : t0 + 5 ≤ 17) (hs1 : absI s.1 3100) (hs2 : absI s.2.1 3100) (hs3 : ∀ i, i < n → absI (s.2.2.2 i) 500) : ∀ (q m N : Nat) (σ : St), m + q = n → q < N → Fr t0 σ0 σ → σ.1 t0 = σ0.1 t0 → (∀ i, i < n → (σ.1 (t0 + 1) i).toInt = s.2.2.2 i) → PT σ t0 (ptN τ k s m) m → ∃ σ', fX2_layPoints_L2 t0 t N σ (nI m) = some σ' ∧ Fr t0 σ0 σ' ∧ σ'.1 t0 = σ0.1 t0 ∧ PT σ' t0 (ptN τ k s n) n := by
  have hn8 := hf.2.2.1
  have hl : ∀ j, j < n → Lm τ k j := fun j hj => (hf.2.2.2.2 j hj).2
  intro q
  induction q with
  | zero =>
    intro m N σ hm hN fr r0 rd pt
    obtain ⟨N, rfl⟩ : ∃ z, N = z + 1 := ⟨N - 1, by omega⟩
    have hm : m = n := by omega
    subst hm
    rw [fX2_layPoints_L2_s, fr.1 t (by omega), hf.1.2.2.2.2, if_pos (Int32.le_refl _)]
    exact ⟨σ, rfl, fr, r0, pt⟩
  | succ q ih =>
    intro m N σ hm hN fr r0 rd pt
    obtain ⟨N, rfl⟩ : ∃ z, N = z + 1 := ⟨N - 1, by omega⟩
    have hmn : m < n := by omega
    rw [fX2_layPoints_L2_s, fr.1 t (by omega), hf.1.2.2.2.2, if_neg (by rw [nI_leI (by omega) (by omega)]; omega)]
    unfold fX0_start
    rw [grdN (by omega) (by omega), bd_some, ixN (by omega), fr.1 (t + 1) (by omega)]
    obtain ⟨⟨l1, l2, l3⟩, ⟨⟨p1, p2⟩, ⟨p3, p4⟩, -⟩⟩ := hf.2.2.2.2 m hmn
    rw [l1]
    have e1 : (1 : Int32).toInt = 1 := rfl
    have hadd : (τ.1 5 (8 * k + m) + (1 : Int32)).toInt = (τ.1 5 (8 * k + m)).toInt + 1 := by
      rw [addI, e1] <;> rw [e1] <;> omega
    obtain ⟨st, hst, est⟩ := toN (x := τ.1 5 (8 * k + m) + (1 : Int32)) (n := m + 1) (by omega) (by omega) (by omega)
    rw [est]
    rw [est, nI_toInt (by omega)] at hadd
    have hnat : ((τ.1 5 (8 * k + m)).toInt + 1).toNat = st := by omega
    rw [grdN (by omega) (by omega), grdN (by omega) (by omega), ixN (by omega)]
    obtain ⟨w, hw, ew, ew2⟩ := floorMod8 (σ.1 (t0 + 4) st + σ.1 (t0 + 1) m)
    rw [ew, bd_some, show nI m + (1 : Int32) = nI (m + 1) from nI_1 m, grdN (by omega) (by omega), ixN (by omega)]
    unfold fX2_layPoints_b50 fX2_layPoints_b77 fX2_layPoints_b104
    rw [grdN (by omega) (by omega), grdN (by omega) (by omega), grdN (by omega) (by omega), grdN (by omega) (by omega), grdN (by omega) (by omega), grdN (by omega) (by omega), grdN (by omega) (by omega), grdN (by omega) (by omega)]
    rw [ixN (by omega), ixN (by omega), ixN (by omega), ixN (by omega), show nI m + (1 : Int32) = nI (m + 1) from nI_1 m]
    have hpb := ptN_b hl hs1 hs2 m (by omega) st (by omega)
    obtain ⟨g1, g2, g3⟩ := pt st (by omega)
    have gd := rd m hmn
    have gb := hs3 m hmn
    unfold absI at gb hpb
    rw [addI (by omega) (by omega), g3, gd] at ew2
    have hlen : σ.1 (t + 2) m = τ.1 6 (8 * k + m) := by rw [fr.1 (t + 2) (by omega), l2]
    simp only [rI, show ¬ (t0 + 2 = t0 + 4) by omega, show ¬ (t + 2 = t0 + 4) by omega, show ¬ (t0 + 3 = t0 + 2) by omega, show ¬ (t0 + 3 = t0 + 4) by omega, show ¬ (t + 2 = t0 + 2) by omega, false_and, if_false, hlen]
    have a1 := mul3 (sx8_3 w) p3 p4
    have a2 := mul3 (sy8_3 w) p3 p4
    have hX : (σ.1 (t0 + 2) st + τ.1 6 (8 * k + m) * stX w).toInt = (ptN τ k s m st).1 + (τ.1 6 (8 * k + m)).toInt * sx8 w := by
      have hmul : (τ.1 6 (8 * k + m) * stX w).toInt = (τ.1 6 (8 * k + m)).toInt * sx8 w := by
        rw [mulI, stX_e hw] <;> rw [stX_e hw] <;> omega
      rw [addI, hmul, g1] <;> rw [hmul, g1] <;> omega
    have hY : (σ.1 (t0 + 3) st + τ.1 6 (8 * k + m) * stY w).toInt = (ptN τ k s m st).2.1 + (τ.1 6 (8 * k + m)).toInt * sy8 w := by
      have hmul : (τ.1 6 (8 * k + m) * stY w).toInt = (τ.1 6 (8 * k + m)).toInt * sy8 w := by
        rw [mulI, stY_e hw] <;> rw [stY_e hw] <;> omega
      rw [addI, hmul, g2] <;> rw [hmul, g2] <;> omega
    generalize σ.1 (t0 + 2) st + τ.1 6 (8 * k + m) * stX w = VX at hX
    generalize σ.1 (t0 + 3) st + τ.1 6 (8 * k + m) * stY w = VY at hY
    refine ih (m + 1) N _ (by omega) (by omega) (((fr.wI (by omega)).wI (by omega)).wI (by omega)) ?_ ?_ ?_
    · rw [rIr _ _ _ _ _ (by omega), rIr _ _ _ _ _ (by omega), rIr _ _ _ _ _ (by omega)]; exact r0
    · intro i hi
      rw [rIr _ _ _ _ _ (by omega), rIr _ _ _ _ _ (by omega), rIr _ _ _ _ _ (by omega)]; exact rd i hi
    · intro i hi
      by_cases e : i = m + 1
      · subst e
        rw [ptN_new, hnat]
        unfold ptS
        dsimp only
        rw [← ew2, ← hX, ← hY]
        refine ⟨?_, ?_, ?_⟩
        · rw [rI, if_neg (by omega), rI, if_pos ⟨rfl, rfl⟩]
        · rw [rI, if_pos ⟨rfl, rfl⟩]
        · rw [rI, if_neg (by omega), rI, if_neg (by omega), rI, if_pos ⟨rfl, rfl⟩, nI_toInt (by omega)]
      · rw [ptN_old _ _ _ _ _ (by omega), rI, if_neg (by omega), rI, if_neg (by omega), rI, if_neg (by omega), rI, if_neg (by omega), rI, if_neg (by omega), rI, if_neg (by omega), rI, if_neg (by omega), rI, if_neg (by omega), rI, if_neg (by omega)]
        exact pt i (by omega)
-- the box
def mnP (f : Nat → Int) : Nat → Int
  | 0 => f 0
  | n + 1 => min (mnP f n) (f (n + 1))
def mxP (f : Nat → Int) : Nat → Int
  | 0 => f 0
  | n + 1 => max (mxP f n) (f (n + 1))
def BX (σ : St) (t0 : Nat) (P : Nat → Int × Int × Int) (m : Nat) : Prop := (σ.1 t0 5).toInt = mnP (fun i => (P i).1) m ∧ (σ.1 t0 6).toInt = mxP (fun i => (P i).1) m ∧ (σ.1 t0 7).toInt = mnP (fun i => (P i).2.1) m ∧ (σ.1 t0 8).toInt = mxP (fun i => (P i).2.1) m
theorem box_loop {σ0 : St} {t0 n : Nat} {P : Nat → Int × Int × Int} (hn : n ≤ 8) : ∀ (q m N : Nat) (σ : St), m + q = n → q < N → Fr t0 σ0 σ → (∀ t, t ≠ t0 → σ.1 t = σ0.1 t) → σ.1 t0 4 = σ0.1 t0 4 → PT σ t0 P n → BX σ t0 P m → ∃ σ', fX2_layBox_L42 t0 N σ (nI n) (nI (m + 1)) = some σ' ∧ Fr t0 σ0 σ' ∧ σ'.1 t0 4 = σ0.1 t0 4 ∧ PT σ' t0 P n ∧ BX σ' t0 P n := by
  intro q
  induction q with
  | zero =>
    intro m N σ hm hN fr ro r4 pt bx
    obtain ⟨N, rfl⟩ : ∃ z, N = z + 1 := ⟨N - 1, by omega⟩
    have hm : m = n := by omega
    subst hm
    rw [fX2_layBox_L42_s, if_pos (by rw [nI_ltI (by omega) (by omega)]; omega)]
    exact ⟨σ, rfl, fr, r4, pt, bx⟩
  | succ q ih =>
    intro m N σ hm hN fr ro r4 pt bx
    obtain ⟨N, rfl⟩ : ∃ z, N = z + 1 := ⟨N - 1, by omega⟩
    rw [fX2_layBox_L42_s, if_neg (by rw [nI_ltI (by omega) (by omega)]; omega)]
    unfold fX2_layBox_b64 fX2_layBox_b81 fX2_layBox_b98 fX2_layBox_b115
    rw [grdN (by omega) (by omega), grdN (by omega) (by omega), grdN (by omega) (by omega), grdN (by omega) (by omega), ixN (by omega), show nI (m + 1) + (1 : Int32) = nI (m + 1 + 1) from nI_1 (m + 1)]
    simp only [rI, show ¬ (t0 + 2 = t0) by omega, show ¬ (t0 + 3 = t0) by omega, false_and, if_false, true_and, show ¬ ((6 : Nat) = 5) by decide, show ¬ ((7 : Nat) = 5) by decide, show ¬ ((7 : Nat) = 6) by decide, show ¬ ((8 : Nat) = 5) by decide, show ¬ ((8 : Nat) = 6) by decide, show ¬ ((8 : Nat) = 7) by decide]
    obtain ⟨b1, b2, b3, b4⟩ := bx
    obtain ⟨g1, g2, g3⟩ := pt (m + 1) (by omega)
    refine ih (m + 1) N _ (by omega) (by omega) ((((fr.wI (by omega)).wI (by omega)).wI (by omega)).wI (by omega)) ?_ ?_ ?_ ?_
    · intro z hz
      rw [rIr _ _ _ _ _ hz, rIr _ _ _ _ _ hz, rIr _ _ _ _ _ hz, rIr _ _ _ _ _ hz]; exact ro z hz
    · rw [rI, if_neg (by omega), rI, if_neg (by omega), rI, if_neg (by omega), rI, if_neg (by omega)]; exact r4
    · intro i hi
      rw [rIr _ _ _ _ _ (by omega), rIr _ _ _ _ _ (by omega), rIr _ _ _ _ _ (by omega), rIr _ _ _ _ _ (by omega), rIr _ _ _ _ _ (by omega), rIr _ _ _ _ _ (by omega), rIr _ _ _ _ _ (by omega), rIr _ _ _ _ _ (by omega), rIr _ _ _ _ _ (by omega), rIr _ _ _ _ _ (by omega), rIr _ _ _ _ _ (by omega), rIr _ _ _ _ _ (by omega)]
      exact pt i hi
    · refine ⟨?_, ?_, ?_, ?_⟩
      · rw [rI, if_neg (by omega), rI, if_neg (by omega), rI, if_neg (by omega), rI, if_pos ⟨rfl, rfl⟩, minI, b1, g1]; rfl
      · rw [rI, if_neg (by omega), rI, if_neg (by omega), rI, if_pos ⟨rfl, rfl⟩, maxI, b2, g1]; rfl
      · rw [rI, if_neg (by omega), rI, if_pos ⟨rfl, rfl⟩, minI, b3, g2]; rfl
      · rw [rI, if_pos ⟨rfl, rfl⟩, maxI, b4, g2]; rfl
theorem box_ok {σ : St} {t0 n : Nat} {P : Nat → Int × Int × Int} (hn : n ≤ 8) (pt : PT σ t0 P n) : ∃ σ', fX2_layBox t0 σ (nI n) = some σ' ∧ Fr t0 σ σ' ∧ σ'.1 t0 4 = σ.1 t0 4 ∧ PT σ' t0 P n ∧ BX σ' t0 P n := by
  unfold fX2_layBox fX2_layBox_b10 fX2_layBox_b20 fX2_layBox_b30 fX2_layBox_b40
  rw [ix0]
  simp only [rI, show ¬ (t0 + 2 = t0) by omega, show ¬ (t0 + 3 = t0) by omega, false_and, if_false]
  obtain ⟨g1, g2, g3⟩ := pt 0 (by omega)
  refine box_loop hn n 0 FU _ (by omega) (by rw [FU_big]; omega) (((((show Fr t0 σ σ from ⟨fun _ _ => rfl, rfl⟩).wI (by omega)).wI (by omega)).wI (by omega)).wI (by omega)) ?_ ?_ ?_ ?_
  · intro z hz
    rw [rIr _ _ _ _ _ hz, rIr _ _ _ _ _ hz, rIr _ _ _ _ _ hz, rIr _ _ _ _ _ hz]
  · rw [rI, if_neg (by omega), rI, if_neg (by omega), rI, if_neg (by omega), rI, if_neg (by omega)]
  · intro i hi
    rw [rIr _ _ _ _ _ (by omega), rIr _ _ _ _ _ (by omega), rIr _ _ _ _ _ (by omega), rIr _ _ _ _ _ (by omega), rIr _ _ _ _ _ (by omega), rIr _ _ _ _ _ (by omega), rIr _ _ _ _ _ (by omega), rIr _ _ _ _ _ (by omega), rIr _ _ _ _ _ (by omega), rIr _ _ _ _ _ (by omega), rIr _ _ _ _ _ (by omega), rIr _ _ _ _ _ (by omega)]
    exact pt i hi
  · refine ⟨?_, ?_, ?_, ?_⟩
    · rw [rI, if_neg (by omega), rI, if_neg (by omega), rI, if_neg (by omega), rI, if_pos ⟨rfl, rfl⟩, g1]; rfl
    · rw [rI, if_neg (by omega), rI, if_neg (by omega), rI, if_pos ⟨rfl, rfl⟩, g1]; rfl
    · rw [rI, if_neg (by omega), rI, if_pos ⟨rfl, rfl⟩, g2]; rfl
    · rw [rI, if_pos ⟨rfl, rfl⟩, g2]; rfl

-- the moves up to a beat
theorem take_loop {σ0 τ : St} {bd D nf : Nat} {ft lb : Nat → Nat} {nm : Nat} {mt : Nat → Nat} {t0 k B : Nat} (b : RF σ0 τ nf ft lb bd) (c : RM σ0 τ nm mt nf ft lb bd) (hk : k < nf) (h0 : t0 + 5 ≤ 17) (hD : 10 ≤ D ∧ D ≤ 200) (hB : B < 100) : ∀ (q i N : Nat) (σ : St), i + q = 60 → i ≤ (seg (bt τ) nm 0 (B + 1)).length → q < N → Fr t0 σ0 σ → PB σ t0 (lb k) ((mvK τ k ((seg (bt τ) nm 0 (B + 1)).take i)).foldl (bst τ D) (bs0 τ D k)) → BsB D (lb k) ((mvK τ k ((seg (bt τ) nm 0 (B + 1)).take i)).foldl (bst τ D) (bs0 τ D k)) i → ∃ σ', fX2_take_L21 t0 (ft k) N σ (nI B) (nI D) 60 (nI i) = fX2_take_b78 t0 (ft k) σ' ∧ Fr t0 σ0 σ' ∧ PB σ' t0 (lb k) (bsA τ D k nm B) ∧ BsB D (lb k) (bsA τ D k nm B) 60 := by
  have hS := srt_split (bt τ) nm B hB
  have hlen : (srt (bt τ) nm).length = nm := srt_len nm (fun j hj => by
    obtain ⟨b', h1, -, h3, -⟩ := (c.2.2.1 j hj).beat; rw [h3]; exact h1)
  have hA60 : (seg (bt τ) nm 0 (B + 1)).length ≤ 60 := by
    have := c.1.2.2
    rw [hS, List.length_append] at hlen
    omega
  have hn6 := b.1.2.2
  have hn8 := (b.2.2.1 k hk).2.2.1
  intro q
  induction q with
  | zero =>
    intro i N σ hi hiA hN fr pb bb
    obtain ⟨N, rfl⟩ : ∃ z, N = z + 1 := ⟨N - 1, by omega⟩
    rw [List.take_of_length_le (by omega)] at pb bb
    rw [fX2_take_L21_s, if_pos (by rw [show i = 60 by omega]; decide)]
    exact ⟨σ, rfl, fr, pb, bb.mono (by omega)⟩
  | succ q ih =>
    intro i N σ hi hiA hN fr pb bb
    obtain ⟨N, rfl⟩ : ∃ z, N = z + 1 := ⟨N - 1, by omega⟩
    have h60 : ¬ (60 : Int32) ≤ nI i := by
      rw [show (60 : Int32) = nI 60 from rfl, nI_leI (by decide) (by omega)]; omega
    rw [fX2_take_L21_s, if_neg h60, grdN (by omega) (by omega), app1_e, ixN (by omega), fr.2, c.2.1 i (by omega), List.getElem?_map]
    by_cases hlt : i < (seg (bt τ) nm 0 (B + 1)).length
    · have hget : (srt (bt τ) nm)[i]? = some ((seg (bt τ) nm 0 (B + 1))[i]) := by
        rw [hS, List.getElem?_append_left hlt, List.getElem?_eq_getElem hlt]
      rw [hget, Option.map_some, elim_some]
      have htk : (seg (bt τ) nm 0 (B + 1)).take (i + 1) = (seg (bt τ) nm 0 (B + 1)).take i ++ [(seg (bt τ) nm 0 (B + 1))[i]] := by
        rw [List.take_succ, List.getElem?_eq_getElem hlt]; rfl
      have hmem := mem_seg.mp (List.getElem_mem hlt)
      generalize (seg (bt τ) nm 0 (B + 1))[i] = j at htk hmem
      obtain ⟨hj, -, hjb⟩ := hmem
      have hmt := c.2.2.2.1 j hj
      have hrow : σ.1 (mt j) = σ0.1 (mt j) := fr.1 (mt j) (by omega)
      have hmv : Mv σ τ (mt j) j nf lb := (c.2.2.1 j hj).congr hrow (fun _ _ _ => rfl) (Nat.le_refl _) (fun _ _ => Nat.le_refl _)
      obtain ⟨b', g1, g2, g3, g4⟩ := hmv.beat
      rw [g4, if_pos (by rw [nI_leI (by omega) (by omega)]; omega)]
      have hft := b.2.2.2.1 k hk
      rw [fr.1 (ft k) (by omega), (b.2.2.1 k hk).1.1, hmv.1.2.2.1]
      obtain ⟨f, hf, ef, -⟩ := hmv.2.2
      have hmvk : mvK τ k ((seg (bt τ) nm 0 (B + 1)).take (i + 1)) = mvK τ k ((seg (bt τ) nm 0 (B + 1)).take i) ++ (if f = k then [j] else []) := by
        rw [htk]
        unfold mvK
        rw [List.filter_append]
        congr 1
        rw [List.filter_cons, ef, ixN (by omega)]
        by_cases e : f = k
        · simp [e]
        · simp [e]
      have i1 : nI i + (1 : Int32) = nI (i + 1) := nI_1 i
      by_cases e : f = k
      · rw [ef, if_pos (by rw [e])]
        obtain ⟨σ1, w1, w2, w3, w4⟩ := follow_ok (m := i) hn6 hmv (by rw [ef, ixN (by omega)]; exact e) rfl hn8 hmt.1 h0 hD pb bb (by omega)
        rw [w1, bd_some]
        unfold fX2_take_b72
        rw [i1]
        rw [if_pos e] at hmvk
        refine ih (i + 1) N σ1 (by omega) (by omega) (by omega) (fr.trans w2) ?_ ?_
        · rw [hmvk, List.foldl_append]; exact w3
        · rw [hmvk, List.foldl_append]; exact w4
      · rw [ef, if_neg (by rw [nI_eqN (by omega) (by omega)]; exact e)]
        unfold fX2_take_b72
        rw [i1]
        rw [if_neg e, List.append_nil] at hmvk
        refine ih (i + 1) N σ (by omega) (by omega) (by omega) fr ?_ ?_
        · rw [hmvk]; exact pb
        · rw [hmvk]; exact bb.mono (by omega)
    · rw [List.take_of_length_le (by omega)] at pb bb
      refine ⟨σ, ?_, fr, pb, bb.mono (by omega)⟩
      cases hget : (srt (bt τ) nm)[i]? with
      | none => rw [Option.map_none, elim_none]
      | some j =>
        rw [Option.map_some, elim_some]
        rw [hS, List.getElem?_append_right (by omega)] at hget
        have hmem := mem_seg.mp (List.mem_of_getElem? hget)
        obtain ⟨hj, hjb, -⟩ := hmem
        have hmt := c.2.2.2.1 j hj
        obtain ⟨b', g1, g2, g3, g4⟩ := (c.2.2.1 j hj).beat
        rw [fr.1 (mt j) (by omega), g4, if_neg (by rw [nI_leI (by omega) (by omega)]; omega)]
/-- a pose that is taken -/
def PO (σ τ : St) (t0 D k n : Nat) (s : Bs) : Prop := (σ.1 t0 4).toInt = s.2.2.1 ∧ PT σ t0 (ptN τ k s n) n ∧ BX σ t0 (ptN τ k s n) n
theorem take_ok {σ τ : St} {bd D nf : Nat} {ft lb : Nat → Nat} {nm : Nat} {mt : Nat → Nat} {t0 k B : Nat} (b : RF σ τ nf ft lb bd) (c : RM σ τ nm mt nf ft lb bd) (hk : k < nf) (h0 : t0 + 5 ≤ 17) (hD : 10 ≤ D ∧ D ≤ 200) (hB : B < 100) : (∃ σ', fX2_take t0 (ft k) σ (nI B) (nI D) = some σ' ∧ Fr t0 σ σ' ∧ PO σ' τ t0 D k (lb k) (bsA τ D k nm B)) ∧ BsB D (lb k) (bsA τ D k nm B) 60 := by
  have hf := b.2.2.1 k hk
  have hft := b.2.2.2.1 k hk
  unfold fX2_take
  obtain ⟨σ1, a1, a2, a3, a4⟩ := stand_ok hf hft.1 h0 hD
  rw [a1, bd_some]
  obtain ⟨σ2, b1, b2, b3, b4⟩ := take_loop (t0 := t0) (k := k) (B := B) b c hk h0 hD hB 60 0 FU σ1 (by omega) (by omega) (by rw [FU_big]; decide) a2 a3 a4
  rw [nI_0] at b1
  rw [b1]
  refine ⟨?_, b4⟩
  unfold fX2_take_b78 fX2_layPoints
  have hf2 : Fg σ2 τ (ft k) k (lb k) := hf.congr (fun i hi => b2.1 _ (by omega)) (fun _ _ _ => rfl)
  obtain ⟨c1, c2, c3, c4⟩ := b4
  obtain ⟨d1, d2, d3, d4, d5⟩ := b3
  obtain ⟨σ3, e1, e2, e3, e4⟩ := lay_loop (s := bsA τ D k nm B) hf2 hft.1 h0 (by unfold absI at *; omega) (by unfold absI at *; omega) (fun i hi => by have := c4 i hi; unfold absI at *; omega) (lb k) 0 FU σ2 (by omega) (by rw [FU_big]; have := hf.2.2.1; omega) ⟨fun _ _ => rfl, rfl⟩ rfl d5 (fun i hi => by rw [show i = 0 by omega]; exact ⟨d1, d2, d3⟩)
  rw [nI_0] at e1
  rw [e1, bd_some, e2.1 (ft k) (by omega), hf2.1.2.2.2.2]
  obtain ⟨σ4, f1, f2, f3, f4, f5⟩ := box_ok hf.2.2.1 e4
  rw [f1, bd_some]
  exact ⟨σ4, rfl, b2.trans (e2.trans f2), by rw [f3, e3]; exact d4, f4, f5⟩
theorem Fr.sameC {t0 : Nat} {σ σ' : St} (h : Fr t0 σ σ') (h0 : 7 ≤ t0 ∧ t0 + 5 ≤ 17) : SameC σ σ' := ⟨fun t ht => h.1 t (by omega), by rw [h.2]⟩
