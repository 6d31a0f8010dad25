-- ===== numbers =====
theorem rngI (x : Int32) : -2147483648 ≤ x.toInt ∧ x.toInt < 2147483648 := by
  have h1 := Int32.le_toInt x
  have h2 := Int32.toInt_lt x
  omega
theorem bmI {z : Int} (h1 : -2147483648 ≤ z) (h2 : z < 2147483648) : z.bmod (2 ^ 32) = z := by
  rw [Int.bmod_eq_of_le (by omega) (by omega)]
theorem addI {x y : Int32} (h1 : -2147483648 ≤ x.toInt + y.toInt) (h2 : x.toInt + y.toInt < 2147483648) : (x + y).toInt = x.toInt + y.toInt := by
  rw [Int32.toInt_add, bmI h1 h2]
theorem subI {x y : Int32} (h1 : -2147483648 ≤ x.toInt - y.toInt) (h2 : x.toInt - y.toInt < 2147483648) : (x - y).toInt = x.toInt - y.toInt := by
  rw [Int32.toInt_sub, bmI h1 h2]
theorem mulI {x y : Int32} (h1 : -2147483648 ≤ x.toInt * y.toInt) (h2 : x.toInt * y.toInt < 2147483648) : (x * y).toInt = x.toInt * y.toInt := by
  rw [Int32.toInt_mul, bmI h1 h2]
theorem negI {x : Int32} (h : x.toInt ≠ -2147483648) : (-x).toInt = -x.toInt := by
  have := rngI x
  rw [Int32.toInt_neg, bmI (by omega) (by omega)]
theorem rngL (x : Int64) : -9223372036854775808 ≤ x.toInt ∧ x.toInt < 9223372036854775808 := by
  have h1 := Int64.le_toInt x
  have h2 := Int64.toInt_lt x
  omega
theorem bmL {z : Int} (h1 : -9223372036854775808 ≤ z) (h2 : z < 9223372036854775808) : z.bmod (2 ^ 64) = z := by
  rw [Int.bmod_eq_of_le (by omega) (by omega)]
theorem addL {x y : Int64} (h1 : -9223372036854775808 ≤ x.toInt + y.toInt) (h2 : x.toInt + y.toInt < 9223372036854775808) : (x + y).toInt = x.toInt + y.toInt := by
  rw [Int64.toInt_add, bmL h1 h2]
theorem subL {x y : Int64} (h1 : -9223372036854775808 ≤ x.toInt - y.toInt) (h2 : x.toInt - y.toInt < 9223372036854775808) : (x - y).toInt = x.toInt - y.toInt := by
  rw [Int64.toInt_sub, bmL h1 h2]
theorem mulL {x y : Int64} (h1 : -9223372036854775808 ≤ x.toInt * y.toInt) (h2 : x.toInt * y.toInt < 9223372036854775808) : (x * y).toInt = x.toInt * y.toInt := by
  rw [Int64.toInt_mul, bmL h1 h2]
theorem negL {x : Int64} (h : x.toInt ≠ -9223372036854775808) : (-x).toInt = -x.toInt := by
  have := rngL x
  rw [Int64.toInt_neg, bmL (by omega) (by omega)]
theorem toL (x : Int32) : x.toInt64.toInt = x.toInt := Int32.toInt_toInt64 x
theorem eqI {x y : Int32} : x = y ↔ x.toInt = y.toInt := Int32.toInt_inj.symm
theorem eqL {x y : Int64} : x = y ↔ x.toInt = y.toInt := Int64.toInt_inj.symm
theorem ltI {x y : Int32} : x < y ↔ x.toInt < y.toInt := Int32.lt_iff_toInt_lt
theorem leI {x y : Int32} : x ≤ y ↔ x.toInt ≤ y.toInt := Int32.le_iff_toInt_le
theorem ltL {x y : Int64} : x < y ↔ x.toInt < y.toInt := Int64.lt_iff_toInt_lt
theorem leL {x y : Int64} : x ≤ y ↔ x.toInt ≤ y.toInt := Int64.le_iff_toInt_le
theorem ix0 : ix (0 : Int32) = 0 := by decide
theorem ixI {x : Int32} (h : 0 ≤ x.toInt) : (ix x : Int) = x.toInt := by
  show ((x.toInt.toNat : Nat) : Int) = _
  omega
theorem nIx {x : Int32} (h : 0 ≤ x.toInt) : x = nI (ix x) := by
  rw [eqI, nI_toInt (by have := rngI x; have := ixI h; omega)]
  exact (ixI h).symm
theorem minI (x y : Int32) : (fJ9_min_7cf53 x y).toInt = min x.toInt y.toInt := by
  unfold fJ9_min_7cf53
  by_cases h : y < x
  · rw [if_pos h]; have := ltI.mp h; omega
  · rw [if_neg h]; have : ¬ y.toInt < x.toInt := fun q => h (ltI.mpr q); omega
theorem maxI (x y : Int32) : (fJ9_max_7cf53 x y).toInt = max x.toInt y.toInt := by
  unfold fJ9_max_7cf53
  by_cases h : x < y
  · rw [if_pos h]; have := ltI.mp h; omega
  · rw [if_neg h]; have : ¬ x.toInt < y.toInt := fun q => h (ltI.mpr q); omega
-- ===== a figure at a beat, in whole numbers =====
abbrev Bs : Type := Int × Int × Int × (Nat → Int)
def bs0 (τ : St) (D k : Nat) : Bs := ((τ.1 1 k).toInt, (τ.1 2 k).toInt, min (τ.1 3 k).toInt D, fun i => (τ.1 7 (8 * k + i)).toInt)
def bst (τ : St) (D : Nat) (s : Bs) (j : Nat) : Bs := if (τ.1 10 j).toInt < 0 then (s.1 + (τ.1 11 j).toInt, s.2.1 + (τ.1 12 j).toInt, max 1 (min (s.2.2.1 + (τ.1 13 j).toInt) D), s.2.2.2) else (s.1, s.2.1, s.2.2.1, fun i => if i = ix (τ.1 10 j) then s.2.2.2 i + (τ.1 11 j).toInt else s.2.2.2 i)
abbrev mvK (τ : St) (k : Nat) (L : List Nat) : List Nat := L.filter (fun j => ix (τ.1 9 j) == k)
def bsA (τ : St) (D k nm B : Nat) : Bs := (mvK τ k (seg (bt τ) nm 0 (B + 1))).foldl (bst τ D) (bs0 τ D k)
def sx8 (t : Int) : Int := if t = 2 ∨ t = 6 then 0 else if t < 2 ∨ t = 7 then 1 else -1
def sy8 (t : Int) : Int := if t = 0 ∨ t = 4 then 0 else if t < 4 then 1 else -1
def ptS (τ : St) (k : Nat) (s : Bs) (q : Int × Int × Int) (m : Nat) : Int × Int × Int := (q.1 + (τ.1 6 (8 * k + m)).toInt * sx8 ((q.2.2 + s.2.2.2 m) % 8), q.2.1 + (τ.1 6 (8 * k + m)).toInt * sy8 ((q.2.2 + s.2.2.2 m) % 8), (q.2.2 + s.2.2.2 m) % 8)
def ptN (τ : St) (k : Nat) (s : Bs) : Nat → Nat → Int × Int × Int
  | 0 => fun _ => (s.1, s.2.1, 0)
  | m + 1 => fun i => if i = m + 1 then ptS τ k s (ptN τ k s m ((τ.1 5 (8 * k + m)).toInt + 1).toNat) m else ptN τ k s m i
theorem ptN_new (τ : St) (k : Nat) (s : Bs) (m : Nat) : ptN τ k s (m + 1) (m + 1) = ptS τ k s (ptN τ k s m ((τ.1 5 (8 * k + m)).toInt + 1).toNat) m := if_pos rfl
theorem ptN_old (τ : St) (k : Nat) (s : Bs) (m i : Nat) (h : i ≤ m) : ptN τ k s (m + 1) i = ptN τ k s m i := if_neg (by omega)
def absI (x : Int) (b : Int) : Prop := -b ≤ x ∧ x ≤ b
def BsB (D n : Nat) (s : Bs) (m : Nat) : Prop := absI s.1 (100 + 50 * m) ∧ absI s.2.1 (100 + 50 * m) ∧ (1 ≤ s.2.2.1 ∧ s.2.2.1 ≤ D) ∧ ∀ i, i < n → absI (s.2.2.2 i) (7 + 7 * m)
def Fr (t0 : Nat) (σ σ' : St) : Prop := (∀ t, t < t0 ∨ t0 + 5 ≤ t → σ'.1 t = σ.1 t) ∧ σ'.2 = σ.2
theorem Fr.trans {t0 : Nat} {a b c : St} (h : Fr t0 a b) (g : Fr t0 b c) : Fr t0 a c := ⟨fun t ht => (g.1 t ht).trans (h.1 t ht), g.2.trans h.2⟩
theorem Fr.wI {t0 : Nat} {σ σ' : St} (h : Fr t0 σ σ') {t k : Nat} {v : Int32} (ht : t0 ≤ t ∧ t < t0 + 5) : Fr t0 σ (wI σ' t k v) := ⟨fun q hq => by rw [rIr _ _ _ _ _ (by omega)]; exact h.1 q hq, h.2⟩
/-- the base of a pose in the class's cells -/
def PB (σ : St) (t0 n : Nat) (s : Bs) : Prop := (σ.1 (t0 + 2) 0).toInt = s.1 ∧ (σ.1 (t0 + 3) 0).toInt = s.2.1 ∧ (σ.1 (t0 + 4) 0).toInt = 0 ∧ (σ.1 t0 4).toInt = s.2.2.1 ∧ ∀ i, i < n → (σ.1 (t0 + 1) i).toInt = s.2.2.2 i
theorem stand_ok {σ τ : St} {t0 t k n D : Nat} (hf : Fg σ τ t k n) (ht : 19 ≤ t) (h0 : t0 + 5 ≤ 17) (hD : 10 ≤ D ∧ D ≤ 200) : ∃ σ', fX2_stand t0 t σ (nI D) = some σ' ∧ Fr t0 σ σ' ∧ PB σ' t0 n (bs0 τ D k) ∧ BsB D n (bs0 τ D k) 0 := by
  obtain ⟨⟨a0, a1, a2, a3, a4⟩, b1, b2, ⟨b3, b4, b5⟩, b6⟩ := hf
  unfold fX2_stand fX2_stand_b10 fX2_stand_b20 fX2_stand_b27 fX2_stand_b39 fX2_stand_b56
  simp only [rI, ix0, show ¬ (t = t0 + 2) by omega, show ¬ (t = t0 + 3) by omega, show ¬ (t = t0 + 4) by omega, show ¬ (t = t0) by omega, false_and, if_false, a1, a2, a3, a4]
  have hc : cpyG (0 : Int32) 0 (nI n) 8 8 (some (wC (wI (wI (wI (wI σ (t0 + 2) 0 (τ.1 1 k)) (t0 + 3) 0 (τ.1 2 k)) (t0 + 4) 0 0) t0 4 (fJ9_min_7cf53 (τ.1 3 k) (nI D))) (t + 3) (t0 + 1) 0 0 (ix (nI n)))) = some (wC (wI (wI (wI (wI σ (t0 + 2) 0 (τ.1 1 k)) (t0 + 3) 0 (τ.1 2 k)) (t0 + 4) 0 0) t0 4 (fJ9_min_7cf53 (τ.1 3 k) (nI D))) (t + 3) (t0 + 1) 0 0 (ix (nI n))) := by
    unfold cpyG
    rw [if_pos]
    rw [nI_toInt (by omega)]
    show (0 : Int) ≤ 0 ∧ (0 : Int) ≤ 0 ∧ (0 : Int) ≤ n ∧ (0 : Int) + n ≤ 8 ∧ (0 : Int) + n ≤ 8
    omega
  refine ⟨_, hc, ?_, ?_, ?_⟩
  · refine ⟨fun q hq => ?_, rfl⟩
    rw [rC, if_neg (by omega), rIr _ _ _ _ _ (by omega), rIr _ _ _ _ _ (by omega), rIr _ _ _ _ _ (by omega), rIr _ _ _ _ _ (by omega)]
  · refine ⟨?_, ?_, ?_, ?_, fun i hi => ?_⟩
    · rw [rC, if_neg (by omega)]; simp [rI, bs0]
    · rw [rC, if_neg (by omega)]; simp [rI, bs0]
    · rw [rC, if_neg (by omega)]; simp [rI]
    · rw [rC, if_neg (by omega)]
      simp only [rI, and_self, if_true]
      rw [minI, nI_toInt (by omega)]; rfl
    · rw [rC, if_pos rfl, ixN (by omega)]
      unfold va_cpy
      rw [if_pos (by omega), Nat.zero_add, Nat.sub_zero, rIr _ _ _ _ _ (by omega), rIr _ _ _ _ _ (by omega), rIr _ _ _ _ _ (by omega), rIr _ _ _ _ _ (by omega), (b6 i hi).1.2.2]
      rfl
  · unfold BsB absI bs0 Bnd at *
    dsimp only
    refine ⟨by omega, by omega, by omega, fun i hi => ?_⟩
    have h7 := (b6 i hi).2.2.2
    omega
/-- one move on the pose -/
theorem follow_ok {σ τ : St} {t0 t j n nf D m k : Nat} {lb : Nat → Nat} {s : Bs} (hnf : nf ≤ 6) (hm : Mv σ τ t j nf lb) (hk : ix (τ.1 9 j) = k) (hn : lb k = n) (hn8 : n ≤ 8) (ht : 19 ≤ t) (h0 : t0 + 5 ≤ 17) (hD : 10 ≤ D ∧ D ≤ 200) (hB : PB σ t0 n s) (hs : BsB D n s m) (h60 : m < 60) : ∃ σ', fX2_follow t0 t σ (nI D) = some σ' ∧ Fr t0 σ σ' ∧ PB σ' t0 n (bst τ D s j) ∧ BsB D n (bst τ D s j) (m + 1) := by
  obtain ⟨⟨a0, a1, a2, a3⟩, -, f, hf, c1, c2⟩ := hm
  obtain ⟨p1, p2, p3, p4, p5⟩ := hB
  obtain ⟨q1, q2, q3, q4⟩ := hs
  unfold absI at q1 q2 q4
  have hfk : f = k := by rw [← hk, c1, ixN (by omega)]
  subst hfk
  unfold fX2_follow
  rw [a3]
  rcases c2 with ⟨e1, ⟨e2, e3, e4⟩, e5, e6, e7⟩ | ⟨l, hl, e1, e2, e3⟩
  · unfold Bnd at e5 e6 e7
    rw [if_pos (by rw [e1]), e2]
    unfold fX2_follow_b21 fX2_follow_b34 fX2_follow_b55
    simp only [rI, ix0, show ¬ (t = t0 + 2) by omega, show ¬ (t = t0 + 3) by omega, show ¬ (t = t0) by omega, show ¬ (t0 = t0 + 2) by omega, show ¬ (t0 = t0 + 3) by omega, show ¬ (t0 + 3 = t0 + 2) by omega, false_and, if_false, e3, e4]
    have hst : bst τ D s j = (s.1 + (τ.1 11 j).toInt, s.2.1 + (τ.1 12 j).toInt, max 1 (min (s.2.2.1 + (τ.1 13 j).toInt) D), s.2.2.2) := if_pos (by rw [e1]; decide)
    refine ⟨_, rfl, ?_, ?_, ?_⟩
    · exact (((show Fr t0 σ σ from ⟨fun _ _ => rfl, rfl⟩).wI (by omega)).wI (by omega)).wI (by omega)
    · rw [hst]
      refine ⟨?_, ?_, ?_, ?_, fun i hi => ?_⟩
      · simp only [rI, show ¬ (t0 + 2 = t0) by omega, show ¬ (t0 + 2 = t0 + 3) by omega, false_and, if_false, and_self, if_true]
        rw [addI (by omega) (by omega), p1]
      · simp only [rI, show ¬ (t0 + 3 = t0) by omega, false_and, if_false, and_self, if_true]
        rw [addI (by omega) (by omega), p2]
      · simp only [rI, show ¬ (t0 + 4 = t0) by omega, show ¬ (t0 + 4 = t0 + 3) by omega, show ¬ (t0 + 4 = t0 + 2) by omega, false_and, if_false]
        exact p3
      · simp only [rI, and_self, if_true]
        rw [maxI, minI, addI (by omega) (by omega), p4, nI_toInt (by omega)]
        rfl
      · simp only [rI, show ¬ (t0 + 1 = t0) by omega, show ¬ (t0 + 1 = t0 + 3) by omega, show ¬ (t0 + 1 = t0 + 2) by omega, false_and, if_false]
        exact p5 i hi
    · rw [hst]
      unfold BsB absI
      dsimp only
      refine ⟨by omega, by omega, by omega, fun i hi => ?_⟩
      have := q4 i hi
      omega
  · unfold Bnd at e3
    have hne : ¬ nI l = -1 := by
      rw [eqI, nI_toInt (by omega)]
      show ¬ ((l : Int) = -1)
      omega
    rw [e1, if_neg hne, grdN (by omega) (by decide), grdN (by omega) (by decide), ixN (by omega), e2]
    have hst : bst τ D s j = (s.1, s.2.1, s.2.2.1, fun i => if i = ix (τ.1 10 j) then s.2.2.2 i + (τ.1 11 j).toInt else s.2.2.2 i) := if_neg (by rw [e1, nI_toInt (by omega)]; omega)
    refine ⟨_, rfl, (show Fr t0 σ σ from ⟨fun _ _ => rfl, rfl⟩).wI (by omega), ?_, ?_⟩
    · rw [hst]
      refine ⟨?_, ?_, ?_, ?_, fun i hi => ?_⟩
      · rw [rI, if_neg (by omega)]; exact p1
      · rw [rI, if_neg (by omega)]; exact p2
      · rw [rI, if_neg (by omega)]; exact p3
      · rw [rI, if_neg (by omega)]; exact p4
      · rw [rI]
        dsimp only
        rw [e1, ixN (by omega)]
        by_cases ei : i = l
        · subst ei
          rw [if_pos ⟨rfl, rfl⟩, if_pos rfl]
          have := q4 i hi
          have := p5 i hi
          rw [addI (by omega) (by omega), p5 i hi]
        · rw [if_neg (fun z => ei z.2), if_neg ei]
          exact p5 i hi
    · rw [hst]
      unfold BsB absI
      dsimp only
      refine ⟨by omega, by omega, by omega, fun i hi => ?_⟩
      have := q4 i hi
      by_cases ei : i = ix (τ.1 10 j)
      · rw [if_pos ei]; omega
      · rw [if_neg ei]; omega
