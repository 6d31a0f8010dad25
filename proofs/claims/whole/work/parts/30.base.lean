-- ===== reading the state =====
theorem rI (σ : St) (t k : Nat) (v : Int32) (a j : Nat) : (wI σ t k v).1 a j = if a = t ∧ j = k then v else σ.1 a j := by
  show (if a = t then upd (σ.1 t) k v else σ.1 a) j = _
  by_cases h : a = t
  · subst h
    by_cases h2 : j = k
    · simp [upd, h2]
    · simp [upd, h2]
  · simp [h]
theorem rIr (σ : St) (t k : Nat) (v : Int32) (a : Nat) (h : a ≠ t) : (wI σ t k v).1 a = σ.1 a := if_neg h
theorem rI2 (σ : St) (t k : Nat) (v : Int32) : (wI σ t k v).2 = σ.2 := rfl
theorem rI3 (σ : St) (t k : Nat) (v : Int32) : (wI σ t k v).2.2 = σ.2.2 := rfl
theorem rI4 (σ : St) (t k : Nat) (v : Int32) : (wI σ t k v).2.1 = σ.2.1 := rfl
theorem rL (σ : St) (t k : Nat) (v : Int64) (a j : Nat) : (wL σ t k v).2.1 a j = if a = t ∧ j = k then v else σ.2.1 a j := by
  show (if a = t then vp_updL (σ.2.1 t) k v else σ.2.1 a) j = _
  by_cases h : a = t
  · subst h
    by_cases h2 : j = k
    · simp [vp_updL, h2]
    · simp [vp_updL, h2]
  · simp [h]
theorem rL1 (σ : St) (t k : Nat) (v : Int64) : (wL σ t k v).1 = σ.1 := rfl
theorem rL3 (σ : St) (t k : Nat) (v : Int64) : (wL σ t k v).2.2 = σ.2.2 := rfl
theorem rR (σ : St) (t k : Nat) (v : Option Nat) (a j : Nat) : (wR σ t k v).2.2 a j = if a = t ∧ j = k then v else σ.2.2 a j := by
  show (if a = t then va_up (σ.2.2 t) k v else σ.2.2 a) j = _
  by_cases h : a = t
  · subst h
    by_cases h2 : j = k
    · simp [va_up, h2]
    · simp [va_up, h2]
  · simp [h]
theorem rR1 (σ : St) (t k : Nat) (v : Option Nat) : (wR σ t k v).1 = σ.1 := rfl
theorem rR2 (σ : St) (t k : Nat) (v : Option Nat) : (wR σ t k v).2.1 = σ.2.1 := rfl
theorem rW (σ : St) (t : Nat) (f : Nat → Int32) (a : Nat) : (wrow σ t f).1 a = if a = t then f else σ.1 a := rfl
theorem rW2 (σ : St) (t : Nat) (f : Nat → Int32) : (wrow σ t f).2 = σ.2 := rfl
theorem rC (σ : St) (t u sp dp n a : Nat) : (wC σ t u sp dp n).1 a = if a = u then va_cpy (σ.1 t) (σ.1 u) sp dp n else σ.1 a := rfl
theorem rC2 (σ : St) (t u sp dp n : Nat) : (wC σ t u sp dp n).2 = σ.2 := rfl
-- guards
theorem grdN {α : Type} {i n : Nat} {k : Option α} (h : i < n) (hn : n ≤ 2000) : grd (nI i) n k = k := by
  unfold grd
  rw [nI_toInt (by omega), if_pos ⟨by omega, by omega⟩]
theorem grdI {α : Type} {i : Int32} {n : Nat} {k : Option α} (h1 : 0 ≤ i.toInt) (h2 : i.toInt < n) : grd i n k = k := if_pos ⟨h1, h2⟩
theorem ixN {n : Nat} (h : n < 2 ^ 31) : ix (nI n) = n := nI_clamp h
theorem app1_e {α β : Type} (o : α) (f : α → β) : app1 o f = f o := rfl
theorem elim_none {α β : Type} (a : β) (f : α → β) : Option.elim none a f = a := rfl
theorem elim_some {α β : Type} (t : α) (a : β) (f : α → β) : Option.elim (some t) a f = f t := rfl
theorem FU_big : FU = 10000 := rfl
/-- a loop with fuel, at a counter: what it does when the counter is at j, by its remaining steps -/
theorem in_iff (x a b : Int32) : fX7_in x a b = if a.toInt ≤ x.toInt ∧ x.toInt ≤ b.toInt then 1 else 0 := by
  unfold fX7_in
  by_cases h1 : x < a
  · rw [if_pos h1, if_neg]
    have := Int32.lt_iff_toInt_lt.mp h1
    omega
  · rw [if_neg h1]
    have h1' : ¬ x.toInt < a.toInt := fun q => h1 (Int32.lt_iff_toInt_lt.mpr q)
    by_cases h2 : b < x
    · rw [if_pos h2, if_neg]
      have := Int32.lt_iff_toInt_lt.mp h2
      omega
    · rw [if_neg h2, if_pos]
      have h2' : ¬ b.toInt < x.toInt := fun q => h2 (Int32.lt_iff_toInt_lt.mpr q)
      omega
theorem inR (x a b : Int32) : fX6_inRange x a b = fX7_in x a b := by unfold fX6_inRange fX7_in; split <;> rfl
theorem in_0 (x a b : Int32) : fX7_in x a b = 0 ↔ ¬ (a.toInt ≤ x.toInt ∧ x.toInt ≤ b.toInt) := by
  rw [in_iff]
  by_cases h : a.toInt ≤ x.toInt ∧ x.toInt ≤ b.toInt
  · simp [h]
  · simp [h]
theorem isB (x : Int32) : fX6_isBeat x = fX7_isBeat x := by unfold fX6_isBeat fX7_isBeat; rw [inR]
theorem isBeat_0 (x : Int32) : fX7_isBeat x = 0 ↔ ¬ (0 ≤ x.toInt ∧ x.toInt ≤ 99) := in_0 x 0 99
theorem nI_pm {n : Nat} (h : n < 2 ^ 31) : (nI n - 1).toInt = (n : Int) - 1 := by
  rcases Nat.eq_zero_or_pos n with e | e
  · subst e; rfl
  · have : nI n - 1 = nI (n - 1) := by
      have := nI_pred (n - 1)
      rw [show n - 1 + 1 = n by omega] at this
      exact this
    rw [this, nI_toInt (by omega)]
    omega
theorem toN {x : Int32} {n : Nat} (h0 : 0 ≤ x.toInt) (h1 : x.toInt < n) (hn : n < 2 ^ 31) : ∃ k, k < n ∧ x = nI k := vp_in_of (vp_in_iff.mpr ⟨h0, h1⟩) hn
-- ===== the relation =====
def RD (σ τ : St) (D : Nat) : Prop := σ.1 0 0 = nI D ∧ τ.1 0 0 = nI D ∧ 10 ≤ D ∧ D ≤ 200
def Lm (τ : St) (k j : Nat) : Prop := (-1 ≤ (τ.1 5 (8 * k + j)).toInt ∧ (τ.1 5 (8 * k + j)).toInt < j) ∧ (1 ≤ (τ.1 6 (8 * k + j)).toInt ∧ (τ.1 6 (8 * k + j)).toInt ≤ 20) ∧ (0 ≤ (τ.1 7 (8 * k + j)).toInt ∧ (τ.1 7 (8 * k + j)).toInt ≤ 7)
def Lq (σ τ : St) (t k j : Nat) : Prop := σ.1 (t + 1) j = τ.1 5 (8 * k + j) ∧ σ.1 (t + 2) j = τ.1 6 (8 * k + j) ∧ σ.1 (t + 3) j = τ.1 7 (8 * k + j)
def Bnd (x : Int32) (a b : Int) : Prop := a ≤ x.toInt ∧ x.toInt ≤ b
def Fg (σ τ : St) (t k n : Nat) : Prop := (σ.1 t 0 = nI k ∧ σ.1 t 1 = τ.1 1 k ∧ σ.1 t 2 = τ.1 2 k ∧ σ.1 t 3 = τ.1 3 k ∧ σ.1 t 7 = nI n) ∧ τ.1 4 k = nI n ∧ n ≤ 8 ∧ (Bnd (τ.1 1 k) (-100) 100 ∧ Bnd (τ.1 2 k) (-100) 100 ∧ Bnd (τ.1 3 k) 1 200) ∧ ∀ j, j < n → Lq σ τ t k j ∧ Lm τ k j
def RF (σ τ : St) (nf : Nat) (ft lb : Nat → Nat) (bd : Nat) : Prop := (σ.1 0 1 = nI nf ∧ τ.1 0 1 = nI nf ∧ nf ≤ 6) ∧ (∀ k, k < 6 → σ.2.2 1 k = if k < nf then some (ft k) else none) ∧ (∀ k, k < nf → Fg σ τ (ft k) k (lb k)) ∧ (∀ k, k < nf → 19 ≤ ft k ∧ ft k + 4 ≤ bd) ∧ (∀ k k', k < nf → k' < nf → k ≠ k' → ft k + 4 ≤ ft k' ∨ ft k' + 4 ≤ ft k) ∧ 43 ≤ bd
def srt (β : Nat → Nat) (n : Nat) : List Nat := (List.range 100).flatMap (fun b => (List.range n).filter (fun j => β j == b))
abbrev bt (τ : St) : Nat → Nat := fun j => ix (τ.1 8 j)
def Mv (σ τ : St) (t j nf : Nat) (lb : Nat → Nat) : Prop := (σ.1 t 0 = nI j ∧ σ.1 t 1 = τ.1 8 j ∧ σ.1 t 2 = τ.1 9 j ∧ σ.1 t 3 = τ.1 10 j) ∧ (∃ b, b < 100 ∧ τ.1 8 j = nI b) ∧ ∃ f, f < nf ∧ τ.1 9 j = nI f ∧ ((τ.1 10 j = -1 ∧ (σ.1 t 5 = τ.1 11 j ∧ σ.1 t 6 = τ.1 12 j ∧ σ.1 t 7 = τ.1 13 j) ∧ Bnd (τ.1 11 j) (-50) 50 ∧ Bnd (τ.1 12 j) (-50) 50 ∧ Bnd (τ.1 13 j) (-100) 100) ∨ ∃ l, l < lb f ∧ τ.1 10 j = nI l ∧ σ.1 t 4 = τ.1 11 j ∧ Bnd (τ.1 11 j) (-7) 7)
def RM (σ τ : St) (nm : Nat) (mt : Nat → Nat) (nf : Nat) (ft lb : Nat → Nat) (bd : Nat) : Prop := (σ.1 2 1 = nI nm ∧ τ.1 0 9 = nI nm ∧ nm ≤ 60) ∧ (∀ i, i < 60 → σ.2.2 3 i = ((srt (bt τ) nm).map mt)[i]?) ∧ (∀ j, j < nm → Mv σ τ (mt j) j nf lb) ∧ (∀ j, j < nm → 19 ≤ mt j ∧ mt j < bd) ∧ ∀ j k, j < nm → k < nf → mt j < ft k ∨ ft k + 4 ≤ mt j
-- what each part of the relation looks at
theorem RD.congr {σ τ σ' τ' : St} {D : Nat} (h : RD σ τ D) (h1 : σ'.1 0 0 = σ.1 0 0) (h2 : τ'.1 0 0 = τ.1 0 0) : RD σ' τ' D := by
  unfold RD at h ⊢; rw [h1, h2]; exact h
theorem Fg.congr {σ τ σ' τ' : St} {t k n : Nat} (h : Fg σ τ t k n) (h1 : ∀ i, i < 4 → σ'.1 (t + i) = σ.1 (t + i)) (h2 : ∀ a, 1 ≤ a → a ≤ 7 → τ'.1 a = τ.1 a) : Fg σ' τ' t k n := by
  have e0 : σ'.1 t = σ.1 t := h1 0 (by decide)
  unfold Fg Lq Lm at h ⊢
  rw [e0, h1 1 (by decide), h1 2 (by decide), h1 3 (by decide), h2 1 (by decide) (by decide), h2 2 (by decide) (by decide), h2 3 (by decide) (by decide), h2 4 (by decide) (by decide), h2 5 (by decide) (by decide), h2 6 (by decide) (by decide), h2 7 (by decide) (by decide)]
  exact h
theorem RF.congr {σ τ σ' τ' : St} {nf bd : Nat} {ft lb : Nat → Nat} (h : RF σ τ nf ft lb bd) (h0 : σ'.1 0 1 = σ.1 0 1) (hr : σ'.2.2 1 = σ.2.2 1) (h1 : ∀ k i, k < nf → i < 4 → σ'.1 (ft k + i) = σ.1 (ft k + i)) (h2 : τ'.1 0 1 = τ.1 0 1) (h3 : ∀ a, 1 ≤ a → a ≤ 7 → τ'.1 a = τ.1 a) : RF σ' τ' nf ft lb bd := by
  obtain ⟨a1, a2, a3, a4, a5⟩ := h
  exact ⟨by rw [h0, h2]; exact a1, by rw [hr]; exact a2, fun k hk => (a3 k hk).congr (fun i hi => h1 k i hk hi) h3, a4, a5⟩
theorem RF.mono {σ τ : St} {nf bd bd' : Nat} {ft lb : Nat → Nat} (h : RF σ τ nf ft lb bd) (hb : bd ≤ bd') : RF σ τ nf ft lb bd' := by
  obtain ⟨a1, a2, a3, a4, a5⟩ := h
  exact ⟨a1, a2, a3, fun k hk => ⟨(a4 k hk).1, Nat.le_trans (a4 k hk).2 hb⟩, a5.1, Nat.le_trans a5.2 hb⟩
theorem Mv.congr {σ τ σ' τ' : St} {t j nf nf' : Nat} {lb lb' : Nat → Nat} (h : Mv σ τ t j nf lb) (h1 : σ'.1 t = σ.1 t) (h2 : ∀ a, 8 ≤ a → a ≤ 13 → τ'.1 a j = τ.1 a j) (h3 : nf ≤ nf') (h4 : ∀ f, f < nf → lb f ≤ lb' f) : Mv σ' τ' t j nf' lb' := by
  unfold Mv at h ⊢
  rw [h1, h2 8 (by decide) (by decide), h2 9 (by decide) (by decide), h2 10 (by decide) (by decide), h2 11 (by decide) (by decide), h2 12 (by decide) (by decide), h2 13 (by decide) (by decide)]
  obtain ⟨a1, a2, f, hf, a3, a4⟩ := h
  refine ⟨a1, a2, f, by omega, a3, ?_⟩
  rcases a4 with a4 | ⟨l, hl, a4⟩
  · exact Or.inl a4
  · exact Or.inr ⟨l, Nat.lt_of_lt_of_le hl (h4 f hf), a4⟩
theorem RM.congr {σ τ σ' τ' : St} {nm nf bd : Nat} {mt ft lb lb' : Nat → Nat} (h : RM σ τ nm mt nf ft lb bd) (h0 : σ'.1 2 1 = σ.1 2 1) (hr : σ'.2.2 3 = σ.2.2 3) (h1 : ∀ j, j < nm → σ'.1 (mt j) = σ.1 (mt j)) (h2 : τ'.1 0 9 = τ.1 0 9) (h3 : ∀ a, 8 ≤ a → a ≤ 13 → τ'.1 a = τ.1 a) (h4 : ∀ f, f < nf → lb f ≤ lb' f) : RM σ' τ' nm mt nf ft lb' bd := by
  obtain ⟨a1, a2, a3, a4, a5⟩ := h
  refine ⟨by rw [h0, h2]; exact a1, ?_, fun j hj => (a3 j hj).congr (h1 j hj) (fun a g1 g2 => by rw [h3 a g1 g2]) (Nat.le_refl _) h4, a4, a5⟩
  intro i hi
  rw [hr, a2 i hi]
  have : bt τ' = bt τ := by funext j; show ix (τ'.1 8 j) = _; rw [h3 8 (by decide) (by decide)]
  rw [this]
theorem RM.mono {σ τ : St} {nm nf bd bd' : Nat} {mt ft lb : Nat → Nat} (h : RM σ τ nm mt nf ft lb bd) (hb : bd ≤ bd') : RM σ τ nm mt nf ft lb bd' := by
  obtain ⟨a1, a2, a3, a4, a5⟩ := h
  exact ⟨a1, a2, a3, fun j hj => ⟨(a4 j hj).1, Nat.lt_of_lt_of_le (a4 j hj).2 hb⟩, a5⟩
-- the first questions
theorem figAt {σ τ : St} {nf bd : Nat} {ft lb : Nat → Nat} (h : RF σ τ nf ft lb bd) (x : Int32) : fX6_figureAt σ x = some (if 0 ≤ x.toInt ∧ x.toInt < nf then some (ft (ix x)) else none) := by
  obtain ⟨⟨e1, -, hn⟩, hr, -⟩ := h
  unfold fX6_figureAt
  rw [inR, e1]
  by_cases hx : 0 ≤ x.toInt ∧ x.toInt < nf
  · have h1 : ¬ fX7_in x 0 (nI nf - 1) = 0 := by
      rw [in_0, nI_pm (by omega)]
      show ¬ ¬ ((0 : Int) ≤ x.toInt ∧ _)
      omega
    rw [if_neg h1, if_pos hx]
    obtain ⟨k, hk, rfl⟩ := toN hx.1 hx.2 (by omega)
    rw [grdN (by omega) (by omega), app1_e, ixN (by omega), hr k (by omega), if_pos hk]
  · have h1 : fX7_in x 0 (nI nf - 1) = 0 := by
      rw [in_0, nI_pm (by omega)]
      show ¬ ((0 : Int) ≤ x.toInt ∧ _)
      omega
    rw [if_pos h1, if_neg hx]
theorem noFig {σ τ : St} {nf bd : Nat} {ft lb : Nat → Nat} (h : RF σ τ nf ft lb bd) (x : Int32) : fX7_noFigure τ x = if 0 ≤ x.toInt ∧ x.toInt < nf then 0 else 1 := by
  obtain ⟨⟨-, e1, hn⟩, -⟩ := h
  unfold fX7_noFigure
  rw [e1]
  by_cases hx : 0 ≤ x.toInt ∧ x.toInt < nf
  · have h1 : ¬ fX7_in x 0 (nI nf - 1) = 0 := by
      rw [in_0, nI_pm (by omega)]
      show ¬ ¬ ((0 : Int) ≤ x.toInt ∧ _)
      omega
    rw [if_neg h1, if_pos hx]
  · have h1 : fX7_in x 0 (nI nf - 1) = 0 := by
      rw [in_0, nI_pm (by omega)]
      show ¬ ((0 : Int) ≤ x.toInt ∧ _)
      omega
    rw [if_pos h1, if_neg hx]
