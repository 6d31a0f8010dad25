-- ===== addFigure, addLimb =====
theorem bnd_of {x a b : Int32} (h : ¬ fX7_in x a b = 0) : a.toInt ≤ x.toInt ∧ x.toInt ≤ b.toInt := by
  rw [in_0] at h
  exact Classical.not_not.mp h
theorem s_addFigure (x1 x2 x3 : Int32) : StA Rel (fun b σ => fX6_addFigure b σ x1 x2 x3) (fun τ => fX7_addFigure τ x1 x2 x3) := by
  intro σ τ bd h
  show ∃ r σ' τ', fX6_addFigure bd σ x1 x2 x3 = some (r, σ') ∧ fX7_addFigure τ x1 x2 x3 = some (r, τ') ∧ Rel σ' τ' (bd + 28)
  obtain ⟨D, nf, ft, lb, nm, mt, ns, a, b, c, d⟩ := id h
  have h28 : Rel σ τ (bd + 28) := h.mono (by omega)
  unfold fX6_addFigure fX7_addFigure
  simp only [inR]
  by_cases q1 : fX7_in x1 (-100) 100 = 0
  · rw [if_pos q1, if_pos q1]; exact ⟨_, σ, τ, rfl, rfl, h28⟩
  rw [if_neg q1, if_neg q1]
  by_cases q2 : fX7_in x2 (-100) 100 = 0
  · rw [if_pos q2, if_pos q2]; exact ⟨_, σ, τ, rfl, rfl, h28⟩
  rw [if_neg q2, if_neg q2, a.1, a.2.1]
  by_cases q3 : fX7_in x3 1 (nI D) = 0
  · rw [if_pos q3, if_pos q3]; exact ⟨_, σ, τ, rfl, rfl, h28⟩
  rw [if_neg q3, if_neg q3]
  obtain ⟨⟨n1, n2, n6⟩, hr, hfg, htg, hap, hbd⟩ := id b
  rw [n1, n2]
  have hD := a.2.2
  by_cases q4 : nf = 6
  · rw [q4, if_neg (by decide), if_pos (by decide)]
    exact ⟨_, σ, τ, rfl, rfl, h28⟩
  have q5 : nI nf < 6 := by rw [show (6 : Int32) = nI 6 from rfl, nI_ltI (by omega) (by decide)]; omega
  have q6 : ¬ nI nf = 6 := by rw [show (6 : Int32) = nI 6 from rfl, nI_eq (by omega) (by decide)]; omega
  rw [if_pos q5, if_neg q6]
  have p1 : (-100 : Int) ≤ x1.toInt ∧ x1.toInt ≤ 100 := bnd_of q1
  have p2 : (-100 : Int) ≤ x2.toInt ∧ x2.toInt ≤ 100 := bnd_of q2
  have p3 := bnd_of q3
  rw [nI_toInt (by omega)] at p3
  have p3 : (1 : Int) ≤ x3.toInt ∧ x3.toInt ≤ D := p3
  unfold fX6_addFigure_b73 fX6_addFigure_b74 fX6_addFigure_b84 fX7_addFigure_b59 fX7_addFigure_b69 fX7_addFigure_b79 fX7_addFigure_b89 fX7_addFigure_b99
  rw [grdN (by omega) (by decide), grdN (by omega) (by decide)]
  have eN : nI nf + (1 : Int32) = nI (nf + 1) := nI_1 nf
  have c0 : ¬ (0 = bd) := by omega
  have c1 : ¬ (0 = bd + 1) := by omega
  have c2 : ¬ (0 = bd + 2) := by omega
  have c3 : ¬ (0 = bd + 3) := by omega
  simp only [rI, n1, n2, ixN (show nf < 2 ^ 31 by omega), show ¬ ((0 : Nat) = 1) by decide, show ¬ ((0 : Nat) = 2) by decide, show ¬ ((0 : Nat) = 3) by decide, show ¬ ((0 : Nat) = 4) by decide, false_and, if_false, grdN (show nf < 6 by omega) (show 6 ≤ 2000 by decide), and_self, if_true, eN, nI_pred, rR1, rW, c0, c1, c2, c3]
  generalize hσ : wI (wR (wrow (wrow (wrow (wrow σ (bd + 1) fun x => 0) (bd + 2) fun x => 0) (bd + 3) fun x => 0) bd (mvR (nI nf) x1 x2 x3)) 1 nf (some bd)) 0 1 (nI (nf + 1)) = σ'
  generalize hτ : wI (wI (wI (wI (wI τ 1 nf x1) 2 nf x2) 3 nf x3) 4 nf 0) 0 1 (nI (nf + 1)) = τ'
  have s0 : ∀ j, σ'.1 0 j = if j = 1 then nI (nf + 1) else σ.1 0 j := fun j => by
    rw [← hσ, rI]
    simp only [rR1, rW, true_and, if_neg c0, if_neg c1, if_neg c2, if_neg c3]
  have s1 : ∀ t, t ≠ 0 → t < bd → σ'.1 t = σ.1 t := fun t h0 h1 => by
    rw [← hσ, rIr _ _ _ _ _ h0]
    simp only [rR1, rW, if_neg (show ¬ t = bd by omega), if_neg (show ¬ t = bd + 1 by omega), if_neg (show ¬ t = bd + 2 by omega), if_neg (show ¬ t = bd + 3 by omega)]
  have s2 : σ'.1 bd = mvR (nI nf) x1 x2 x3 := by
    rw [← hσ, rIr _ _ _ _ _ (by omega), rR1, rW, if_pos rfl]
  have s3 : ∀ t j, σ'.2.2 t j = if t = 1 ∧ j = nf then some bd else σ.2.2 t j := fun t j => by
    rw [← hσ, rI3, rR, rW2, rW2, rW2, rW2]
  have t0 : ∀ j, τ'.1 0 j = if j = 1 then nI (nf + 1) else τ.1 0 j := fun j => by
    rw [← hτ, rI]
    simp only [true_and, rI, show ¬ ((0 : Nat) = 1) by decide, show ¬ ((0 : Nat) = 2) by decide, show ¬ ((0 : Nat) = 3) by decide, show ¬ ((0 : Nat) = 4) by decide, false_and, if_false]
  have t1 : ∀ t j, 5 ≤ t ∨ (t ≠ 0 ∧ j ≠ nf) → τ'.1 t j = τ.1 t j := fun t j ht => by
    rw [← hτ]
    simp only [rI]
    rw [if_neg (by omega), if_neg (by omega), if_neg (by omega), if_neg (by omega), if_neg (by omega)]
  have t2 : τ'.1 1 nf = x1 ∧ τ'.1 2 nf = x2 ∧ τ'.1 3 nf = x3 ∧ τ'.1 4 nf = 0 := by
    rw [← hτ]
    simp [rI]
  refine ⟨_, σ', τ', rfl, rfl, D, nf + 1, (fun k => if k = nf then bd else ft k), (fun k => if k = nf then 0 else lb k), nm, mt, ns, ?_, ?_, ?_, ?_⟩
  · exact a.congr (by rw [s0]; simp) (by rw [t0]; simp)
  · refine ⟨⟨by rw [s0]; simp, by rw [t0]; simp, by omega⟩, fun k hk => ?_, fun k hk => ?_, fun k hk => ?_, fun k k' hk hk' hne => ?_, by omega⟩
    · rw [s3]
      by_cases e : k = nf
      · subst e; simp
      · rw [if_neg (by omega), hr k hk]
        by_cases e2 : k < nf
        · rw [if_pos e2, if_pos (by omega)]; dsimp only; rw [if_neg e]
        · rw [if_neg e2, if_neg (by omega)]
    · dsimp only
      by_cases e : k = nf
      · subst e
        rw [if_pos rfl, if_pos rfl]
        obtain ⟨u1, u2, u3, u4⟩ := t2
        refine ⟨⟨by rw [s2]; rfl, by rw [s2, u1]; rfl, by rw [s2, u2]; rfl, by rw [s2, u3]; rfl, by rw [s2]; rfl⟩, u4, by decide, ⟨by rw [u1]; exact p1, by rw [u2]; exact p2, by rw [u3]; exact ⟨p3.1, by omega⟩⟩, fun j hj => absurd hj (Nat.not_lt_zero j)⟩
      · rw [if_neg e, if_neg e]
        have hk' : k < nf := by omega
        have g := hfg k hk'
        have g2 := htg k hk'
        unfold Fg Lq Lm at g ⊢
        rw [s1 (ft k) (by omega) (by omega), s1 (ft k + 1) (by omega) (by omega), s1 (ft k + 2) (by omega) (by omega), s1 (ft k + 3) (by omega) (by omega), t1 1 k (Or.inr ⟨by decide, e⟩), t1 2 k (Or.inr ⟨by decide, e⟩), t1 3 k (Or.inr ⟨by decide, e⟩), t1 4 k (Or.inr ⟨by decide, e⟩)]
        simp only [t1 5 _ (Or.inl (by decide)), t1 6 _ (Or.inl (by decide)), t1 7 _ (Or.inl (by decide))]
        exact g
    · dsimp only
      by_cases e : k = nf
      · rw [if_pos e]; omega
      · rw [if_neg e]
        have := htg k (by omega)
        omega
    · dsimp only
      by_cases e : k = nf
      · rw [if_pos e, if_neg (by omega)]
        have := htg k' (by omega)
        omega
      · rw [if_neg e]
        by_cases e2 : k' = nf
        · rw [if_pos e2]
          have := htg k (by omega)
          omega
        · rw [if_neg e2]
          exact hap k k' (by omega) (by omega) hne
  · obtain ⟨⟨m1, m2, m3⟩, m4, m5, m6, m7⟩ := c
    refine ⟨⟨by rw [s1 2 (by decide) (by omega)]; exact m1, by rw [t0]; simpa using m2, m3⟩, fun i hi => ?_, fun j hj => ?_, fun j hj => ⟨(m6 j hj).1, by have := (m6 j hj).2; omega⟩, fun j k hj hk => ?_⟩
    · rw [s3, if_neg (by omega), m4 i hi]
      have : bt τ' = bt τ := by funext j; show ix (τ'.1 8 j) = _; rw [t1 8 j (Or.inl (by decide))]
      rw [this]
    · refine (m5 j hj).congr (s1 _ (by have := m6 j hj; omega) (m6 j hj).2) (fun q g1 g2 => t1 q j (Or.inl (by omega))) (by omega) (fun f hf => ?_)
      rw [if_neg (by omega)]; exact Nat.le_refl _
    · dsimp only
      by_cases e : k = nf
      · rw [if_pos e]; exact Or.inl (m6 j hj).2
      · rw [if_neg e]; exact m7 j k hj (by omega)
  · exact d.congr (by rw [s1 4 (by decide) (by omega)]) (s1 5 (by decide) (by omega)) (s1 6 (by decide) (by omega)) (by rw [t0]; simp) (by funext j; rw [t1 21 j (Or.inl (by decide))])
theorem hasLimb_0 {σ τ : St} {nf bd k : Nat} {ft lb : Nat → Nat} (h : RF σ τ nf ft lb bd) (hk : k < nf) (x : Int32) : fX0_hasLimb σ (ft k) x = 0 ↔ ¬ (0 ≤ x.toInt ∧ x.toInt < lb k) := by
  have g := h.2.2.1 k hk
  have g8 := g.2.2.1
  unfold fX0_hasLimb
  rw [inR, in_0, g.1.2.2.2.2, nI_pm (by omega)]
  show ¬ ((0 : Int) ≤ x.toInt ∧ _) ↔ _
  omega
theorem noLimb_eq {σ τ : St} {nf bd k : Nat} {ft lb : Nat → Nat} (h : RF σ τ nf ft lb bd) (hk : k < nf) (x : Int32) : fX7_noLimb τ (nI k) x = some (if 0 ≤ x.toInt ∧ x.toInt < lb k then 0 else 1) := by
  have g := h.2.2.1 k hk
  have g8 := g.2.2.1
  have g6 := h.1.2.2
  unfold fX7_noLimb
  rw [grdN (by omega) (by decide), ixN (by omega), g.2.1]
  have e : fX7_in x 0 (nI (lb k) - 1) = 0 ↔ ¬ (0 ≤ x.toInt ∧ x.toInt < lb k) := by
    rw [in_0, nI_pm (by omega)]
    show ¬ ((0 : Int) ≤ x.toInt ∧ _) ↔ _
    omega
  by_cases q : 0 ≤ x.toInt ∧ x.toInt < lb k
  · rw [if_neg (fun z => (e.mp z) q), if_pos q]
  · rw [if_pos (e.mpr q), if_neg q]
/-- both sides lay the limb alike -/
theorem limb_step {σ τ : St} {bd k : Nat} {x2 x3 x4 : Int32} {D nf : Nat} {ft lb : Nat → Nat} {nm : Nat} {mt : Nat → Nat} {ns : Nat} (h : Rel σ τ bd) (a : RD σ τ D) (b : RF σ τ nf ft lb bd) (c : RM σ τ nm mt nf ft lb bd) (d : RS σ τ ns) (hk : k < nf) (hp : x2 = -1 ∨ (0 ≤ x2.toInt ∧ x2.toInt < lb k)) : ∃ r σ' τ', fX6_addLimb_b31 σ x2 x3 x4 (ft k) = some (r, σ') ∧ fX7_addLimb_b27 τ (nI k) x2 x3 x4 = some (r, τ') ∧ Rel σ' τ' bd := by
  obtain ⟨⟨n1, n2, n6⟩, hr, hfg, htg, hap, hbd⟩ := id b
  unfold fX6_addLimb_b31 fX7_addLimb_b27
  simp only [inR]
  by_cases q1 : fX7_in x3 1 20 = 0
  · rw [if_pos q1, if_pos q1]; exact ⟨_, σ, τ, rfl, rfl, h⟩
  rw [if_neg q1, if_neg q1]
  by_cases q2 : fX7_in x4 0 7 = 0
  · rw [if_pos q2, if_pos q2]; exact ⟨_, σ, τ, rfl, rfl, h⟩
  rw [if_neg q2, if_neg q2]
  have p1 : (1 : Int) ≤ x3.toInt ∧ x3.toInt ≤ 20 := bnd_of q1
  have p2 : (0 : Int) ≤ x4.toInt ∧ x4.toInt ≤ 7 := bnd_of q2
  have g := hfg k hk
  have g8 := g.2.2.1
  have gt := htg k hk
  rw [grdN (by omega) (by decide), grdN (by omega) (by decide), ixN (by omega), g.2.1]
  unfold fX0_grow
  rw [g.1.2.2.2.2]
  by_cases q3 : lb k = 8
  · rw [q3, if_neg (by decide), if_pos (by decide), bd2_some]
    exact ⟨_, σ, τ, rfl, rfl, h⟩
  have q4 : nI (lb k) < 8 := by rw [show (8 : Int32) = nI 8 from rfl, nI_ltI (by omega) (by decide)]; omega
  have q5 : ¬ nI (lb k) = 8 := by rw [show (8 : Int32) = nI 8 from rfl, nI_eq (by omega) (by decide)]; omega
  have e8 : (8 : Int32) * nI k + nI (lb k) = nI (8 * k + lb k) := by rw [show (8 : Int32) = nI 8 from rfl, pk_mul, nI_add]
  rw [if_pos q4, if_neg q5, e8, grdN (by omega) (by decide), grdN (by omega) (by decide), ixN (by omega), ixN (by omega)]
  unfold fX0_grow_b26 fX0_grow_b34 fX0_grow_b42 fX0_grow_b52 fX7_addLimb_b86 fX7_addLimb_b94 fX7_addLimb_b103 fX7_addLimb_b113
  simp only [rI, grdN (show lb k < 8 by omega) (show 8 ≤ 2000 by decide), grdN (show 8 * k + lb k < 48 by omega) (show 48 ≤ 2000 by decide), grdN (show k < 6 by omega) (show 6 ≤ 2000 by decide), ixN (show lb k < 2 ^ 31 by omega), ixN (show 8 * k + lb k < 2 ^ 31 by omega), ixN (show k < 2 ^ 31 by omega), g.2.1, g.1.2.2.2.2, show ¬ (ft k = ft k + 1) by omega, show ¬ (ft k = ft k + 2) by omega, show ¬ (ft k = ft k + 3) by omega, show ¬ ((4 : Nat) = 5) by decide, show ¬ ((4 : Nat) = 6) by decide, show ¬ ((4 : Nat) = 7) by decide, false_and, if_false, and_self, if_true, nI_1, nI_pred, bd2_some]
  generalize hσ : wI (wI (wI (wI σ (ft k + 1) (lb k) x2) (ft k + 2) (lb k) x3) (ft k + 3) (lb k) x4) (ft k) 7 (nI (lb k + 1)) = σ'
  generalize hτ : wI (wI (wI (wI τ 5 (8 * k + lb k) x2) 6 (8 * k + lb k) x3) 7 (8 * k + lb k) x4) 4 k (nI (lb k + 1)) = τ'
  have s1 : ∀ t, t < ft k ∨ ft k + 4 ≤ t → σ'.1 t = σ.1 t := fun t ht => by
    rw [← hσ, rIr _ _ _ _ _ (by omega), rIr _ _ _ _ _ (by omega), rIr _ _ _ _ _ (by omega), rIr _ _ _ _ _ (by omega)]
  have s2 : ∀ j, σ'.1 (ft k) j = if j = 7 then nI (lb k + 1) else σ.1 (ft k) j := fun j => by
    rw [← hσ]
    simp only [rI, show ¬ (ft k = ft k + 1) by omega, show ¬ (ft k = ft k + 2) by omega, show ¬ (ft k = ft k + 3) by omega, false_and, if_false, true_and]
  have s3 : ∀ j, σ'.1 (ft k + 1) j = if j = lb k then x2 else σ.1 (ft k + 1) j := fun j => by
    rw [← hσ]
    simp [rI]
  have s4 : ∀ j, σ'.1 (ft k + 2) j = if j = lb k then x3 else σ.1 (ft k + 2) j := fun j => by
    rw [← hσ]
    simp [rI]
  have s5 : ∀ j, σ'.1 (ft k + 3) j = if j = lb k then x4 else σ.1 (ft k + 3) j := fun j => by
    rw [← hσ]
    simp [rI]
  have s6 : σ'.2.2 = σ.2.2 := by rw [← hσ]; rfl
  have t1 : ∀ t, t < 4 ∨ 7 < t → τ'.1 t = τ.1 t := fun t ht => by
    rw [← hτ, rIr _ _ _ _ _ (by omega), rIr _ _ _ _ _ (by omega), rIr _ _ _ _ _ (by omega), rIr _ _ _ _ _ (by omega)]
  have t4 : ∀ j, τ'.1 4 j = if j = k then nI (lb k + 1) else τ.1 4 j := fun j => by rw [← hτ]; simp [rI]
  have t5 : ∀ j, τ'.1 5 j = if j = 8 * k + lb k then x2 else τ.1 5 j := fun j => by rw [← hτ]; simp [rI]
  have t6 : ∀ j, τ'.1 6 j = if j = 8 * k + lb k then x3 else τ.1 6 j := fun j => by rw [← hτ]; simp [rI]
  have t7 : ∀ j, τ'.1 7 j = if j = 8 * k + lb k then x4 else τ.1 7 j := fun j => by rw [← hτ]; simp [rI]
  refine ⟨_, σ', τ', rfl, rfl, D, nf, ft, (fun q => if q = k then lb k + 1 else lb q), nm, mt, ns, ?_, ?_, ?_, ?_⟩
  · exact a.congr (by rw [s1 0 (by omega)]) (by rw [t1 0 (by omega)])
  · refine ⟨⟨by rw [s1 0 (by omega)]; exact n1, by rw [t1 0 (by omega)]; exact n2, n6⟩, by rw [s6]; exact hr, fun q hq => ?_, htg, hap, hbd⟩
    dsimp only
    by_cases e : q = k
    · subst e
      rw [if_pos rfl]
      obtain ⟨⟨a0, a1, a2, a3, a4⟩, b1, b2, b3, b4⟩ := g
      refine ⟨⟨by rw [s2]; simpa using a0, by rw [s2, t1 1 (by omega)]; simpa using a1, by rw [s2, t1 2 (by omega)]; simpa using a2, by rw [s2, t1 3 (by omega)]; simpa using a3, by rw [s2]; simp⟩, by rw [t4]; simp, by omega, ?_, fun j hj => ?_⟩
      · rw [t1 1 (by omega), t1 2 (by omega), t1 3 (by omega)]; exact b3
      · unfold Lq Lm
        rw [s3, s4, s5, t5, t6, t7]
        by_cases ej : j = lb q
        · subst ej
          simp only [if_true, and_self]
          refine ⟨trivial, ⟨?_, ?_⟩, p1, p2⟩
          · rcases hp with hp | hp
            · rw [hp]; decide
            · omega
          · rcases hp with hp | hp
            · rw [hp]; show (-1 : Int) < _; omega
            · omega
        · rw [if_neg ej, if_neg ej, if_neg ej, if_neg (by omega), if_neg (by omega), if_neg (by omega)]
          exact b4 j (by omega)
    · rw [if_neg e]
      have g2 := hfg q hq
      have hd := hap q k hq hk e
      have g3 := g2.2.2.1
      unfold Fg Lq Lm at g2 ⊢
      rw [s1 (ft q) (by omega), s1 (ft q + 1) (by omega), s1 (ft q + 2) (by omega), s1 (ft q + 3) (by omega), t1 1 (by omega), t1 2 (by omega), t1 3 (by omega), t4 q, if_neg e]
      obtain ⟨y1, y2, y3, y4, y5⟩ := g2
      refine ⟨y1, y2, y3, y4, fun j hj => ?_⟩
      rw [t5, t6, t7, if_neg (by omega), if_neg (by omega), if_neg (by omega)]
      exact y5 j hj
  · refine c.congr (by rw [s1 2 (by omega)]) (by rw [s6]) (fun j hj => s1 _ ?_) (by rw [t1 0 (by omega)]) (fun q g1 g2 => t1 q (by omega)) (fun f hf => ?_)
    · have := c.2.2.2.2 j k hj hk
      omega
    · by_cases e : f = k
      · rw [if_pos e, e]; omega
      · rw [if_neg e]; exact Nat.le_refl _
  · exact d.congr (by rw [s1 4 (by omega)]) (s1 5 (by omega)) (s1 6 (by omega)) (by rw [t1 0 (by omega)]) (t1 21 (by omega))
theorem s_addLimb (x1 x2 x3 x4 : Int32) : StS Rel (fun σ => fX6_addLimb σ x1 x2 x3 x4) (fun τ => fX7_addLimb τ x1 x2 x3 x4) := by
  intro σ τ bd h
  show ∃ r σ' τ', fX6_addLimb σ x1 x2 x3 x4 = some (r, σ') ∧ fX7_addLimb τ x1 x2 x3 x4 = some (r, τ') ∧ Rel σ' τ' bd
  obtain ⟨D, nf, ft, lb, nm, mt, ns, a, b, c, d⟩ := id h
  have n6 := b.1.2.2
  unfold fX6_addLimb fX7_addLimb
  rw [figAt b, noFig b, bd_some]
  by_cases hx : 0 ≤ x1.toInt ∧ x1.toInt < nf
  · rw [if_pos hx, if_pos hx, if_pos rfl, elim_some]
    obtain ⟨k, hk, rfl⟩ := toN hx.1 hx.2 (by omega)
    rw [ixN (by omega)]
    by_cases q : x2 = -1
    · rw [if_pos q, if_pos q]
      exact limb_step h a b c d hk (Or.inl q)
    · rw [if_neg q, if_neg q, noLimb_eq b hk, bd_some]
      by_cases q2 : 0 ≤ x2.toInt ∧ x2.toInt < lb k
      · rw [if_neg (fun z => ((hasLimb_0 b hk x2).mp z) q2), if_pos q2, if_pos rfl]
        exact limb_step h a b c d hk (Or.inr q2)
      · rw [if_pos ((hasLimb_0 b hk x2).mpr q2), if_neg q2, if_neg (by decide)]
        exact ⟨_, σ, τ, rfl, rfl, h⟩
  · rw [if_neg hx, if_neg hx, if_neg (by decide), elim_none]
    exact ⟨_, σ, τ, rfl, rfl, h⟩
