-- ===== the reference's poses =====
theorem SameM.wI {τ τ' : St} (h : SameM τ τ') {t k : Nat} {v : Int32} (ht : 14 ≤ t ∧ t ≠ 21) : SameM τ (wI τ' t k v) := fun q hq => by rw [rIr _ _ _ _ _ (by omega)]; exact h q hq
theorem SameM.wL {τ τ' : St} (h : SameM τ τ') {t k : Nat} {v : Int64} : SameM τ (wL τ' t k v) := fun q hq => h q hq
theorem e9k {k : Nat} : (9 : Int32) * nI k = nI (9 * k) := by rw [show (9 : Int32) = nI 9 from rfl, pk_mul]
theorem e9ki {k i : Nat} : (9 : Int32) * nI k + nI i = nI (9 * k + i) := by rw [e9k, nI_add]
theorem e8ki {k i : Nat} : (8 : Int32) * nI k + nI i = nI (8 * k + i) := by rw [show (8 : Int32) = nI 8 from rfl, pk_mul, nI_add]
theorem inStage_e {τ : St} {D : Nat} (h : τ.1 0 0 = nI D) (hD : 10 ≤ D ∧ D ≤ 200) (z : Int32) : (fX7_inStage τ z).toInt = max 1 (min z.toInt D) := by
  have e1 : (1 : Int32).toInt = 1 := rfl
  have hd : (nI D).toInt = D := nI_toInt (by omega)
  unfold fX7_inStage
  rw [h]
  by_cases h1 : (1 : Int32) ≤ z
  · rw [if_pos h1]
    rw [leI, e1] at h1
    by_cases h2 : z ≤ nI D
    · rw [if_pos h2]; rw [leI, hd] at h2; omega
    · rw [if_neg h2]; rw [leI, hd] at h2; omega
  · rw [if_neg h1]
    rw [leI, e1] at h1
    omega
def MB0 (τ τ' : St) (D k : Nat) : Prop := (τ'.2.1 16 (9 * k)).toInt = (τ.1 1 k).toInt ∧ (τ'.2.1 17 (9 * k)).toInt = (τ.1 2 k).toInt ∧ (τ'.1 14 k).toInt = min (τ.1 3 k).toInt D
theorem go1 {σ τ : St} {bd D nf : Nat} {ft lb : Nat → Nat} (a : RD σ τ D) (b : RF σ τ nf ft lb bd) (x : Int32) : ∀ (q m N : Nat) (τ' : St), m + q = nf → q < N → SameM τ τ' → (∀ k, k < m → MB0 τ τ' D k) → ∃ τ'', fX7_goTo_L2 N τ' x (nI m) = fX7_goTo_L66 FU τ'' x 0 ∧ SameM τ τ'' ∧ ∀ k, k < nf → MB0 τ τ'' D k := by
  have hn6 := b.1.2.2
  intro q
  induction q with
  | zero =>
    intro m N τ' hm hN sm mb
    obtain ⟨N, rfl⟩ : ∃ z, N = z + 1 := ⟨N - 1, by omega⟩
    have hm : m = nf := by omega
    subst hm
    rw [fX7_goTo_L2_s, sm 0 (by omega), b.1.2.1, if_pos (Int32.le_refl _)]
    exact ⟨τ', rfl, sm, mb⟩
  | succ q ih =>
    intro m N τ' hm hN sm mb
    obtain ⟨N, rfl⟩ : ∃ z, N = z + 1 := ⟨N - 1, by omega⟩
    rw [fX7_goTo_L2_s, sm 0 (by omega), b.1.2.1, if_neg (by rw [nI_leI (by omega) (by omega)]; omega)]
    unfold fX7_goTo_b26 fX7_goTo_b42 fX7_goTo_b58
    rw [e9k, grdN (by omega) (by omega), grdN (by omega) (by omega), grdN (by omega) (by omega), grdN (by omega) (by omega), grdN (by omega) (by omega), grdN (by omega) (by omega), ixN (by omega), ixN (by omega), show nI m + (1 : Int32) = nI (m + 1) from nI_1 m]
    rw [rL1, rL1, rL1, sm 1 (by omega), sm 2 (by omega), sm 3 (by omega)]
    have hst := inStage_e (τ := wL (wL τ' 16 (9 * m) (τ.1 1 m).toInt64) 17 (9 * m) (τ.1 2 m).toInt64) (D := D) (by rw [rL1, rL1, sm 0 (by omega)]; exact a.2.1) a.2.2 (τ.1 3 m)
    generalize fX7_inStage (wL (wL τ' 16 (9 * m) (τ.1 1 m).toInt64) 17 (9 * m) (τ.1 2 m).toInt64) (τ.1 3 m) = v at hst
    refine ih (m + 1) N _ (by omega) (by omega) ((sm.wL.wL).wI (by omega)) ?_
    intro k hk
    have h3 := (b.2.2.1 m (by omega)).2.2.2.1.2.2
    unfold Bnd at h3
    have hd := a.2.2
    unfold MB0
    rw [rI4, rL, rL, rL, rL, rI, rL1, rL1]
    by_cases e : k = m
    · subst e
      rw [if_neg (by omega), if_pos ⟨rfl, rfl⟩, if_pos ⟨rfl, rfl⟩, if_pos ⟨rfl, rfl⟩, toL, toL, hst]
      refine ⟨rfl, rfl, ?_⟩
      omega
    · rw [if_neg (by omega), if_neg (by omega), if_neg (by omega), if_neg (by omega), if_neg (by omega)]
      exact mb k (by omega)
theorem go2 {τ : St} {D nf : Nat} (x : Int32) : ∀ (q m N : Nat) (τ' : St), m + q = 48 → q < N → SameM τ τ' → (∀ k, k < nf → MB0 τ τ' D k) → (∀ z, z < m → τ'.1 15 z = τ.1 7 z) → ∃ τ'', fX7_goTo_L66 N τ' x (nI m) = fX7_goTo_L92 FU τ'' x 0 ∧ SameM τ τ'' ∧ (∀ k, k < nf → MB0 τ τ'' D k) ∧ ∀ z, z < 48 → τ''.1 15 z = τ.1 7 z := by
  intro q
  induction q with
  | zero =>
    intro m N τ' hm hN sm mb md
    obtain ⟨N, rfl⟩ : ∃ z, N = z + 1 := ⟨N - 1, by omega⟩
    have hm : m = 48 := by omega
    subst hm
    rw [fX7_goTo_L66_s, if_pos (by decide)]
    exact ⟨τ', rfl, sm, mb, md⟩
  | succ q ih =>
    intro m N τ' hm hN sm mb md
    obtain ⟨N, rfl⟩ : ∃ z, N = z + 1 := ⟨N - 1, by omega⟩
    rw [fX7_goTo_L66_s, if_neg (by rw [show (48 : Int32) = nI 48 from rfl, nI_leI (by decide) (by omega)]; omega)]
    unfold fX7_goTo_b84
    rw [grdN (by omega) (by omega), grdN (by omega) (by omega), ixN (by omega), show nI m + (1 : Int32) = nI (m + 1) from nI_1 m, sm 7 (by omega)]
    refine ih (m + 1) N _ (by omega) (by omega) (sm.wI (by omega)) ?_ ?_
    · intro k hk
      unfold MB0
      rw [rI4, rIr _ _ _ _ _ (by decide)]
      exact mb k hk
    · intro z hz
      rw [rI]
      by_cases e : z = m
      · rw [if_pos ⟨rfl, e⟩, e]
      · rw [if_neg (by omega)]; exact md z (by omega)
def MB (τ' : St) (k n : Nat) (s : Bs) : Prop := (τ'.2.1 16 (9 * k)).toInt = s.1 ∧ (τ'.2.1 17 (9 * k)).toInt = s.2.1 ∧ (τ'.1 14 k).toInt = s.2.2.1 ∧ ∀ i, i < n → (τ'.1 15 (8 * k + i)).toInt = s.2.2.2 i % 8
abbrev fld (τ : St) (D k : Nat) (L : List Nat) : Bs := (mvK τ k L).foldl (bst τ D) (bs0 τ D k)
def Inv (τ : St) (D nf : Nat) (lb : Nat → Nat) (L : List Nat) (m : Nat) (τ' : St) : Prop := SameM τ τ' ∧ ∀ k, k < nf → MB τ' k (lb k) (fld τ D k L) ∧ BsB D (lb k) (fld τ D k L) m
theorem Inv.mono {τ : St} {D nf : Nat} {lb : Nat → Nat} {L : List Nat} {m m' : Nat} {τ' : St} (h : Inv τ D nf lb L m τ') (hm : m ≤ m') : Inv τ D nf lb L m' τ' := ⟨h.1, fun k hk => ⟨(h.2 k hk).1, (h.2 k hk).2.mono hm⟩⟩
theorem fld_other {τ : St} {D k j f : Nat} {L : List Nat} (hf : ix (τ.1 9 j) = f) (h : k ≠ f) : fld τ D k (L ++ [j]) = fld τ D k L := by
  unfold fld mvK
  rw [List.filter_append, List.filter_cons, hf]
  simp [h.symm]
theorem fld_same {τ : St} {D j f : Nat} {L : List Nat} (hf : ix (τ.1 9 j) = f) : fld τ D f (L ++ [j]) = bst τ D (fld τ D f L) j := by
  unfold fld mvK
  rw [List.filter_append, List.filter_cons, hf, List.foldl_append]
  simp
theorem doMove_ok {σ τ τ' : St} {t j nf D m : Nat} {lb : Nat → Nat} {L : List Nat} (hd0 : τ.1 0 0 = nI D) (hD : 10 ≤ D ∧ D ≤ 200) (hnf : nf ≤ 6) (h8 : ∀ k, k < nf → lb k ≤ 8) (hm : Mv σ τ t j nf lb) (hj : j < 60) (hm2 : m < 10000) (h : Inv τ D nf lb L m τ') : ∃ τ'', fX7_doMove τ' (nI j) = some τ'' ∧ Inv τ D nf lb (L ++ [j]) (m + 1) τ'' := by
  obtain ⟨sm, hk⟩ := h
  obtain ⟨-, -, f, hf, ef, hc⟩ := hm
  have hff := hk f hf
  have h8f := h8 f hf
  have exf : ix (τ.1 9 j) = f := by rw [ef, ixN (by omega)]
  obtain ⟨⟨m1, m2, m3, m4⟩, n1, n2, n3, n4⟩ := hff
  have hsame := fld_same (D := D) (L := L) exf
  unfold fX7_doMove
  rw [grdN (by omega) (by omega), grdN (by omega) (by omega), ixN (by omega), sm 9 (by omega), sm 10 (by omega), sm 11 (by omega), ef]
  rcases hc with ⟨e1, -, e5, e6, e7⟩ | ⟨l, hl, e1, -, e3⟩
  · unfold Bnd at e5 e6 e7
    rw [if_pos (by rw [e1]; decide)]
    unfold fX7_doMove_b73 fX7_doMove_b92
    rw [e9k, grdN (by omega) (by omega), grdN (by omega) (by omega), grdN (by omega) (by omega), grdN (by omega) (by omega), grdN (by omega) (by omega), grdN (by omega) (by omega), grdN (by omega) (by omega), grdN (by omega) (by omega), grdN (by omega) (by omega), ixN (by omega), ixN (by omega), ixN (by omega)]
    simp only [rL1, sm 12 (by omega), sm 13 (by omega), rL, show ¬ ((17 : Nat) = 16) by decide, false_and, if_false]
    have hst := inStage_e (τ := wL (wL τ' 16 (9 * f) (τ'.2.1 16 (9 * f) + (τ.1 11 j).toInt64)) 17 (9 * f) (τ'.2.1 17 (9 * f) + (τ.1 12 j).toInt64)) (D := D) (by rw [rL1, rL1, sm 0 (by omega)]; exact hd0) hD (τ'.1 14 f + τ.1 13 j)
    generalize fX7_inStage (wL (wL τ' 16 (9 * f) (τ'.2.1 16 (9 * f) + (τ.1 11 j).toInt64)) 17 (9 * f) (τ'.2.1 17 (9 * f) + (τ.1 12 j).toInt64)) (τ'.1 14 f + τ.1 13 j) = v at hst
    refine ⟨_, rfl, (sm.wL.wL).wI (by omega), fun k hkn => ?_⟩
    by_cases e : k = f
    · subst e
      rw [hsame]
      have hb : bst τ D (fld τ D k L) j = ((fld τ D k L).1 + (τ.1 11 j).toInt, (fld τ D k L).2.1 + (τ.1 12 j).toInt, max 1 (min ((fld τ D k L).2.2.1 + (τ.1 13 j).toInt) D), (fld τ D k L).2.2.2) := if_pos (by rw [e1]; decide)
      rw [hb]
      generalize fld τ D k L = s at *
      unfold absI at n1 n2 n4
      constructor
      · refine ⟨?_, ?_, ?_, ?_⟩
        · rw [rI4, rL, if_neg (by omega), rL, if_pos ⟨rfl, rfl⟩, addL, m1, toL] <;> rw [toL] <;> omega
        · rw [rI4, rL, if_pos ⟨rfl, rfl⟩, addL, m2, toL] <;> rw [toL] <;> omega
        · rw [rI, if_pos ⟨rfl, rfl⟩, hst, addI, m3] <;> omega
        · intro i hi
          rw [rIr _ _ _ _ _ (by decide), rL1, rL1]
          exact m4 i hi
      · unfold BsB absI
        dsimp only
        refine ⟨by omega, by omega, by omega, fun i hi => ?_⟩
        have := n4 i hi
        omega
    · rw [fld_other exf e]
      obtain ⟨⟨p1, p2, p3, p4⟩, q0⟩ := hk k hkn
      refine ⟨⟨?_, ?_, ?_, ?_⟩, q0.mono (by omega)⟩
      · rw [rI4, rL, if_neg (by omega), rL, if_neg (by omega)]; exact p1
      · rw [rI4, rL, if_neg (by omega), rL, if_neg (by omega)]; exact p2
      · rw [rI, if_neg (by omega)]; exact p3
      · intro i hi
        rw [rIr _ _ _ _ _ (by decide), rL1, rL1]
        exact p4 i hi
  · unfold Bnd at e3
    rw [e1, if_neg (by rw [ltI, nI_toInt (by omega)]; show ¬ ((l : Int) < 0); omega), e8ki]
    rw [grdN (by omega) (by omega), grdN (by omega) (by omega), grdN (by omega) (by omega), grdN (by omega) (by omega), ixN (by omega)]
    have e8 : (8 : Int32).toInt = 8 := rfl
    have hd4 := m4 l hl
    have hsum : (τ'.1 15 (8 * f + l) + τ.1 11 j + (8 : Int32)).toInt = (fld τ D f L).2.2.2 l % 8 + (τ.1 11 j).toInt + 8 := by
      have h1 : (τ'.1 15 (8 * f + l) + τ.1 11 j).toInt = (fld τ D f L).2.2.2 l % 8 + (τ.1 11 j).toInt := by
        rw [addI, hd4] <;> omega
      rw [addI, h1, e8] <;> rw [h1, e8] <;> omega
    have hr := rem8 (τ'.1 15 (8 * f + l) + τ.1 11 j + (8 : Int32))
    rw [hsum, if_pos (by omega)] at hr
    generalize (τ'.1 15 (8 * f + l) + τ.1 11 j + (8 : Int32)) - (τ'.1 15 (8 * f + l) + τ.1 11 j + (8 : Int32)) / (8 : Int32) * (8 : Int32) = v at hr
    refine ⟨_, rfl, sm.wI (by omega), fun k hkn => ?_⟩
    by_cases e : k = f
    · subst e
      rw [hsame]
      have hb : bst τ D (fld τ D k L) j = ((fld τ D k L).1, (fld τ D k L).2.1, (fld τ D k L).2.2.1, fun i => if i = l then (fld τ D k L).2.2.2 i + (τ.1 11 j).toInt else (fld τ D k L).2.2.2 i) := by
        unfold bst
        rw [if_neg (by rw [e1, nI_toInt (by omega)]; omega), e1, ixN (by omega)]
      rw [hb]
      generalize fld τ D k L = s at *
      unfold absI at n1 n2 n4
      constructor
      · refine ⟨?_, ?_, ?_, ?_⟩
        · rw [rI4]; exact m1
        · rw [rI4]; exact m2
        · rw [rIr _ _ _ _ _ (by decide)]; exact m3
        · intro i hi
          dsimp only
          rw [rI]
          by_cases ei : i = l
          · subst ei
            rw [if_pos ⟨rfl, rfl⟩, if_pos rfl, hr]
            omega
          · rw [if_neg (by omega), if_neg ei]
            exact m4 i hi
      · unfold BsB absI
        dsimp only
        refine ⟨by omega, by omega, by omega, fun i hi => ?_⟩
        have := n4 i hi
        by_cases ei : i = l
        · rw [if_pos ei]; omega
        · rw [if_neg ei]; omega
    · rw [fld_other exf e]
      have h8k := h8 k hkn
      obtain ⟨⟨p1, p2, p3, p4⟩, q0⟩ := hk k hkn
      refine ⟨⟨?_, ?_, ?_, ?_⟩, q0.mono (by omega)⟩
      · rw [rI4]; exact p1
      · rw [rI4]; exact p2
      · rw [rIr _ _ _ _ _ (by decide)]; exact p3
      · intro i hi
        rw [rI, if_neg (by omega)]
        exact p4 i hi

-- the beats and the moves
theorem filt_rs (β : Nat → Nat) (b j : Nat) : (List.range (j + 1)).filter (fun z => β z == b) = (List.range j).filter (fun z => β z == b) ++ (if β j = b then [j] else []) := filt_succ (fun _ _ => rfl)
theorem go3 {σ τ : St} {bd D nf : Nat} {ft lb : Nat → Nat} {nm : Nat} {mt : Nat → Nat} (a : RD σ τ D) (bb : RF σ τ nf ft lb bd) (c : RM σ τ nm mt nf ft lb bd) (k92 : St → Int32 → Int32 → Option St) (x : Int32) {b : Nat} (hb : b < 100) : ∀ (q j N : Nat) (τ' : St), j + q = nm → q < N → Inv τ D nf lb (seg (bt τ) nm 0 b ++ (List.range j).filter (fun z => bt τ z == b)) (60 * b + j) τ' → ∃ τ'', fX7_goTo_L99 k92 N τ' x (nI b) (nI j) = k92 τ'' x (nI (b + 1)) ∧ Inv τ D nf lb (seg (bt τ) nm 0 (b + 1)) (60 * (b + 1)) τ'' := by
  have hm60 := c.1.2.2
  intro q
  induction q with
  | zero =>
    intro j N τ' hj hN inv
    obtain ⟨N, rfl⟩ : ∃ z, N = z + 1 := ⟨N - 1, by omega⟩
    have hj : j = nm := by omega
    subst hj
    rw [fX7_goTo_L99_s, inv.1 0 (by omega), c.1.2.1, if_pos (Int32.le_refl _), show nI b + (1 : Int32) = nI (b + 1) from nI_1 b]
    refine ⟨τ', rfl, ?_⟩
    have e : seg (bt τ) j 0 (b + 1) = seg (bt τ) j 0 b ++ (List.range j).filter (fun z => bt τ z == b) := by
      rw [seg_app, Nat.zero_add, seg_one]
    rw [e]
    exact inv.mono (by omega)
  | succ q ih =>
    intro j N τ' hj hN inv
    obtain ⟨N, rfl⟩ : ∃ z, N = z + 1 := ⟨N - 1, by omega⟩
    rw [fX7_goTo_L99_s, inv.1 0 (by omega), c.1.2.1, if_neg (by rw [nI_leI (by omega) (by omega)]; omega), grdN (by omega) (by omega), ixN (by omega), inv.1 8 (by omega)]
    have hmv := c.2.2.1 j (by omega)
    obtain ⟨b', g1, g2, g3, -⟩ := hmv.beat
    have i1 : nI j + (1 : Int32) = nI (j + 1) := nI_1 j
    have hf := filt_rs (bt τ) b j
    by_cases e : b' = b
    · rw [g2, if_pos (by rw [e])]
      obtain ⟨τ1, w1, w2⟩ := doMove_ok a.2.1 a.2.2 bb.1.2.2 (fun k hk => (bb.2.2.1 k hk).2.2.1) hmv (by omega) (by omega) inv
      rw [w1, bd_some]
      unfold fX7_goTo_b122
      rw [i1]
      rw [if_pos (by rw [g3]; exact e)] at hf
      refine ih (j + 1) N τ1 (by omega) (by omega) ?_
      rw [hf, ← List.append_assoc]
      exact w2
    · rw [g2, if_neg (by rw [nI_eqN (by omega) (by omega)]; exact e)]
      unfold fX7_goTo_b122
      rw [i1]
      rw [if_neg (by rw [g3]; exact e), List.append_nil] at hf
      refine ih (j + 1) N τ' (by omega) (by omega) ?_
      rw [hf]
      exact inv.mono (by omega)
theorem go4 {σ τ : St} {bd D nf : Nat} {ft lb : Nat → Nat} {nm : Nat} {mt : Nat → Nat} (a : RD σ τ D) (bb : RF σ τ nf ft lb bd) (c : RM σ τ nm mt nf ft lb bd) {B : Nat} (hB : B < 100) : ∀ (q b N : Nat) (τ' : St), b + q = B + 1 → q < N → Inv τ D nf lb (seg (bt τ) nm 0 b) (60 * b) τ' → ∃ τ'', fX7_goTo_L92 N τ' (nI B) (nI b) = fX7_goTo_L136 FU τ'' 0 ∧ Inv τ D nf lb (seg (bt τ) nm 0 (B + 1)) (60 * (B + 1)) τ'' := by
  have hm60 := c.1.2.2
  intro q
  induction q with
  | zero =>
    intro b N τ' hb hN inv
    obtain ⟨N, rfl⟩ : ∃ z, N = z + 1 := ⟨N - 1, by omega⟩
    have hb : b = B + 1 := by omega
    subst hb
    rw [fX7_goTo_L92_s, if_pos (by rw [nI_ltI (by omega) (by omega)]; omega)]
    exact ⟨τ', rfl, inv⟩
  | succ q ih =>
    intro b N τ' hb hN inv
    obtain ⟨N, rfl⟩ : ∃ z, N = z + 1 := ⟨N - 1, by omega⟩
    rw [fX7_goTo_L92_s, if_neg (by rw [nI_ltI (by omega) (by omega)]; omega)]
    obtain ⟨τ1, w1, w2⟩ := go3 a bb c (fX7_goTo_L92 N) (nI B) (b := b) (by omega) nm 0 FU τ' (by omega) (by rw [FU_big]; omega) (by simpa using inv)
    rw [nI_0] at w1
    rw [w1]
    exact ih (b + 1) N τ1 (by omega) (by omega) w2
-- the points
def PM (τ' : St) (k : Nat) (P : Nat → Int × Int × Int) (m : Nat) : Prop := ∀ i, i ≤ m → (τ'.2.1 16 (9 * k + i)).toInt = (P i).1 ∧ (τ'.2.1 17 (9 * k + i)).toInt = (P i).2.1 ∧ (τ'.1 18 (9 * k + i)).toInt = (P i).2.2
/-- what laying the points of figure k leaves -/
def FM (k : Nat) (τ τ' : St) : Prop := (∀ t, t ≠ 18 → τ'.1 t = τ.1 t) ∧ (∀ z, z < 9 * k ∨ 9 * k + 9 ≤ z → τ'.1 18 z = τ.1 18 z ∧ τ'.2.1 16 z = τ.2.1 16 z ∧ τ'.2.1 17 z = τ.2.1 17 z) ∧ τ'.2.1 16 (9 * k) = τ.2.1 16 (9 * k) ∧ τ'.2.1 17 (9 * k) = τ.2.1 17 (9 * k)
theorem stepX_e {w : Nat} (h : w < 8) : (fX7_stepX (nI w)).toInt = sx8 w := by
  rcases (show w = 0 ∨ w = 1 ∨ w = 2 ∨ w = 3 ∨ w = 4 ∨ w = 5 ∨ w = 6 ∨ w = 7 by omega) with rfl | rfl | rfl | rfl | rfl | rfl | rfl | rfl <;> decide
theorem stepY_e {w : Nat} (h : w < 8) : (fX7_stepY (nI w)).toInt = sy8 w := by
  rcases (show w = 0 ∨ w = 1 ∨ w = 2 ∨ w = 3 ∨ w = 4 ∨ w = 5 ∨ w = 6 ∨ w = 7 by omega) with rfl | rfl | rfl | rfl | rfl | rfl | rfl | rfl <;> decide
theorem go5 {τ τ0 : St} {k n : Nat} {s : Bs} (hk : k < 6) (hn8 : n ≤ 8) (h4 : τ0.1 4 k = nI n) (h5 : τ0.1 5 = τ.1 5) (h6 : τ0.1 6 = τ.1 6) (hl : ∀ j, j < n → Lm τ k j) (hs1 : absI s.1 3100) (hs2 : absI s.2.1 3100) (hd : ∀ i, i < n → (τ0.1 15 (8 * k + i)).toInt = s.2.2.2 i % 8) : ∀ (q m N : Nat) (τ' : St), m + q = n → q < N → FM k τ0 τ' → PM τ' k (ptN τ k s m) m → ∃ τ'', fX7_layPoints_L12 N τ' (nI k) (nI m) = some τ'' ∧ FM k τ0 τ'' ∧ PM τ'' k (ptN τ k s n) n := by
  intro q
  induction q with
  | zero =>
    intro m N τ' hm hN fm pm
    obtain ⟨N, rfl⟩ : ∃ z, N = z + 1 := ⟨N - 1, by omega⟩
    have hm : m = n := by omega
    subst hm
    rw [fX7_layPoints_L12_s, grdN (by omega) (by omega), ixN (by omega), fm.1 4 (by decide), h4, if_pos (Int32.le_refl _)]
    exact ⟨τ', rfl, fm, pm⟩
  | succ q ih =>
    intro m N τ' hm hN fm pm
    obtain ⟨N, rfl⟩ : ∃ z, N = z + 1 := ⟨N - 1, by omega⟩
    have hmn : m < n := by omega
    rw [fX7_layPoints_L12_s, grdN (by omega) (by omega), ixN (by omega), fm.1 4 (by decide), h4, if_neg (by rw [nI_leI (by omega) (by omega)]; omega), e8ki, ixN (by omega), grdN (by omega) (by omega), fm.1 5 (by decide), h5, fm.1 15 (by decide)]
    obtain ⟨⟨p1, p2⟩, ⟨p3, p4⟩, -⟩ := hl m hmn
    have e1 : (1 : Int32).toInt = 1 := rfl
    have hadd : (τ.1 5 (8 * k + m) + (1 : Int32)).toInt = (τ.1 5 (8 * k + m)).toInt + 1 := by
      rw [addI, e1] <;> rw [e1] <;> omega
    obtain ⟨st, hst, est⟩ := toN (x := τ.1 5 (8 * k + m) + (1 : Int32)) (n := m + 1) (by omega) (by omega) (by omega)
    rw [Int32.add_assoc ((9 : Int32) * nI k) (τ.1 5 (8 * k + m)), est, e9ki, e9ki]
    rw [est, nI_toInt (by omega)] at hadd
    have hnat : ((τ.1 5 (8 * k + m)).toInt + 1).toNat = st := by omega
    rw [show nI (9 * k + m) + (1 : Int32) = nI (9 * k + (m + 1)) from nI_1 _, grdN (by omega) (by omega), grdN (by omega) (by omega), grdN (by omega) (by omega), ixN (by omega), ixN (by omega)]
    obtain ⟨g1, g2, g3⟩ := pm st (by omega)
    have hpb := ptN_b hl hs1 hs2 m (by omega) st (by omega)
    unfold absI at hpb
    have gd := hd m hmn
    have hsum : (τ'.1 18 (9 * k + st) + τ0.1 15 (8 * k + m)).toInt = (ptN τ k s m st).2.2 + s.2.2.2 m % 8 := by
      rw [addI, g3, gd] <;> rw [g3, gd] <;> omega
    have hr := rem8 (τ'.1 18 (9 * k + st) + τ0.1 15 (8 * k + m))
    rw [hsum, if_pos (by omega)] at hr
    generalize (τ'.1 18 (9 * k + st) + τ0.1 15 (8 * k + m)) - (τ'.1 18 (9 * k + st) + τ0.1 15 (8 * k + m)) / (8 : Int32) * (8 : Int32) = v at hr
    obtain ⟨w, hw, rfl⟩ := toN (x := v) (n := 8) (by omega) (by omega) (by decide)
    rw [nI_toInt (by omega)] at hr
    unfold fX7_layPoints_b78 fX7_layPoints_b111 fX7_layPoints_b144
    rw [grdN (by omega) (by omega), grdN (by omega) (by omega), grdN (by omega) (by omega), grdN (by omega) (by omega), grdN (by omega) (by omega), grdN (by omega) (by omega), grdN (by omega) (by omega), grdN (by omega) (by omega), ixN (by omega), ixN (by omega), ixN (by omega), show nI m + (1 : Int32) = nI (m + 1) from nI_1 m]
    simp only [rL1, rL, rI, rI4, show ¬ ((6 : Nat) = 18) by decide, show ¬ ((17 : Nat) = 16) by decide, false_and, if_false, and_self, if_true, fm.1 6 (by decide), h6]
    have a1 := mul3 (sx8_3 w) p3 p4
    have a2 := mul3 (sy8_3 w) p3 p4
    have hwe : ((w : Nat) : Int) = ((ptN τ k s m st).2.2 + s.2.2.2 m) % 8 := by omega
    have hX : (τ'.2.1 16 (9 * k + st) + (τ.1 6 (8 * k + m) * fX7_stepX (nI w)).toInt64).toInt = (ptN τ k s m st).1 + (τ.1 6 (8 * k + m)).toInt * sx8 w := by
      have hmul : (τ.1 6 (8 * k + m) * fX7_stepX (nI w)).toInt = (τ.1 6 (8 * k + m)).toInt * sx8 w := by
        rw [mulI, stepX_e hw] <;> rw [stepX_e hw] <;> omega
      rw [addL, toL, hmul, g1] <;> rw [toL, hmul, g1] <;> omega
    have hY : (τ'.2.1 17 (9 * k + st) + (τ.1 6 (8 * k + m) * fX7_stepY (nI w)).toInt64).toInt = (ptN τ k s m st).2.1 + (τ.1 6 (8 * k + m)).toInt * sy8 w := by
      have hmul : (τ.1 6 (8 * k + m) * fX7_stepY (nI w)).toInt = (τ.1 6 (8 * k + m)).toInt * sy8 w := by
        rw [mulI, stepY_e hw] <;> rw [stepY_e hw] <;> omega
      rw [addL, toL, hmul, g2] <;> rw [toL, hmul, g2] <;> omega
    generalize τ'.2.1 16 (9 * k + st) + (τ.1 6 (8 * k + m) * fX7_stepX (nI w)).toInt64 = VX at hX
    generalize τ'.2.1 17 (9 * k + st) + (τ.1 6 (8 * k + m) * fX7_stepY (nI w)).toInt64 = VY at hY
    refine ih (m + 1) N _ (by omega) (by omega) ⟨?_, ?_, ?_, ?_⟩ ?_
    · intro t ht
      rw [rL1, rL1, rIr _ _ _ _ _ ht]
      exact fm.1 t ht
    · intro z hz
      rw [rL1, rL1, rI, if_neg (by omega), rL, if_neg (by omega), rL, if_neg (by omega), rI4, rL, if_neg (by omega), rL, if_neg (by omega), rI4]
      exact fm.2.1 z hz
    · rw [rL, if_neg (by omega), rL, if_neg (by omega), rI4]; exact fm.2.2.1
    · rw [rL, if_neg (by omega), rL, if_neg (by omega), rI4]; exact fm.2.2.2
    · intro i hi
      by_cases e : i = m + 1
      · subst e
        rw [ptN_new, hnat]
        unfold ptS
        dsimp only
        rw [← hwe, ← hX, ← hY]
        refine ⟨?_, ?_, ?_⟩
        · rw [rL, if_neg (by omega), rL, if_pos ⟨rfl, rfl⟩]
        · rw [rL, if_pos ⟨rfl, rfl⟩]
        · rw [rL1, rL1, rI, if_pos ⟨rfl, rfl⟩, nI_toInt (by omega)]
      · rw [ptN_old _ _ _ _ _ (by omega), rL, if_neg (by omega), rL, if_neg (by omega), rI4, rL, if_neg (by omega), rL, if_neg (by omega), rI4, rL1, rL1, rI, if_neg (by omega)]
        exact pm i (by omega)
/-- all the poses, at the end -/
def MP (τ τ' : St) (D nf : Nat) (lb : Nat → Nat) (nm B m : Nat) : Prop := ∀ k, k < m → (τ'.1 14 k).toInt = (bsA τ D k nm B).2.2.1 ∧ PM τ' k (ptN τ k (bsA τ D k nm B) (lb k)) (lb k)
theorem go6 {σ τ : St} {bd D nf : Nat} {ft lb : Nat → Nat} {nm : Nat} {B : Nat} (bb : RF σ τ nf ft lb bd) (hbs : ∀ k, k < nf → BsB D (lb k) (bsA τ D k nm B) 60) : ∀ (q m N : Nat) (τ' : St), m + q = nf → q < N → SameM τ τ' → (∀ k, k < nf → MB τ' k (lb k) (bsA τ D k nm B)) → MP τ τ' D nf lb nm B m → ∃ τ'', fX7_goTo_L136 N τ' (nI m) = some τ'' ∧ SameM τ τ'' ∧ MP τ τ'' D nf lb nm B nf := by
  have hn6 := bb.1.2.2
  intro q
  induction q with
  | zero =>
    intro m N τ' hm hN sm mb mp
    obtain ⟨N, rfl⟩ : ∃ z, N = z + 1 := ⟨N - 1, by omega⟩
    have hm : m = nf := by omega
    subst hm
    rw [fX7_goTo_L136_s, sm 0 (by omega), bb.1.2.1, if_pos (Int32.le_refl _)]
    exact ⟨τ', rfl, sm, mp⟩
  | succ q ih =>
    intro m N τ' hm hN sm mb mp
    obtain ⟨N, rfl⟩ : ∃ z, N = z + 1 := ⟨N - 1, by omega⟩
    have hmn : m < nf := by omega
    rw [fX7_goTo_L136_s, sm 0 (by omega), bb.1.2.1, if_neg (by rw [nI_leI (by omega) (by omega)]; omega)]
    unfold fX7_layPoints fX7_layPoints_b10
    rw [e9k, grdN (by omega) (by omega), ixN (by omega)]
    have hf := bb.2.2.1 m hmn
    obtain ⟨c1, c2, c3, c4⟩ := hbs m hmn
    obtain ⟨d1, d2, d3, d4⟩ := mb m hmn
    have h18 : ∀ z, z ≠ 9 * m → (wI τ' 18 (9 * m) 0).1 18 z = τ'.1 18 z := fun z hz => by rw [rI, if_neg (by omega)]
    obtain ⟨τ1, w1, w2, w3⟩ := go5 (τ := τ) (τ0 := wI τ' 18 (9 * m) 0) (k := m) (n := lb m) (s := bsA τ D m nm B) (by omega) hf.2.2.1 (by rw [rIr _ _ _ _ _ (by decide), sm 4 (by omega)]; exact hf.2.1) (by rw [rIr _ _ _ _ _ (by decide), sm 5 (by omega)]) (by rw [rIr _ _ _ _ _ (by decide), sm 6 (by omega)]) (fun j hj => (hf.2.2.2.2 j hj).2) (by unfold absI at *; omega) (by unfold absI at *; omega) (fun i hi => by rw [rIr _ _ _ _ _ (by decide)]; exact d4 i hi) (lb m) 0 FU (wI τ' 18 (9 * m) 0) (by omega) (by rw [FU_big]; have := hf.2.2.1; omega) ⟨fun _ _ => rfl, fun _ _ => ⟨rfl, rfl, rfl⟩, rfl, rfl⟩ (fun i hi => by
      rw [show i = 0 by omega, Nat.add_zero, rI4, rI, if_pos ⟨rfl, rfl⟩]
      exact ⟨d1, d2, rfl⟩)
    rw [nI_0] at w1
    rw [w1, bd_some, show nI m + (1 : Int32) = nI (m + 1) from nI_1 m]
    have hrow : ∀ t, t ≠ 18 → τ1.1 t = τ'.1 t := fun t ht => by rw [w2.1 t ht, rIr _ _ _ _ _ ht]
    have hbase : ∀ k, τ1.2.1 16 (9 * k) = τ'.2.1 16 (9 * k) ∧ τ1.2.1 17 (9 * k) = τ'.2.1 17 (9 * k) := by
      intro k
      by_cases e : k = m
      · subst e; exact ⟨w2.2.2.1, w2.2.2.2⟩
      · exact ⟨(w2.2.1 (9 * k) (by omega)).2.1, (w2.2.1 (9 * k) (by omega)).2.2⟩
    refine ih (m + 1) N τ1 (by omega) (by omega) (fun t ht => by rw [hrow t (by omega)]; exact sm t ht) ?_ ?_
    · intro k hk
      unfold MB
      rw [(hbase k).1, (hbase k).2, hrow 14 (by decide), hrow 15 (by decide)]
      exact mb k hk
    · intro k hk
      rw [hrow 14 (by decide)]
      by_cases e : k = m
      · subst e
        exact ⟨d3, w3⟩
      · obtain ⟨y1, y2⟩ := mp k (by omega)
        refine ⟨y1, fun i hi => ?_⟩
        have h8 := (bb.2.2.1 k (by omega)).2.2.1
        have z1 := w2.2.1 (9 * k + i) (by omega)
        rw [z1.1, z1.2.1, z1.2.2, h18 _ (by omega), rI4]
        exact y2 i hi
theorem goTo_ok {σ τ : St} {bd D nf : Nat} {ft lb : Nat → Nat} {nm : Nat} {mt : Nat → Nat} {B : Nat} (a : RD σ τ D) (b : RF σ τ nf ft lb bd) (c : RM σ τ nm mt nf ft lb bd) (hB : B < 100) : ∃ τ', fX7_goTo τ (nI B) = some τ' ∧ SameM τ τ' ∧ MP τ τ' D nf lb nm B nf := by
  have hn6 := b.1.2.2
  unfold fX7_goTo
  obtain ⟨τ1, u1, u2, u3⟩ := go1 a b (nI B) nf 0 FU τ (by omega) (by rw [FU_big]; omega) (SameM.rfl' τ) (fun k hk => absurd hk (Nat.not_lt_zero k))
  rw [nI_0] at u1
  rw [u1]
  obtain ⟨τ2, v1, v2, v3, v4⟩ := go2 (nI B) 48 0 FU τ1 (by omega) (by rw [FU_big]; omega) u2 u3 (fun k hk => absurd hk (Nat.not_lt_zero k))
  rw [nI_0] at v1
  rw [v1]
  have hinv : Inv τ D nf lb (seg (bt τ) nm 0 0) (60 * 0) τ2 := by
    refine ⟨v2, fun k hk => ?_⟩
    have hf := b.2.2.1 k hk
    have h8 := hf.2.2.1
    obtain ⟨m1, m2, m3⟩ := v3 k hk
    have e0 : fld τ D k (seg (bt τ) nm 0 0) = bs0 τ D k := rfl
    rw [e0]
    refine ⟨⟨m1, m2, m3, fun i hi => ?_⟩, (take_ok (t0 := 7) (B := 0) b c hk (by decide) a.2.2 (by decide)).2 |> fun _ => ?_⟩
    · rw [v4 (8 * k + i) (by omega)]
      have := (hf.2.2.2.2 i hi).2.2.2
      show (τ.1 7 (8 * k + i)).toInt = (τ.1 7 (8 * k + i)).toInt % 8
      omega
    · obtain ⟨-, -, -, -, h9⟩ := stand_ok (t0 := 7) hf (b.2.2.2.1 k hk).1 (by decide) a.2.2
      exact h9
  obtain ⟨τ3, w1, w2⟩ := go4 a b c hB (B + 1) 0 FU τ2 (by omega) (by rw [FU_big]; omega) hinv
  rw [nI_0] at w1
  rw [w1]
  obtain ⟨τ4, x1, x2, x3⟩ := go6 (B := B) (D := D) (nm := nm) b (fun k hk => (take_ok (t0 := 7) b c hk (by decide) a.2.2 hB).2) nf 0 FU τ3 (by omega) (by rw [FU_big]; omega) w2.1 (fun k hk => (w2.2 k hk).1) (fun k hk => absurd hk (Nat.not_lt_zero k))
  rw [nI_0] at x1
  exact ⟨τ4, x1, x2, x3⟩
