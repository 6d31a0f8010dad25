-- ===== the reference finds the best order =====
theorem okl_e {n : Nat} {l : List Nat} (h : okl n l = true) : l.length = n ∧ ∀ i, i < n → l.getD i 0 < n := by
  unfold okl at h
  rw [Bool.and_eq_true, beq_iff_eq, List.all_eq_true] at h
  refine ⟨h.1, fun i hi => ?_⟩
  have hlt : i < l.length := by omega
  have := h.2 (l[i]) (List.getElem_mem hlt)
  rw [List.getD_eq_getElem?_getD, List.getElem?_eq_getElem hlt]
  exact of_decide_eq_true this
theorem drop_at {l : List Nat} {i : Nat} (h : i < l.length) : l.drop i = l.getD i 0 :: l.drop (i + 1) := by
  rw [List.drop_eq_getElem_cons h, List.getD_eq_getElem?_getD, List.getElem?_eq_getElem h]
  rfl
theorem cost_loop {τ : St} {n : Nat} {l : List Nat} {c : Nat → Nat} (hn : n ≤ 8) (h : RO τ n (fun i => l.getD i 0)) (hl : okl n l = true) (hc : ∀ i, i < n → τ.1 21 i = nI (c i) ∧ c i < 64) : ∀ (q i N x : Nat), i + q = n → 1 ≤ i → q < N → fX7_costNow_L4 τ N (nI x) (nI i) = some (nI (x + pcost c (l.drop i) (l.getD (i - 1) 0))) := by
  obtain ⟨hlen, hlt⟩ := okl_e hl
  intro q
  induction q with
  | zero =>
    intro i N x hi h1 hN
    obtain ⟨N, rfl⟩ : ∃ z, N = z + 1 := ⟨N - 1, by omega⟩
    rw [fX7_costNow_L4_s, h.1, if_pos (by rw [nI_leI (by omega) (by omega)]; omega), List.drop_eq_nil_of_le (by omega)]
    rfl
  | succ q ih =>
    intro i N x hi h1 hN
    obtain ⟨N, rfl⟩ : ∃ z, N = z + 1 := ⟨N - 1, by omega⟩
    have a1 := (h.2 (i - 1) (by omega)).1
    have a2 := (h.2 i (by omega)).1
    have a1 : τ.1 22 (i - 1) = nI (l.getD (i - 1) 0) := a1
    have a2 : τ.1 22 i = nI (l.getD i 0) := a2
    have b1 := hlt (i - 1) (by omega)
    have b2 := hlt i (by omega)
    obtain ⟨c1, c2⟩ := hc _ b1
    obtain ⟨c3, c4⟩ := hc _ b2
    have hx := xor_lt64 c2 c4
    rw [fX7_costNow_L4_s, h.1, if_neg (by rw [nI_leI (by omega) (by omega)]; omega), show nI i - (1 : Int32) = nI (i - 1) by rw [← nI_subm, nI_dec h1], grdN (by omega) (by omega), ixN (by omega), a1, grdN (by omega) (by omega), grdN (by omega) (by omega), ixN (by omega), a2, grdN (by omega) (by omega), ixN (by omega), ixN (by omega), c1, c3, nI_xor, bits_e (by omega), bd_some, nI_add, show nI i + (1 : Int32) = nI (i + 1) from nI_1 i, ih (i + 1) N _ (by omega) (by omega) (by omega), drop_at (show i < l.length by omega), Nat.add_sub_cancel]
    show some (nI (x + popN 9 (c (l.getD (i - 1) 0) ^^^ c (l.getD i 0)) + pcost c (l.drop (i + 1)) (l.getD i 0))) = some (nI (x + (cs c (l.getD (i - 1) 0) (l.getD i 0) + pcost c (l.drop (i + 1)) (l.getD i 0))))
    rw [show popN 9 (c (l.getD (i - 1) 0) ^^^ c (l.getD i 0)) = pc6 (c (l.getD (i - 1) 0) ^^^ c (l.getD i 0)) from pc_f ⟨_, hx⟩, Nat.add_assoc]
    rfl
/-- the cost of an order -/
def ocost (c : Nat → Nat) (l : List Nat) : Nat := pcost c (l.drop 1) (l.getD 0 0)
theorem costNow_ok {τ : St} {n : Nat} {l : List Nat} {c : Nat → Nat} (h1 : 1 ≤ n) (hn : n ≤ 8) (h : RO τ n (fun i => l.getD i 0)) (hl : okl n l = true) (hc : ∀ i, i < n → τ.1 21 i = nI (c i) ∧ c i < 64) : fX7_costNow τ = some (nI (ocost c l)) := by
  unfold fX7_costNow
  have := cost_loop hn h hl hc (n - 1) 1 FU 0 (by omega) (Nat.le_refl _) (by rw [FU_big]; omega)
  rw [nI_0, Nat.zero_add] at this
  exact this
def SB (τ τ' : St) : Prop := ∀ t, t ≠ 22 → t ≠ 23 → τ'.1 t = τ.1 t
theorem copy_ok {n : Nat} (hn : n ≤ 8) (k27 : St → Int32 → Int32 → Option (Int32 × St)) (x1 x3 x4 : Int32) {τ0 : St} (hz : τ0.1 0 23 = nI n) : ∀ (q i N : Nat) (τ : St), i + q = n → q < N → (∀ t, t ≠ 23 → τ.1 t = τ0.1 t) → (∀ j, j < i → τ.1 23 j = if x4 = 0 then τ0.1 23 j else τ0.1 22 j) → (∀ j, i ≤ j → τ.1 23 j = τ0.1 23 j) → ∃ τ', fX7_findOrder_L55 k27 N τ x1 x3 x4 (nI i) = fX7_findOrder_b109 k27 τ' (if x4 = 0 then x1 else x3) ∧ (∀ t, t ≠ 23 → τ'.1 t = τ0.1 t) ∧ ∀ j, j < n → τ'.1 23 j = if x4 = 0 then τ0.1 23 j else τ0.1 22 j := by
  intro q
  induction q with
  | zero =>
    intro i N τ hi hN hr h1 h2
    obtain ⟨N, rfl⟩ : ∃ z, N = z + 1 := ⟨N - 1, by omega⟩
    have hi : i = n := by omega
    subst hi
    rw [fX7_findOrder_L55_s, hr 0 (by decide), hz, if_pos (Int32.le_refl _)]
    refine ⟨τ, ?_, hr, h1⟩
    by_cases e : x4 = 0
    · rw [if_pos e, if_pos e]
    · rw [if_neg e, if_neg e]
  | succ q ih =>
    intro i N τ hi hN hr h1 h2
    obtain ⟨N, rfl⟩ : ∃ z, N = z + 1 := ⟨N - 1, by omega⟩
    rw [fX7_findOrder_L55_s, hr 0 (by decide), hz, if_neg (by rw [nI_leI (by omega) (by omega)]; omega)]
    unfold fX7_findOrder_b92 fX7_findOrder_b93
    rw [grdN (by omega) (by omega), grdN (by omega) (by omega), grdN (by omega) (by omega), grdN (by omega) (by omega), ixN (by omega), show nI i + (1 : Int32) = nI (i + 1) from nI_1 i]
    have go : ∀ v : Int32, v = (if x4 = 0 then τ0.1 23 i else τ0.1 22 i) → ∃ τ', fX7_findOrder_L55 k27 N (wI τ 23 i v) x1 x3 x4 (nI (i + 1)) = fX7_findOrder_b109 k27 τ' (if x4 = 0 then x1 else x3) ∧ (∀ t, t ≠ 23 → τ'.1 t = τ0.1 t) ∧ ∀ j, j < n → τ'.1 23 j = if x4 = 0 then τ0.1 23 j else τ0.1 22 j := by
      intro v hv
      refine ih (i + 1) N _ (by omega) (by omega) (fun t ht => by rw [rIr _ _ _ _ _ ht]; exact hr t ht) (fun j hj => ?_) (fun j hj => ?_)
      · rw [rI]
        by_cases e : j = i
        · rw [if_pos ⟨rfl, e⟩, hv, e]
        · rw [if_neg (by omega)]; exact h1 j (by omega)
      · rw [rI, if_neg (by omega)]; exact h2 j (by omega)
    by_cases e : x4 = 0
    · have := go (τ.1 23 i) (by rw [if_pos e]; exact h2 i (Nat.le_refl _))
      simp only [if_pos e] at this ⊢
      exact this
    · have := go (τ.1 22 i) (by rw [if_neg e, hr 22 (by decide)])
      simp only [if_neg e] at this ⊢
      exact this
