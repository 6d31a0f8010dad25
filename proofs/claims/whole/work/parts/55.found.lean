-- ===== findOrder =====
theorem getD_map {n : Nat} {o : Nat → Nat} {i : Nat} (h : i < n) : ((List.range n).map o).getD i 0 = o i := by
  rw [List.getD_eq_getElem?_getD, List.getElem?_map, List.getElem?_range h]
  rfl
theorem find_loop {n : Nat} {c : Nat → Nat} (h1 : 1 ≤ n) (hn : n ≤ 8) : ∀ (L : List (List Nat)) (l : List Nat) (b : Option (List Nat)) (x1 : Int32) (τ : St) (N : Nat), Chn n l L → L.length + 1 < N → RO τ n (fun i => l.getD i 0) → (∀ i, i < n → τ.1 21 i = nI (c i) ∧ c i < 64) → FB c n b x1 τ → ∃ τ', fX7_findOrder_L27 N τ x1 1 = some (nI (ocost c (bestOf (ocost c) (nbst (ocost c) b l) L)), τ') ∧ (∀ j, j < n → τ'.1 23 j = nI ((bestOf (ocost c) (nbst (ocost c) b l) L).getD j 0)) ∧ SB τ τ' := by
  intro L
  induction L with
  | nil =>
    intro l b x1 τ N ch hN hro hc hb
    obtain ⟨N, rfl⟩ : ∃ z, N = z + 1 + 1 := ⟨N - 2, by have : ([] : List (List Nat)).length = 0 := rfl; omega⟩
    obtain ⟨g1, g2⟩ := ch
    obtain ⟨τ1, a1, a2, a3, a4⟩ := step_find h1 hn g1 hro hc hb (N + 1)
    have hro1 : RO τ1 n (fun i => l.getD i 0) := by
      unfold RO
      rw [a2 0 (by decide), a2 22 (by decide)]
      exact hro
    have hnone : nxo n (fun i => l.getD i 0) = none := by
      unfold nxl at g2
      exact Option.map_eq_none_iff.mp g2
    rw [a1, (next_ok h1 hn hro1).1 hnone, bd2_some, fX7_findOrder_L27_s, if_pos rfl]
    exact ⟨τ1, rfl, a4, fun t _ h3 => a2 t h3⟩
  | cons l' r ih =>
    intro l b x1 τ N ch hN hro hc hb
    obtain ⟨N, rfl⟩ : ∃ z, N = z + 1 := ⟨N - 1, by omega⟩
    obtain ⟨g1, g2, g3⟩ := ch
    obtain ⟨τ1, a1, a2, a3, a4⟩ := step_find h1 hn g1 hro hc hb N
    have hro1 : RO τ1 n (fun i => l.getD i 0) := by
      unfold RO
      rw [a2 0 (by decide), a2 22 (by decide)]
      exact hro
    obtain ⟨o', ho, hl'⟩ : ∃ o', nxo n (fun i => l.getD i 0) = some o' ∧ (List.range n).map o' = l' := by
      unfold nxl at g2
      exact Option.map_eq_some_iff.mp g2
    obtain ⟨τ2, b1, b2, b3⟩ := (next_ok h1 hn hro1).2 o' ho
    rw [a1, b1, bd2_some]
    have hro2 : RO τ2 n (fun i => l'.getD i 0) := by
      refine ⟨b2.1, fun i hi => ?_⟩
      show τ2.1 22 i = nI (l'.getD i 0) ∧ l'.getD i 0 < 8
      rw [← hl', getD_map hi]
      exact b2.2 i hi
    obtain ⟨τ3, c1, c2, c3⟩ := ih l' (some (nbst (ocost c) b l)) _ τ2 N g3 (by have : (l' :: r).length = r.length + 1 := rfl; omega) hro2 (fun i hi => by rw [b3 21 (by decide), a2 21 (by decide)]; exact hc i hi) (Or.inr ⟨_, rfl, a3, rfl, fun j hj => by rw [b3 23 (by decide)]; exact a4 j hj⟩)
    exact ⟨τ3, c1, c2, fun t h2 h3 => by rw [c3 t h2 h3, b3 t h2, a2 t h3]⟩
theorem ident_loop {n : Nat} (hn : n ≤ 8) {τ0 : St} (hz : τ0.1 0 23 = nI n) : ∀ (q i N : Nat) (τ : St), i + q = n → q < N → (∀ t, t ≠ 22 → τ.1 t = τ0.1 t) → (∀ j, j < i → τ.1 22 j = nI j) → ∃ τ', fX7_findOrder_L2 N τ (nI i) = fX7_findOrder_L27 FU τ' (-1) 1 ∧ (∀ t, t ≠ 22 → τ'.1 t = τ0.1 t) ∧ ∀ j, j < n → τ'.1 22 j = nI j := by
  intro q
  induction q with
  | zero =>
    intro i N τ hi hN hr h1
    obtain ⟨N, rfl⟩ : ∃ z, N = z + 1 := ⟨N - 1, by omega⟩
    have hi : i = n := by omega
    subst hi
    rw [fX7_findOrder_L2_s, hr 0 (by decide), hz, if_pos (Int32.le_refl _)]
    exact ⟨τ, rfl, hr, h1⟩
  | succ q ih =>
    intro i N τ hi hN hr h1
    obtain ⟨N, rfl⟩ : ∃ z, N = z + 1 := ⟨N - 1, by omega⟩
    rw [fX7_findOrder_L2_s, hr 0 (by decide), hz, if_neg (by rw [nI_leI (by omega) (by omega)]; omega), grdN (by omega) (by omega)]
    unfold fX7_findOrder_b17
    rw [ixN (by omega), show nI i + (1 : Int32) = nI (i + 1) from nI_1 i]
    refine ih (i + 1) N _ (by omega) (by omega) (fun t ht => by rw [rIr _ _ _ _ _ ht]; exact hr t ht) (fun j hj => ?_)
    rw [rI]
    by_cases e : j = i
    · rw [if_pos ⟨rfl, e⟩, e]
    · rw [if_neg (by omega)]; exact h1 j (by omega)
theorem IsFM_map {g g' : List Nat → Nat} {f : List Nat → List Nat} (h : ∀ p, g' (f p) = g p) {L : List (List Nat)} {p : List Nat} (hp : IsFM g L p) : IsFM g' (L.map f) (f p) := by
  obtain ⟨A, B, rfl, h1, h2⟩ := hp
  refine ⟨A.map f, B.map f, by simp, fun a ha => ?_, fun b hb => ?_⟩
  · obtain ⟨a', ha', rfl⟩ := List.mem_map.mp ha
    rw [h, h]; exact h1 a' ha'
  · obtain ⟨b', hb', rfl⟩ := List.mem_map.mp hb
    rw [h, h]; exact h2 b' hb'
theorem ords_len : ∀ n : Fin 9, (en n.val (n.val - 1) (2 ^ (n.val - 1) - 1)).length ≤ 5040 := by decide +kernel
