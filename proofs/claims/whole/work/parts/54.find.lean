-- ===== the loop over the orders =====
theorem pcost_le (c : Nat → Nat) : ∀ (l : List Nat) (last : Nat), pcost c l last ≤ 6 * l.length := by
  intro l
  induction l with
  | nil => intro _; exact Nat.le_refl _
  | cons x r ih =>
    intro last
    have h1 := ih x
    have h2 : cs c last x ≤ 6 := pc6_le _
    show cs c last x + pcost c r x ≤ 6 * (r.length + 1)
    omega
theorem ocost_le {c : Nat → Nat} {n : Nat} {l : List Nat} (hn : n ≤ 8) (h : okl n l = true) : ocost c l ≤ 48 := by
  have h1 := (okl_e h).1
  have h2 := pcost_le c (l.drop 1) (l.getD 0 0)
  rw [List.length_drop] at h2
  unfold ocost
  omega
def nbst (g : List Nat → Nat) (b : Option (List Nat)) (l : List Nat) : List Nat := b.elim l (fun bl => if g bl ≤ g l then bl else l)
def FB (c : Nat → Nat) (n : Nat) (b : Option (List Nat)) (x1 : Int32) (τ : St) : Prop := (b = none ∧ x1 = -1) ∨ ∃ bl, b = some bl ∧ okl n bl = true ∧ x1 = nI (ocost c bl) ∧ ∀ j, j < n → τ.1 23 j = nI (bl.getD j 0)
theorem step_find {n : Nat} {c : Nat → Nat} (h1 : 1 ≤ n) (hn : n ≤ 8) {τ : St} {l : List Nat} {b : Option (List Nat)} {x1 : Int32} (hl : okl n l = true) (hro : RO τ n (fun i => l.getD i 0)) (hc : ∀ i, i < n → τ.1 21 i = nI (c i) ∧ c i < 64) (hb : FB c n b x1 τ) (N : Nat) : ∃ τ', fX7_findOrder_L27 (N + 1) τ x1 1 = bd2 (fX7_nextOrder τ') (fun r1 σ3 => fX7_findOrder_L27 N σ3 (nI (ocost c (nbst (ocost c) b l))) r1) ∧ (∀ t, t ≠ 23 → τ'.1 t = τ.1 t) ∧ okl n (nbst (ocost c) b l) = true ∧ ∀ j, j < n → τ'.1 23 j = nI ((nbst (ocost c) b l).getD j 0) := by
  rw [fX7_findOrder_L27_s, if_neg (show ¬ (1 : Int32) = 0 by decide), costNow_ok h1 hn hro hl hc, bd_some]
  have hle := ocost_le (c := c) hn hl
  unfold fX7_findOrder_b45 fX7_findOrder_b50
  have cp := fun (x4 : Int32) => copy_ok hn (fX7_findOrder_L27 N) x1 (nI (ocost c l)) x4 hro.1 n 0 FU τ (by omega) (by rw [FU_big]; omega) (fun _ _ => rfl) (fun j hj => absurd hj (Nat.not_lt_zero j)) (fun _ _ => rfl)
  rw [nI_0] at cp
  rcases hb with ⟨rfl, rfl⟩ | ⟨bl, rfl, hbl, rfl, hrow⟩
  · rw [if_pos (show (-1 : Int32) < 0 by decide)]
    obtain ⟨τ', a1, a2, a3⟩ := cp 1
    rw [if_neg (show ¬ (1 : Int32) = 0 by decide)] at a1
    rw [a1]
    refine ⟨τ', rfl, a2, hl, fun j hj => ?_⟩
    rw [a3 j hj, if_neg (show ¬ (1 : Int32) = 0 by decide)]
    exact (hro.2 j hj).1
  · have hble := ocost_le (c := c) hn hbl
    have hnn : ¬ nI (ocost c bl) < 0 := by
      rw [ltI, nI_toInt (by omega)]
      show ¬ ((ocost c bl : Int) < 0)
      omega
    rw [if_neg hnn]
    by_cases e : ocost c bl ≤ ocost c l
    · rw [if_pos (by rw [nI_leI (by omega) (by omega)]; exact e)]
      have hb2 : nbst (ocost c) (some bl) l = bl := if_pos e
      obtain ⟨τ', a1, a2, a3⟩ := cp 0
      rw [if_pos rfl] at a1
      rw [a1, hb2]
      refine ⟨τ', rfl, a2, hbl, fun j hj => ?_⟩
      rw [a3 j hj, if_pos rfl]
      exact hrow j hj
    · rw [if_neg (by rw [nI_leI (by omega) (by omega)]; exact e)]
      have hb2 : nbst (ocost c) (some bl) l = l := if_neg e
      obtain ⟨τ', a1, a2, a3⟩ := cp 1
      rw [if_neg (show ¬ (1 : Int32) = 0 by decide)] at a1
      rw [a1, hb2]
      refine ⟨τ', rfl, a2, hl, fun j hj => ?_⟩
      rw [a3 j hj, if_neg (show ¬ (1 : Int32) = 0 by decide)]
      exact (hro.2 j hj).1
