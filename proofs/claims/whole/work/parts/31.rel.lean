-- ===== scenes' part of the relation, and the relation =====
def pc6 (n : Nat) : Nat := (if n.testBit 0 then 1 else 0) + (if n.testBit 1 then 1 else 0) + (if n.testBit 2 then 1 else 0) + (if n.testBit 3 then 1 else 0) + (if n.testBit 4 then 1 else 0) + (if n.testBit 5 then 1 else 0)
def cs (c : Nat → Nat) (a b : Nat) : Nat := pc6 (c a ^^^ c b)
def inS (set s : Nat) : Prop := 1 ≤ s ∧ set.testBit (s - 1) = true
def TabOK (c : Nat → Nat) (ns : Nat) (T : Nat → Nat → Nat) : Prop := ∀ set last, set < 2 ^ (ns - 1) → last < ns → ¬ inS set last → (set = 0 → T set last = 0) ∧ (set ≠ 0 → (∃ nx, nx < ns ∧ inS set nx ∧ T set last = cs c last nx + T (set - 2 ^ (nx - 1)) nx) ∧ ∀ nx, nx < ns → inS set nx → T set last ≤ cs c last nx + T (set - 2 ^ (nx - 1)) nx)
abbrev scn (τ : St) : Nat → Nat := fun i => ix (τ.1 21 i)
def RS (σ τ : St) (ns : Nat) : Prop := (σ.1 4 1 = nI ns ∧ τ.1 0 23 = nI ns ∧ ns ≤ 8) ∧ (∀ i, i < ns → σ.1 5 i = τ.1 21 i ∧ ∃ c, c < 64 ∧ τ.1 21 i = nI c) ∧ (∀ i, i < 8 → σ.1 6 i = 0) ∧ (0 < ns → ∃ T, TabOK (scn τ) ns T ∧ ∀ set last, set < 2 ^ (ns - 1) → last < ns → ¬ inS set last → σ.1 6 (set * 8 + last) = nI (T set last))
theorem RS.congr {σ τ σ' τ' : St} {ns : Nat} (h : RS σ τ ns) (h1 : σ'.1 4 1 = σ.1 4 1) (h2 : σ'.1 5 = σ.1 5) (h3 : σ'.1 6 = σ.1 6) (h4 : τ'.1 0 23 = τ.1 0 23) (h5 : τ'.1 21 = τ.1 21) : RS σ' τ' ns := by
  unfold RS scn at h ⊢
  rw [h1, h2, h3, h4, h5]
  exact h
def Rel : RelT := fun σ τ bd => ∃ (D nf : Nat) (ft lb : Nat → Nat) (nm : Nat) (mt : Nat → Nat) (ns : Nat), RD σ τ D ∧ RF σ τ nf ft lb bd ∧ RM σ τ nm mt nf ft lb bd ∧ RS σ τ ns
/-- what questions leave as it is -/
def SameC (σ σ' : St) : Prop := (∀ t, t < 7 ∨ 19 ≤ t → σ'.1 t = σ.1 t) ∧ σ'.2.2 = σ.2.2
def SameM (τ τ' : St) : Prop := ∀ t, t < 14 ∨ t = 21 → τ'.1 t = τ.1 t
theorem SameC.rfl' (σ : St) : SameC σ σ := ⟨fun _ _ => rfl, rfl⟩
theorem SameC.trans {a b c : St} (h : SameC a b) (g : SameC b c) : SameC a c := ⟨fun t ht => (g.1 t ht).trans (h.1 t ht), g.2.trans h.2⟩
theorem SameM.rfl' (σ : St) : SameM σ σ := fun _ _ => rfl
theorem SameM.trans {a b c : St} (h : SameM a b) (g : SameM b c) : SameM a c := fun t ht => (g t ht).trans (h t ht)
theorem RD.same {σ τ σ' τ' : St} {D : Nat} (h : RD σ τ D) (h1 : SameC σ σ') (h2 : SameM τ τ') : RD σ' τ' D := h.congr (by rw [h1.1 0 (by omega)]) (by rw [h2 0 (by omega)])
theorem RF.same {σ τ σ' τ' : St} {nf bd : Nat} {ft lb : Nat → Nat} (h : RF σ τ nf ft lb bd) (h1 : SameC σ σ') (h2 : SameM τ τ') : RF σ' τ' nf ft lb bd := h.congr (by rw [h1.1 0 (by omega)]) (by rw [h1.2]) (fun k i hk _ => h1.1 _ (Or.inr (by have := (h.2.2.2.1 k hk).1; omega))) (by rw [h2 0 (by omega)]) (fun a _ _ => h2 a (by omega))
theorem RM.same {σ τ σ' τ' : St} {nm nf bd : Nat} {mt ft lb : Nat → Nat} (h : RM σ τ nm mt nf ft lb bd) (h1 : SameC σ σ') (h2 : SameM τ τ') : RM σ' τ' nm mt nf ft lb bd := h.congr (by rw [h1.1 2 (by omega)]) (by rw [h1.2]) (fun j hj => h1.1 _ (Or.inr (by have := (h.2.2.2.1 j hj).1; omega))) (by rw [h2 0 (by omega)]) (fun a _ _ => h2 a (by omega)) (fun _ _ => Nat.le_refl _)
theorem RS.same {σ τ σ' τ' : St} {ns : Nat} (h : RS σ τ ns) (h1 : SameC σ σ') (h2 : SameM τ τ') : RS σ' τ' ns := h.congr (by rw [h1.1 4 (by omega)]) (h1.1 5 (by omega)) (h1.1 6 (by omega)) (by rw [h2 0 (by omega)]) (h2 21 (by omega))
theorem Rel.same {σ τ σ' τ' : St} {bd : Nat} (h : Rel σ τ bd) (h1 : SameC σ σ') (h2 : SameM τ τ') : Rel σ' τ' bd := by
  obtain ⟨D, nf, ft, lb, nm, mt, ns, a, b, c, d⟩ := h
  exact ⟨D, nf, ft, lb, nm, mt, ns, a.same h1 h2, b.same h1 h2, c.same h1 h2, d.same h1 h2⟩
theorem Rel.mono {σ τ : St} {bd bd' : Nat} (h : Rel σ τ bd) (hb : bd ≤ bd') : Rel σ τ bd' := by
  obtain ⟨D, nf, ft, lb, nm, mt, ns, a, b, c, d⟩ := h
  exact ⟨D, nf, ft, lb, nm, mt, ns, a, b.mono hb, c.mono hb, d⟩
theorem srt_0 (β : Nat → Nat) : srt β 0 = [] := by
  unfold srt
  rw [List.flatMap_eq_nil_iff]
  intro b _; rfl
theorem Rel_0 : Rel st1 st2 43 := by
  refine ⟨100, 0, fun _ => 0, fun _ => 0, 0, fun _ => 0, 0, ⟨rfl, rfl, by decide, by decide⟩, ⟨⟨rfl, rfl, by decide⟩, fun k _ => rfl, fun k hk => absurd hk (Nat.not_lt_zero k), fun k hk => absurd hk (Nat.not_lt_zero k), fun k _ hk => absurd hk (Nat.not_lt_zero k), by decide⟩, ⟨⟨rfl, rfl, by decide⟩, fun i _ => ?_, fun k hk => absurd hk (Nat.not_lt_zero k), fun k hk => absurd hk (Nat.not_lt_zero k), fun k _ hk => absurd hk (Nat.not_lt_zero k)⟩, ⟨rfl, rfl, by decide⟩, fun k hk => absurd hk (Nat.not_lt_zero k), fun i _ => ?_, fun h => absurd h (by decide)⟩
  · rw [srt_0]; rfl
  · show (if (6 : Nat) = 0 ∧ i = 0 then (100 : Int32) else if ((6 : Nat) = 7 ∨ (6 : Nat) = 12) ∧ i = 4 then 1 else 0) = 0
    simp
-- ===== the simple steps =====
theorem s_setDistance (x1 : Int32) : StS Rel (fun σ => fX6_setDistance σ x1) (fun τ => fX7_setDistance τ x1) := by
  intro σ τ bd h
  show ∃ r σ' τ', fX6_setDistance σ x1 = some (r, σ') ∧ fX7_setDistance τ x1 = some (r, τ') ∧ Rel σ' τ' bd
  obtain ⟨D, nf, ft, lb, nm, mt, ns, a, b, c, d⟩ := id h
  unfold fX6_setDistance fX7_setDistance
  rw [inR]
  by_cases hx : fX7_in x1 10 200 = 0
  · rw [if_pos hx, if_pos hx]
    exact ⟨_, σ, τ, rfl, rfl, h⟩
  · rw [if_neg hx, if_neg hx]
    rw [in_0] at hx
    have hx : (10 : Int) ≤ x1.toInt ∧ x1.toInt ≤ 200 := Classical.not_not.mp hx
    obtain ⟨k, hk, rfl⟩ := toN (x := x1) (n := 201) (by omega) (by omega) (by decide)
    rw [nI_toInt (by omega)] at hx
    unfold fX6_setDistance_b25 fX7_setDistance_b25
    rw [a.1, a.2.1]
    refine ⟨_, _, _, rfl, rfl, k, nf, ft, lb, nm, mt, ns, ⟨?_, ?_, by omega, by omega⟩, ?_, ?_, ?_⟩
    · simp [rI]
    · simp [rI]
    · refine b.congr (by simp [rI]) (by rw [rI3]) (fun q i hq _ => rIr _ _ _ _ _ (by have := (b.2.2.2.1 q hq).1; omega)) (by simp [rI]) (fun q _ _ => rIr _ _ _ _ _ (by omega))
    · refine c.congr (by simp [rI]) (by rw [rI3]) (fun j hj => rIr _ _ _ _ _ (by have := (c.2.2.2.1 j hj).1; omega)) (by simp [rI]) (fun q _ _ => rIr _ _ _ _ _ (by omega)) (fun _ _ => Nat.le_refl _)
    · exact d.congr (by simp [rI]) (rIr _ _ _ _ _ (by decide)) (rIr _ _ _ _ _ (by decide)) (by simp [rI]) (rIr _ _ _ _ _ (by decide))
theorem s_clearScenes : StS Rel (fun σ => fX6_clearScenes σ) (fun τ => fX7_clearScenes τ) := by
  intro σ τ bd h
  obtain ⟨D, nf, ft, lb, nm, mt, ns, a, b, c, d⟩ := id h
  show ∃ r σ' τ', fX6_clearScenes σ = some (r, σ') ∧ fX7_clearScenes τ = some (r, τ') ∧ Rel σ' τ' bd
  refine ⟨nI ns, wI σ 4 1 0, wI τ 0 23 0, ?_, ?_, D, nf, ft, lb, nm, mt, 0, ?_, ?_, ?_, ?_⟩
  · unfold fX6_clearScenes fX3_clear; rw [bd_some, d.1.1]
  · unfold fX7_clearScenes fX7_clearScenes_b10; rw [d.1.2.1]
  · exact a.congr (by simp [rI]) (by simp [rI])
  · exact b.congr (by simp [rI]) (by rw [rI3]) (fun q i hq _ => rIr _ _ _ _ _ (by have := (b.2.2.2.1 q hq).1; omega)) (by simp [rI]) (fun q _ _ => rIr _ _ _ _ _ (by omega))
  · exact c.congr (by simp [rI]) (by rw [rI3]) (fun j hj => rIr _ _ _ _ _ (by have := (c.2.2.2.1 j hj).1; omega)) (by simp [rI]) (fun q _ _ => rIr _ _ _ _ _ (by omega)) (fun _ _ => Nat.le_refl _)
  · refine ⟨⟨by simp [rI]; rfl, by simp [rI]; rfl, by decide⟩, fun k hk => absurd hk (Nat.not_lt_zero k), fun i hi => ?_, fun h => absurd h (by decide)⟩
    rw [rIr _ _ _ _ _ (by decide)]
    exact d.2.2.1 i hi
theorem sum_C {σ τ : St} {nf bd : Nat} {ft lb : Nat → Nat} (h : RF σ τ nf ft lb bd) : ∀ (m n j : Nat) (x : Int32), j + m = 6 → m < n → fX6_limbsOfAll_L13 σ n x 6 (nI j) = some (x + nI ((List.range' j m).map (fun k => if k < nf then lb k else 0)).sum) := by
  intro m
  induction m with
  | zero =>
    intro n j x hj hn
    obtain ⟨n, rfl⟩ : ∃ q, n = q + 1 := ⟨n - 1, by omega⟩
    rw [fX6_limbsOfAll_L13_s]
    rw [if_pos (by rw [show j = 6 by omega]; decide)]
    simp [nI_0]
  | succ m ih =>
    intro n j x hj hn
    obtain ⟨n, rfl⟩ : ∃ q, n = q + 1 := ⟨n - 1, by omega⟩
    rw [fX6_limbsOfAll_L13_s]
    have h6 : ¬ (6 : Int32) ≤ nI j := by
      rw [show (6 : Int32) = nI 6 from rfl, nI_leI (by decide) (by omega)]; omega
    rw [if_neg h6, grdN (by omega) (by decide), app1_e, ixN (by omega), h.2.1 j (by omega), List.range'_succ]
    have e1 : nI j + (1 : Int32) = nI (j + 1) := nI_1 j
    by_cases hk : j < nf
    · rw [if_pos hk, elim_some]
      unfold fX6_limbsOfAll_b40
      rw [e1, ih n (j + 1) _ (by omega) (by omega), (h.2.2.1 j hk).1.2.2.2.2]
      simp only [List.map_cons, List.sum_cons, if_pos hk]
      rw [← nI_add, Int32.add_assoc]
    · rw [if_neg hk, elim_none]
      unfold fX6_limbsOfAll_b40
      rw [e1, ih n (j + 1) _ (by omega) (by omega)]
      simp only [List.map_cons, List.sum_cons, if_neg hk, Nat.zero_add]
      simp
theorem sum_M {σ τ : St} {nf bd : Nat} {ft lb : Nat → Nat} (h : RF σ τ nf ft lb bd) (x1 : Int32) : ∀ (m n j : Nat) (x : Int32), j + m = nf → m < n → fX7_count_L4 τ n x1 x (nI j) = (if x1 = 0 then some (nI nf) else if x1 = (1 : Int32) then some (τ.1 0 9) else if x1 = (2 : Int32) then some (τ.1 0 23) else if x1 = (3 : Int32) then some (x + nI ((List.range' j m).map lb).sum) else some (-3 : Int32)) := by
  intro m
  have hn6 := h.1.2.2
  induction m with
  | zero =>
    intro n j x hj hn
    obtain ⟨n, rfl⟩ : ∃ q, n = q + 1 := ⟨n - 1, by omega⟩
    rw [fX7_count_L4_s, h.1.2.1, show j = nf by omega]
    rw [if_pos (Int32.le_refl _)]
    simp [nI_0]
  | succ m ih =>
    intro n j x hj hn
    obtain ⟨n, rfl⟩ : ∃ q, n = q + 1 := ⟨n - 1, by omega⟩
    rw [fX7_count_L4_s, h.1.2.1]
    have h6 : ¬ nI nf ≤ nI j := by rw [nI_leI (by omega) (by omega)]; omega
    rw [if_neg h6, grdN (by omega) (by decide), ixN (by omega), show nI j + (1 : Int32) = nI (j + 1) from nI_1 j, ih n (j + 1) _ (by omega) (by omega), (h.2.2.1 j (by omega)).2.1, List.range'_succ]
    simp only [List.map_cons, List.sum_cons]
    rw [← nI_add, Int32.add_assoc]
theorem sum_same (nf : Nat) (lb : Nat → Nat) (h : nf ≤ 6) : ((List.range' 0 6).map (fun k => if k < nf then lb k else 0)).sum = ((List.range' 0 nf).map lb).sum := by
  rcases (show nf = 0 ∨ nf = 1 ∨ nf = 2 ∨ nf = 3 ∨ nf = 4 ∨ nf = 5 ∨ nf = 6 by omega) with rfl | rfl | rfl | rfl | rfl | rfl | rfl <;> simp [List.range']
theorem s_count (x1 : Int32) : StR Rel (fun σ => fX6_count σ x1) (fun τ => fX7_count τ x1) := by
  intro σ τ bd h
  obtain ⟨D, nf, ft, lb, nm, mt, ns, a, b, c, d⟩ := id h
  show ∃ r, fX6_count σ x1 = some r ∧ fX7_count τ x1 = some r
  have hn6 := b.1.2.2
  have e1 : fX6_limbsOfAll σ = some (nI ((List.range' 0 6).map (fun k => if k < nf then lb k else 0)).sum) := by
    unfold fX6_limbsOfAll
    have := sum_C b 6 FU 0 0 (by omega) (by rw [FU_big]; decide)
    rw [nI_0] at this
    rw [this]; simp
  have e2 := sum_M b x1 nf FU 0 0 (by omega) (by rw [FU_big]; omega)
  rw [nI_0] at e2
  unfold fX6_count fX7_count
  rw [e1, e2, bd_some, sum_same nf lb hn6, b.1.1, c.1.1, d.1.1, c.1.2.1, d.1.2.1]
  by_cases h0 : x1 = 0
  · exact ⟨_, by rw [if_pos h0], by rw [if_pos h0]⟩
  by_cases h1 : x1 = 1
  · exact ⟨_, by rw [if_neg h0, if_pos h1], by rw [if_neg h0, if_pos h1]⟩
  by_cases h2 : x1 = 2
  · exact ⟨_, by rw [if_neg h0, if_neg h1, if_pos h2], by rw [if_neg h0, if_neg h1, if_pos h2]⟩
  by_cases h3 : x1 = 3
  · exact ⟨_, by rw [if_neg h0, if_neg h1, if_neg h2, if_pos h3], by rw [if_neg h0, if_neg h1, if_neg h2, if_pos h3]; simp⟩
  · exact ⟨_, by rw [if_neg h0, if_neg h1, if_neg h2, if_neg h3], by rw [if_neg h0, if_neg h1, if_neg h2, if_neg h3]⟩
