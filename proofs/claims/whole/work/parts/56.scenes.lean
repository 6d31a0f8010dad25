-- ===== findOrder's answer, and the class's =====
theorem pop_all : ∀ n : Fin 8, popN 7 (2 ^ n.val - 1) = n.val := by decide +kernel
theorem pop_7 : ∀ x : Fin 128, popN 7 x.val ≤ 7 := by decide +kernel
theorem BPr_len {c : Nat → Nat} {T : Nat → Nat → Nat} {n : Nat} : ∀ (q set last : Nat) (p : List Nat), BPr c T n q set last p → p.length = q := by
  intro q
  induction q with
  | zero =>
    intro set last p h
    have h : p = [] := h
    rw [h]; rfl
  | succ q ih =>
    intro set last p h
    obtain ⟨nx, p', rfl, -, h2⟩ := h
    rw [List.length_cons, ih _ _ _ h2]
theorem T_le {c : Nat → Nat} {T : Nat → Nat → Nat} {n set last : Nat} (hn : n ≤ 8) (h1 : 1 ≤ n) (hT : TabOK c n T) (hs : set < 2 ^ (n - 1)) (hl : last < n) (hni : ¬ inS set last) : T set last ≤ 42 := by
  have h128 := pow_128 hn
  obtain ⟨p, p1, p2, -⟩ := dfs hn h1 hT (popN 7 set) set last rfl hs hl hni
  have a := BPr_len _ _ _ _ p1
  have b := pcost_le c p last
  have d : popN 7 set ≤ 7 := pop_7 ⟨set, by omega⟩
  omega
theorem not_in0 (set : Nat) : ¬ inS set 0 := fun h => by have := h.1; omega
theorem findOrder_ok {c : Nat → Nat} {T : Nat → Nat → Nat} {n : Nat} (h1 : 1 ≤ n) (hn : n ≤ 8) (hT : TabOK c n T) {τ : St} (hz : τ.1 0 23 = nI n) (hc : ∀ i, i < n → τ.1 21 i = nI (c i) ∧ c i < 64) : ∃ τ' p, fX7_findOrder τ = some (nI (T (2 ^ (n - 1) - 1) 0), τ') ∧ (∀ j, j < n → τ'.1 23 j = nI ((0 :: p).getD j 0)) ∧ BPr c T n (n - 1) (2 ^ (n - 1) - 1) 0 p ∧ SB τ τ' := by
  have hp : 1 ≤ 2 ^ (n - 1) := Nat.one_le_two_pow
  have hpop : popN 7 (2 ^ (n - 1) - 1) = n - 1 := pop_all ⟨n - 1, by omega⟩
  obtain ⟨p, p1, p2, p3⟩ := dfs hn h1 hT (n - 1) (2 ^ (n - 1) - 1) 0 hpop (by omega) (by omega) (not_in0 _)
  have p4 : IsFM (ocost c) (ords n) (0 :: p) := IsFM_map (g := fun p => pcost c p 0) (g' := ocost c) (f := fun r => 0 :: r) (fun _ => rfl) p3
  obtain ⟨r, o1, o2⟩ := oc_all h1 hn
  have hlen : r.length + 1 ≤ 5040 := by
    have a : (en n (n - 1) (2 ^ (n - 1) - 1)).length ≤ 5040 := ords_len ⟨n, by omega⟩
    have b : (ords n).length = (en n (n - 1) (2 ^ (n - 1) - 1)).length := by unfold ords; rw [List.length_map]
    rw [o1, List.length_cons] at b
    omega
  rw [o1] at p4
  have hbest : bestOf (ocost c) (List.range n) r = 0 :: p := bestOf_FM p4
  obtain ⟨τ1, a1, a2, a3⟩ := ident_loop hn hz n 0 FU τ (by omega) (by rw [FU_big]; omega) (fun _ _ => rfl) (fun j hj => absurd hj (Nat.not_lt_zero j))
  rw [nI_0] at a1
  have hro : RO τ1 n (fun i => (List.range n).getD i 0) := by
    refine ⟨by rw [a2 0 (by decide)]; exact hz, fun i hi => ?_⟩
    show τ1.1 22 i = nI ((List.range n).getD i 0) ∧ (List.range n).getD i 0 < 8
    rw [List.getD_eq_getElem?_getD, List.getElem?_range hi]
    exact ⟨a3 i hi, show i < 8 by omega⟩
  obtain ⟨τ2, b1, b2, b3⟩ := find_loop h1 hn r (List.range n) none (-1) τ1 FU o2 (by rw [FU_big]; omega) hro (fun i hi => by rw [a2 21 (by decide)]; exact hc i hi) (Or.inl ⟨rfl, rfl⟩)
  have hnb : nbst (ocost c) none (List.range n) = List.range n := rfl
  rw [hnb, hbest] at b1 b2
  have hcost : ocost c (0 :: p) = T (2 ^ (n - 1) - 1) 0 := p2
  rw [hcost] at b1
  refine ⟨τ2, p, ?_, b2, p1, fun t g1 g2 => by rw [b3 t g1 g2, a2 t g1]⟩
  unfold fX7_findOrder
  rw [a1, b1]
theorem findOrder_0 {τ : St} (hz : τ.1 0 23 = nI 0) : fX7_findOrder τ = some (0, τ) := by
  have e0 : (τ.1 0 23) = 0 := by rw [hz, nI_0]
  have hcost : fX7_costNow τ = some 0 := by
    unfold fX7_costNow
    rw [FU_big, fX7_costNow_L4_s, e0, if_pos (by decide)]
  have hnext : fX7_nextOrder τ = some (0, τ) := by
    unfold fX7_nextOrder
    rw [FU_big, fX7_nextOrder_L7_s, e0, if_pos (by decide)]
    unfold fX7_nextOrder_b34
    rw [if_neg (by decide)]
  unfold fX7_findOrder
  rw [FU_big, fX7_findOrder_L2_s, e0, if_pos (by decide), FU_big, fX7_findOrder_L27_s, if_neg (by decide), hcost, bd_some, if_pos (by decide)]
  unfold fX7_findOrder_b45 fX7_findOrder_b50
  rw [FU_big, fX7_findOrder_L55_s, e0, if_pos (by decide), if_neg (by decide)]
  unfold fX7_findOrder_b109
  rw [hnext, bd2_some, fX7_findOrder_L27_s, if_pos rfl]
theorem at_loop {σ : St} {c : Nat → Nat} {T : Nat → Nat → Nat} {n place : Nat} (h1 : 1 ≤ n) (hn : n ≤ 8) (hpl : place < 100) (hsz : σ.1 4 1 = nI n) (hc : ∀ i, i < n → σ.1 5 i = nI (c i) ∧ c i < 64) (hT : TabOK c n T) (htab : ∀ set last, set < 2 ^ (n - 1) → last < n → ¬ inS set last → σ.1 6 (set * 8 + last) = nI (T set last)) : ∀ (k q set last i N : Nat) (p : List Nat), i + k = place → k ≤ q → k < N → set < 2 ^ (n - 1) → last < n → BPr c T n q set last p → fX3_sceneAt_L10 σ N (nI place) (nI last) (nI set) (nI i) = some (nI ((last :: p).getD k 0)) := by
  have h128 := pow_128 hn
  intro k
  induction k with
  | zero =>
    intro q set last i N p hi hq hN hs hl hb
    obtain ⟨N, rfl⟩ : ∃ z, N = z + 1 := ⟨N - 1, by omega⟩
    rw [fX3_sceneAt_L10_s, if_pos (by rw [nI_leI (by omega) (by omega)]; omega)]
    rfl
  | succ k ih =>
    intro q set last i N p hi hq hN hs hl hb
    obtain ⟨N, rfl⟩ : ∃ z, N = z + 1 := ⟨N - 1, by omega⟩
    obtain ⟨q, rfl⟩ : ∃ z, q = z + 1 := ⟨q - 1, by omega⟩
    obtain ⟨nx, p', rfl, b1, b2⟩ := hb
    have hnx := b1.1
    have hin := b1.2.1
    obtain ⟨o1, o2, o3, -⟩ := off_e (show set < 128 by omega) (show nx < 8 by omega) hin
    have hV : ∀ y, y < n → inS set y → σ.1 6 ((set - 2 ^ (y - 1)) * 8 + y) = nI ((fun y => T (set - 2 ^ (y - 1)) y) y) ∧ (fun y => T (set - 2 ^ (y - 1)) y) y ≤ 10000 := by
      intro y hy hiy
      obtain ⟨-, g2, g3, -⟩ := off_e (show set < 128 by omega) (show y < 8 by omega) hiy
      have := T_le hn h1 hT (show set - 2 ^ (y - 1) < 2 ^ (n - 1) by omega) hy g3
      exact ⟨htab _ _ (by omega) hy g3, show T (set - 2 ^ (y - 1)) y ≤ 10000 by omega⟩
    obtain ⟨nx', f1, f2⟩ := fbn (V := fun y => T (set - 2 ^ (y - 1)) y) hsz hn hc (show set < 128 by omega) hl hV ⟨nx, hnx, hin⟩
    have he : nx' = nx := FM_uniq f2 b1
    rw [he] at f1
    rw [fX3_sceneAt_L10_s, if_neg (by rw [nI_leI (by omega) (by omega)]; omega), f1, bd_some, show fX3_sceneBit (nI nx) = nI (2 ^ nx / 2) from scB ⟨nx, by omega⟩, nI_dif, o1, show nI i + (1 : Int32) = nI (i + 1) from nI_1 i, ih q (set - 2 ^ (nx - 1)) nx (i + 1) N p' (by omega) (by omega) (by omega) (by omega) hnx b2]
    rfl
theorem sceneAt_ok {σ : St} {c : Nat → Nat} {T : Nat → Nat → Nat} {n place : Nat} {p : List Nat} (h1 : 1 ≤ n) (hn : n ≤ 8) (hpl : place < n) (hsz : σ.1 4 1 = nI n) (hc : ∀ i, i < n → σ.1 5 i = nI (c i) ∧ c i < 64) (hT : TabOK c n T) (htab : ∀ set last, set < 2 ^ (n - 1) → last < n → ¬ inS set last → σ.1 6 (set * 8 + last) = nI (T set last)) (hb : BPr c T n (n - 1) (2 ^ (n - 1) - 1) 0 p) : fX3_sceneAt σ (nI place) = some (nI ((0 :: p).getD place 0)) := by
  have hp : 1 ≤ 2 ^ (n - 1) := Nat.one_le_two_pow
  unfold fX3_sceneAt
  rw [all_n h1 hn hsz]
  have := at_loop h1 hn (show place < 100 by omega) hsz hc hT htab place (n - 1) (2 ^ (n - 1) - 1) 0 0 FU p (by omega) (by omega) (by rw [FU_big]; omega) (by omega) (by omega) hb
  rw [nI_0] at this
  exact this
theorem leastCost_ok {σ : St} {T : Nat → Nat → Nat} {n : Nat} (h1 : 1 ≤ n) (hn : n ≤ 8) (hsz : σ.1 4 1 = nI n) (htab : ∀ set last, set < 2 ^ (n - 1) → last < n → ¬ inS set last → σ.1 6 (set * 8 + last) = nI (T set last)) : fX3_leastCost σ = some (nI (T (2 ^ (n - 1) - 1) 0)) := by
  have hp : 1 ≤ 2 ^ (n - 1) := Nat.one_le_two_pow
  have h128 := pow_128 hn
  have hi : nI (2 ^ (n - 1) - 1) * (8 : Int32) + (0 : Int32) = nI ((2 ^ (n - 1) - 1) * 8 + 0) := by
    rw [← nI_0, show (8 : Int32) = nI 8 from rfl, pk_mul, nI_add]
  unfold fX3_leastCost fX3_least
  rw [all_n h1 hn hsz, hi, grdN (by omega) (by omega), ixN (by omega), htab _ _ (by omega) (by omega) (not_in0 _), bd_some]
theorem scn_hc {σ τ : St} {ns : Nat} (d : RS σ τ ns) : ∀ i, i < ns → (τ.1 21 i = nI (scn τ i) ∧ scn τ i < 64) ∧ (σ.1 5 i = nI (scn τ i) ∧ scn τ i < 64) := by
  intro i hi
  obtain ⟨e1, cc, e2, e3⟩ := d.2.1 i hi
  have e4 : scn τ i = cc := by
    show ix (τ.1 21 i) = cc
    rw [e3, ixN (by omega)]
  rw [e4, e1, e3]
  exact ⟨⟨rfl, e2⟩, rfl, e2⟩
theorem SB.same {τ τ' : St} (h : SB τ τ') : SameM τ τ' := fun t ht => h t (by omega) (by omega)
theorem s_bestCost : StM Rel (fun σ => fX6_bestCost σ ) (fun τ => fX7_bestCost τ ) := by
  intro σ τ bd h
  obtain ⟨D, nf, ft, lb, nm, mt, ns, a, b, c, d⟩ := id h
  show ∃ r τ', fX6_bestCost σ = some r ∧ fX7_bestCost τ = some (r, τ') ∧ Rel σ τ' bd
  unfold fX6_bestCost fX7_bestCost
  by_cases h0 : ns = 0
  · subst h0
    have e1 : fX3_leastCost σ = some 0 := by
      unfold fX3_leastCost fX3_least fX3_allButFirst
      rw [d.1.1, all_0, show (0 : Int32) * (8 : Int32) + (0 : Int32) = nI 0 from by decide, grdN (by decide) (by decide), ixN (by decide), d.2.2.1 0 (by decide), bd_some]
    rw [e1, findOrder_0 d.1.2.1, bd_some, bd2_some]
    exact ⟨0, τ, rfl, rfl, h⟩
  · have h1 : 1 ≤ ns := by omega
    have hn := d.1.2.2
    obtain ⟨T, t1, t2⟩ := d.2.2.2 h1
    obtain ⟨τ', p, f1, f2, f3, f4⟩ := findOrder_ok h1 hn t1 d.1.2.1 (fun i hi => (scn_hc d i hi).1)
    rw [f1, leastCost_ok h1 hn d.1.1 t2, bd_some, bd2_some]
    exact ⟨_, τ', rfl, rfl, h.same (SameC.rfl' σ) f4.same⟩
theorem s_bestScene (x1 : Int32) : StM Rel (fun σ => fX6_bestScene σ x1) (fun τ => fX7_bestScene τ x1) := by
  intro σ τ bd h
  obtain ⟨D, nf, ft, lb, nm, mt, ns, a, b, c, d⟩ := id h
  show ∃ r τ', fX6_bestScene σ x1 = some r ∧ fX7_bestScene τ x1 = some (r, τ') ∧ Rel σ τ' bd
  unfold fX6_bestScene fX7_bestScene
  by_cases hx : ¬ 0 ≤ x1
  · rw [if_neg hx, if_neg hx]
    exact ⟨_, τ, rfl, rfl, h⟩
  have hx : 0 ≤ x1 := Classical.not_not.mp hx
  rw [if_pos hx, if_pos hx]
  by_cases h0 : ns = 0
  · subst h0
    rw [findOrder_0 d.1.2.1, bd2_some, d.1.1, d.1.2.1, nI_0, if_pos hx, if_pos hx]
    exact ⟨_, τ, rfl, rfl, h⟩
  · have h1 : 1 ≤ ns := by omega
    have hn := d.1.2.2
    obtain ⟨T, t1, t2⟩ := d.2.2.2 h1
    obtain ⟨τ', p, f1, f2, f3, f4⟩ := findOrder_ok h1 hn t1 d.1.2.1 (fun i hi => (scn_hc d i hi).1)
    have hR : Rel σ τ' bd := h.same (SameC.rfl' σ) f4.same
    rw [f1, bd2_some, f4 0 (by decide) (by decide), d.1.1, d.1.2.1]
    by_cases hle : nI ns ≤ x1
    · rw [if_pos hle, if_pos hle]
      exact ⟨_, τ', rfl, rfl, hR⟩
    · rw [if_neg hle, if_neg hle]
      have hx0 : (0 : Int) ≤ x1.toInt := leI.mp hx
      rw [leI, nI_toInt (by omega)] at hle
      obtain ⟨k, hk, rfl⟩ := toN (x := x1) (n := ns) hx0 (by omega) (by omega)
      rw [sceneAt_ok h1 hn hk d.1.1 (fun i hi => (scn_hc d i hi).2) t1 t2 f3, bd_some, grdN (by omega) (by omega), ixN (by omega), f2 k hk]
      exact ⟨_, τ', rfl, rfl, hR⟩
