-- ===== the table is filled =====
def tvv (σ : St) (s l : Nat) : Nat := ix (σ.1 6 (s * 8 + l))
def EOK (c : Nat → Nat) (n : Nat) (σ : St) (s l : Nat) : Prop := σ.1 6 (s * 8 + l) = nI (tvv σ s l) ∧ tvv σ s l ≤ 6 * s ∧ (s = 0 → tvv σ s l = 0) ∧ (s ≠ 0 → (∃ nx, nx < n ∧ inS s nx ∧ tvv σ s l = cs c l nx + tvv σ (s - 2 ^ (nx - 1)) nx) ∧ ∀ nx, nx < n → inS s nx → tvv σ s l ≤ cs c l nx + tvv σ (s - 2 ^ (nx - 1)) nx)
theorem EOK.congr {c : Nat → Nat} {n s l : Nat} {σ σ' : St} (h : EOK c n σ s l) (hs : s < 128) (hn : n ≤ 8) (h1 : σ'.1 6 (s * 8 + l) = σ.1 6 (s * 8 + l)) (h2 : ∀ s' l', s' < s → l' < 8 → σ'.1 6 (s' * 8 + l') = σ.1 6 (s' * 8 + l')) : EOK c n σ' s l := by
  have e1 : tvv σ' s l = tvv σ s l := by unfold tvv; rw [h1]
  have e2 : ∀ nx, nx < n → inS s nx → tvv σ' (s - 2 ^ (nx - 1)) nx = tvv σ (s - 2 ^ (nx - 1)) nx := by
    intro nx hnx hin
    unfold tvv
    rw [h2 _ nx (off_e hs (by omega) hin).2.1 (by omega)]
  obtain ⟨a, b, d, e⟩ := h
  refine ⟨by rw [h1, e1]; exact a, by rw [e1]; exact b, by rw [e1]; exact d, fun hs0 => ?_⟩
  obtain ⟨⟨nx, g1, g2, g3⟩, g4⟩ := e hs0
  refine ⟨⟨nx, g1, g2, by rw [e1, e2 nx g1 g2]; exact g3⟩, fun nx h3 h4 => ?_⟩
  rw [e1, e2 nx h3 h4]
  exact g4 nx h3 h4
def FINV (c : Nat → Nat) (n : Nat) (σ1 σ : St) (S l : Nat) : Prop := (∀ t, t ≠ 6 → σ.1 t = σ1.1 t) ∧ σ.2 = σ1.2 ∧ (∀ i, i < 8 → σ.1 6 i = 0) ∧ ∀ s last, last < n → ¬ inS s last → (s < S ∨ (s = S ∧ last < l)) → EOK c n σ s last
theorem fill_in {σ1 : St} {c : Nat → Nat} {n S : Nat} (hsz : σ1.1 4 1 = nI n) (hn : n ≤ 8) (h1 : 1 ≤ n) (hc : ∀ i, i < n → σ1.1 5 i = nI (c i) ∧ c i < 64) (hS1 : 1 ≤ S) (hS : S < 2 ^ (n - 1)) (all : Int32) (k2 : St → Int32 → Int32 → Option St) : ∀ (q l N : Nat) (σ : St), l + q = n → q < N → FINV c n σ1 σ S l → ∃ σ', fX3_fillLeast_L14 k2 N σ all (nI S) (nI l) = k2 σ' all (nI (S + 1)) ∧ FINV c n σ1 σ' (S + 1) 0 := by
  have h128 := pow_128 hn
  intro q
  induction q with
  | zero =>
    intro l N σ hl hN inv
    obtain ⟨N, rfl⟩ : ∃ z, N = z + 1 := ⟨N - 1, by omega⟩
    have hl : l = n := by omega
    subst hl
    rw [fX3_fillLeast_L14_s, inv.1 4 (by decide), hsz, if_pos (Int32.le_refl _), show nI S + (1 : Int32) = nI (S + 1) from nI_1 S]
    exact ⟨σ, rfl, inv.1, inv.2.1, inv.2.2.1, fun s last g1 g2 g3 => inv.2.2.2 s last g1 g2 (by omega)⟩
  | succ q ih =>
    intro l N σ hl hN inv
    obtain ⟨N, rfl⟩ : ∃ z, N = z + 1 := ⟨N - 1, by omega⟩
    rw [fX3_fillLeast_L14_s, inv.1 4 (by decide), hsz, if_neg (by rw [nI_leI (by omega) (by omega)]; omega)]
    unfold fX3_fillLeast_b53
    rw [show nI l + (1 : Int32) = nI (l + 1) from nI_1 l]
    by_cases hin : inS S l
    · rw [if_neg (fun z => (isIn_e (by omega) (by omega)).mp z hin)]
      refine ih (l + 1) N σ (by omega) (by omega) ⟨inv.1, inv.2.1, inv.2.2.1, fun s last g1 g2 g3 => inv.2.2.2 s last g1 g2 ?_⟩
      rcases g3 with g3 | ⟨g3, g4⟩
      · exact Or.inl g3
      · by_cases e : last = l
        · subst e; subst g3; exact absurd hin g2
        · exact Or.inr ⟨g3, by omega⟩
    · rw [if_pos ((isIn_e (by omega) (by omega)).mpr hin)]
      have hV : ∀ nx, nx < n → inS S nx → σ.1 6 ((S - 2 ^ (nx - 1)) * 8 + nx) = nI (tvv σ (S - 2 ^ (nx - 1)) nx) ∧ tvv σ (S - 2 ^ (nx - 1)) nx ≤ 10000 := by
        intro nx hnx hi
        obtain ⟨-, o2, o3, -⟩ := off_e (show S < 128 by omega) (show nx < 8 by omega) hi
        obtain ⟨e1, e2, -⟩ := inv.2.2.2 (S - 2 ^ (nx - 1)) nx hnx o3 (Or.inl o2)
        exact ⟨e1, by omega⟩
      have hc' : ∀ i, i < n → σ.1 5 i = nI (c i) ∧ c i < 64 := fun i hi => by rw [inv.1 5 (by decide)]; exact hc i hi
      obtain ⟨nx, f1, f2, f3, f4⟩ := fbn (V := fun nx => tvv σ (S - 2 ^ (nx - 1)) nx) (by rw [inv.1 4 (by decide)]; exact hsz) hn hc' (show S < 128 by omega) (show l < n by omega) hV (ne_e hn h1 hS (by omega))
      obtain ⟨-, o2, o3, -⟩ := off_e (show S < 128 by omega) (show nx < 8 by omega) f3
      have hcs : cs c l nx ≤ 6 := pc6_le _
      have hlow := (inv.2.2.2 (S - 2 ^ (nx - 1)) nx f2 o3 (Or.inl o2)).2.1
      rw [f1, bd_some, via_e hn hc' (show S < 128 by omega) (show l < n by omega) f2 f3 (hV nx f2 f3).1, bd_some, show nI S * (8 : Int32) + nI l = nI (S * 8 + l) by rw [show (8 : Int32) = nI 8 from rfl, pk_mul, nI_add], grdN (by omega) (by omega), ixN (by omega)]
      have hother : ∀ z, z ≠ S * 8 + l → (wI σ 6 (S * 8 + l) (nI (cs c l nx + tvv σ (S - 2 ^ (nx - 1)) nx))).1 6 z = σ.1 6 z := fun z hz => by rw [rI, if_neg (by omega)]
      have hself : (wI σ 6 (S * 8 + l) (nI (cs c l nx + tvv σ (S - 2 ^ (nx - 1)) nx))).1 6 (S * 8 + l) = nI (cs c l nx + tvv σ (S - 2 ^ (nx - 1)) nx) := by rw [rI, if_pos ⟨rfl, rfl⟩]
      have hrow : ∀ t, t ≠ 6 → (wI σ 6 (S * 8 + l) (nI (cs c l nx + tvv σ (S - 2 ^ (nx - 1)) nx))).1 t = σ.1 t := fun t ht => rIr _ _ _ _ _ ht
      have h2 : (wI σ 6 (S * 8 + l) (nI (cs c l nx + tvv σ (S - 2 ^ (nx - 1)) nx))).2 = σ.2 := rfl
      generalize wI σ 6 (S * 8 + l) (nI (cs c l nx + tvv σ (S - 2 ^ (nx - 1)) nx)) = σ' at hother hself hrow h2
      have htv : ∀ s' l', s' < S → l' < 8 → tvv σ' s' l' = tvv σ s' l' := by
        intro s' l' g1 g2
        unfold tvv
        rw [hother _ (by omega)]
      have htS : tvv σ' S l = cs c l nx + tvv σ (S - 2 ^ (nx - 1)) nx := by
        unfold tvv at hself ⊢
        rw [hself, ixN (by unfold tvv at hlow; omega)]
      refine ih (l + 1) N σ' (by omega) (by omega) ⟨fun t ht => by rw [hrow t ht]; exact inv.1 t ht, by rw [h2]; exact inv.2.1, fun i hi => by rw [hother i (by omega)]; exact inv.2.2.1 i hi, fun s last g1 g2 g3 => ?_⟩
      by_cases e : s = S ∧ last = l
      · obtain ⟨rfl, rfl⟩ := e
        refine ⟨by rw [hself, htS], by rw [htS]; omega, fun z => by omega, fun _ => ⟨⟨nx, f2, f3, ?_⟩, fun y hy hiy => ?_⟩⟩
        · rw [htS, htv _ nx o2 (by omega)]
        · have o := off_e (show s < 128 by omega) (show y < 8 by omega) hiy
          rw [htS, htv _ y o.2.1 (by omega)]
          exact (f4 y hy hiy).1
      · refine (inv.2.2.2 s last g1 g2 (by omega)).congr (by omega) hn (hother _ (by omega)) (fun s' l' q1 q2 => hother _ (by omega))
theorem all_n {σ : St} {n : Nat} (h1 : 1 ≤ n) (hn : n ≤ 8) (h : σ.1 4 1 = nI n) : fX3_allButFirst σ = nI (2 ^ (n - 1) - 1) := by
  unfold fX3_allButFirst
  rw [h]
  have := all_f ⟨n - 1, by omega⟩
  rw [show (⟨n - 1, by omega⟩ : Fin 8).val + 1 = n from by show n - 1 + 1 = n; omega] at this
  exact this
theorem fill_out {σ1 : St} {c : Nat → Nat} {n : Nat} (hsz : σ1.1 4 1 = nI n) (hn : n ≤ 8) (h1 : 1 ≤ n) (hc : ∀ i, i < n → σ1.1 5 i = nI (c i) ∧ c i < 64) : ∀ (q S N : Nat) (σ : St), S + q = 2 ^ (n - 1) → 1 ≤ S → q < N → FINV c n σ1 σ S 0 → ∃ σ', fX3_fillLeast_L7 N σ (nI (2 ^ (n - 1) - 1)) (nI S) = some σ' ∧ FINV c n σ1 σ' (2 ^ (n - 1)) 0 := by
  have h128 := pow_128 hn
  intro q
  induction q with
  | zero =>
    intro S N σ hS hS1 hN inv
    obtain ⟨N, rfl⟩ : ∃ z, N = z + 1 := ⟨N - 1, by omega⟩
    rw [fX3_fillLeast_L7_s, if_pos (by rw [nI_ltI (by omega) (by omega)]; omega)]
    exact ⟨σ, rfl, by rw [show 2 ^ (n - 1) = S by omega]; exact inv⟩
  | succ q ih =>
    intro S N σ hS hS1 hN inv
    obtain ⟨N, rfl⟩ : ∃ z, N = z + 1 := ⟨N - 1, by omega⟩
    rw [fX3_fillLeast_L7_s, if_neg (by rw [nI_ltI (by omega) (by omega)]; omega)]
    obtain ⟨σ', a1, a2⟩ := fill_in hsz hn h1 hc hS1 (by omega) (nI (2 ^ (n - 1) - 1)) (fX3_fillLeast_L7 N) n 0 FU σ (by omega) (by rw [FU_big]; omega) inv
    rw [nI_0] at a1
    rw [a1]
    exact ih (S + 1) N σ' (by omega) (by omega) (by omega) a2
theorem fill_ok {σ1 : St} {c : Nat → Nat} {n : Nat} (hsz : σ1.1 4 1 = nI n) (hn : n ≤ 8) (h1 : 1 ≤ n) (hc : ∀ i, i < n → σ1.1 5 i = nI (c i) ∧ c i < 64) (h0 : ∀ i, i < 8 → σ1.1 6 i = 0) : ∃ σ', fX3_fillLeast σ1 = some σ' ∧ (∀ t, t ≠ 6 → σ'.1 t = σ1.1 t) ∧ σ'.2 = σ1.2 ∧ (∀ i, i < 8 → σ'.1 6 i = 0) ∧ ∃ T, TabOK c n T ∧ ∀ set last, set < 2 ^ (n - 1) → last < n → ¬ inS set last → σ'.1 6 (set * 8 + last) = nI (T set last) := by
  unfold fX3_fillLeast
  rw [all_n h1 hn hsz]
  have hp : 1 ≤ 2 ^ (n - 1) := Nat.one_le_two_pow
  have h128 := pow_128 hn
  obtain ⟨σ', a1, a2, a3, a4, a5⟩ := fill_out hsz hn h1 hc (2 ^ (n - 1) - 1) 1 FU σ1 (by omega) (Nat.le_refl _) (by rw [FU_big]; omega) ⟨fun _ _ => rfl, rfl, h0, fun s last g1 g2 g3 => by
    have hs : s = 0 := by omega
    subst hs
    have e : σ1.1 6 (0 * 8 + last) = 0 := by rw [Nat.zero_mul, Nat.zero_add]; exact h0 last (by omega)
    have e2 : tvv σ1 0 last = 0 := by unfold tvv; rw [e]; decide
    exact ⟨by rw [e2]; exact e, by omega, fun _ => e2, fun z => absurd rfl z⟩⟩
  refine ⟨σ', a1, a2, a3, a4, tvv σ', ?_, fun set last g1 g2 g3 => (a5 set last g2 g3 (Or.inl g1)).1⟩
  intro set last g1 g2 g3
  obtain ⟨-, -, e3, e4⟩ := a5 set last g2 g3 (Or.inl g1)
  exact ⟨e3, e4⟩
theorem s_addScene (x1 : Int32) : StS Rel (fun σ => fX6_addScene σ x1) (fun τ => fX7_addScene τ x1) := by
  intro σ τ bd h
  obtain ⟨D, nf, ft, lb, nm, mt, ns, a, b, c, d⟩ := id h
  show ∃ r σ' τ', fX6_addScene σ x1 = some (r, σ') ∧ fX7_addScene τ x1 = some (r, τ') ∧ Rel σ' τ' bd
  obtain ⟨⟨d1, d2, d3⟩, d4, d5, d6⟩ := d
  unfold fX6_addScene fX7_addScene fX3_append fX3_append_b24 fX3_append_b34 fX7_addScene_b35 fX7_addScene_b45
  rw [inR]
  by_cases hx : fX7_in x1 0 63 = 0
  · rw [if_pos hx, if_pos hx]; exact ⟨_, σ, τ, rfl, rfl, h⟩
  rw [if_neg hx, if_neg hx, d1, d2]
  rw [in_0] at hx
  have hx : (0 : Int) ≤ x1.toInt ∧ x1.toInt ≤ 63 := Classical.not_not.mp hx
  obtain ⟨v, hv, rfl⟩ := toN (x := x1) (n := 64) hx.1 (by omega) (by decide)
  by_cases h8 : ns = 8
  · subst h8
    rw [if_neg (by decide), if_pos (by decide), bd2_some]
    exact ⟨_, σ, τ, rfl, rfl, h⟩
  have hlt : nI ns < (8 : Int32) := by rw [show (8 : Int32) = nI 8 from rfl, nI_ltI (by omega) (by decide)]; omega
  have hne : ¬ nI ns = (8 : Int32) := by rw [show (8 : Int32) = nI 8 from rfl, nI_eqN (by omega) (by decide)]; exact h8
  rw [if_pos hlt, if_neg hne, grdN (by omega) (by omega), grdN (by omega) (by omega), ixN (by omega)]
  have e1 : (wI σ 5 ns (nI v)).1 4 1 = nI ns := by rw [rI, if_neg (by omega)]; exact d1
  have e2 : (wI τ 21 ns (nI v)).1 0 23 = nI ns := by rw [rI, if_neg (by omega)]; exact d2
  rw [e1, e2, show nI ns + (1 : Int32) = nI (ns + 1) from nI_1 ns]
  have hτ : (wI (wI τ 21 ns (nI v)) 0 23 (nI (ns + 1))).1 0 23 - (1 : Int32) = nI ns := by
    rw [rI, if_pos ⟨rfl, rfl⟩]; exact nI_pred ns
  rw [hτ]
  have hscn : ∀ i, i < ns + 1 → (wI (wI σ 5 ns (nI v)) 4 1 (nI (ns + 1))).1 5 i = nI (scn (wI (wI τ 21 ns (nI v)) 0 23 (nI (ns + 1))) i) ∧ scn (wI (wI τ 21 ns (nI v)) 0 23 (nI (ns + 1))) i < 64 ∧ (wI (wI σ 5 ns (nI v)) 4 1 (nI (ns + 1))).1 5 i = (wI (wI τ 21 ns (nI v)) 0 23 (nI (ns + 1))).1 21 i := by
    intro i hi
    unfold scn
    have k1 : (wI (wI σ 5 ns (nI v)) 4 1 (nI (ns + 1))).1 5 = (wI σ 5 ns (nI v)).1 5 := rIr _ _ _ _ _ (by decide)
    have k2 : (wI (wI τ 21 ns (nI v)) 0 23 (nI (ns + 1))).1 21 = (wI τ 21 ns (nI v)).1 21 := rIr _ _ _ _ _ (by decide)
    rw [k1, k2, rI, rI]
    by_cases e : i = ns
    · rw [if_pos ⟨rfl, e⟩, if_pos ⟨rfl, e⟩, ixN (by omega)]
      exact ⟨rfl, hv, rfl⟩
    · rw [if_neg (by omega), if_neg (by omega)]
      obtain ⟨g1, cc, g2, g3⟩ := d4 i (by omega)
      rw [g1, g3, ixN (by omega)]
      exact ⟨rfl, g2, rfl⟩
  obtain ⟨σ', f1, f2, f3, f4, f5⟩ := fill_ok (σ1 := wI (wI σ 5 ns (nI v)) 4 1 (nI (ns + 1))) (c := scn (wI (wI τ 21 ns (nI v)) 0 23 (nI (ns + 1)))) (n := ns + 1) (by rw [rI, if_pos ⟨rfl, rfl⟩]) (by omega) (by omega) (fun i hi => ⟨(hscn i hi).1, (hscn i hi).2.1⟩) (fun i hi => by rw [rIr _ _ _ _ _ (by decide), rIr _ _ _ _ _ (by decide)]; exact d5 i hi)
  rw [f1, bd_some, bd2_some]
  have hrow : ∀ t, t ≠ 6 → t ≠ 4 → t ≠ 5 → σ'.1 t = σ.1 t := fun t g1 g2 g3 => by rw [f2 t g1, rIr _ _ _ _ _ g2, rIr _ _ _ _ _ g3]
  refine ⟨nI ns, σ', _, rfl, rfl, D, nf, ft, lb, nm, mt, ns + 1, ?_, ?_, ?_, ⟨?_, ?_, by omega⟩, ?_, f4, fun _ => f5⟩
  · exact a.congr (by rw [hrow 0 (by decide) (by decide) (by decide)]) (by rw [rI, if_neg (by omega), rI, if_neg (by omega)])
  · exact b.congr (by rw [hrow 0 (by decide) (by decide) (by decide)]) (by rw [f3]; rfl) (fun q i hq _ => hrow _ (by have := (b.2.2.2.1 q hq).1; omega) (by have := (b.2.2.2.1 q hq).1; omega) (by have := (b.2.2.2.1 q hq).1; omega)) (by rw [rI, if_neg (by omega), rI, if_neg (by omega)]) (fun q _ _ => by rw [rIr _ _ _ _ _ (by omega), rIr _ _ _ _ _ (by omega)])
  · exact c.congr (by rw [hrow 2 (by decide) (by decide) (by decide)]) (by rw [f3]; rfl) (fun j hj => hrow _ (by have := (c.2.2.2.1 j hj).1; omega) (by have := (c.2.2.2.1 j hj).1; omega) (by have := (c.2.2.2.1 j hj).1; omega)) (by rw [rI, if_neg (by omega), rI, if_neg (by omega)]) (fun q _ _ => by rw [rIr _ _ _ _ _ (by omega), rIr _ _ _ _ _ (by omega)]) (fun _ _ => Nat.le_refl _)
  · rw [f2 4 (by decide), rI, if_pos ⟨rfl, rfl⟩]
  · rw [rI, if_pos ⟨rfl, rfl⟩]
  · intro i hi
    obtain ⟨g1, g2, g3⟩ := hscn i hi
    rw [f2 5 (by decide)]
    exact ⟨g3, _, g2, by rw [← g3]; exact g1⟩
