-- ===== the chain of the orders =====
def Chn (n : Nat) : List Nat → List (List Nat) → Prop
  | l, [] => okl n l = true ∧ nxl n l = none
  | l, l' :: r => okl n l = true ∧ nxl n l = some l' ∧ Chn n l' r
theorem chn_of {n : Nat} : ∀ (r : List (List Nat)) (l : List Nat), chk n l r = true → Chn n l r := by
  intro r
  induction r with
  | nil =>
    intro l h
    unfold chk at h
    rw [Bool.and_eq_true, beq_iff_eq] at h
    exact h
  | cons l' r ih =>
    intro l h
    unfold chk at h
    rw [Bool.and_eq_true, Bool.and_eq_true, beq_iff_eq] at h
    exact ⟨h.1.1, h.1.2, ih l' h.2⟩
theorem chn_app {n : Nat} : ∀ (r : List (List Nat)) (l l2 : List Nat) (r2 : List (List Nat)), chkT n l r l2 = true → Chn n l2 r2 → Chn n l (r ++ l2 :: r2) := by
  intro r
  induction r with
  | nil =>
    intro l l2 r2 h g
    unfold chkT at h
    rw [Bool.and_eq_true, beq_iff_eq] at h
    exact ⟨h.1, h.2, g⟩
  | cons l' r ih =>
    intro l l2 r2 h g
    unfold chkT at h
    rw [Bool.and_eq_true, Bool.and_eq_true, beq_iff_eq] at h
    exact ⟨h.1.1, h.1.2, ih l' l2 r2 h.2 g⟩
def OC (n : Nat) : Prop := ∃ r, ords n = List.range n :: r ∧ Chn n (List.range n) r
theorem oc_of {n : Nat} (h : chkAll n = true) : OC n := by
  unfold chkAll at h
  cases e : ords n with
  | nil => rw [e] at h; cases h
  | cons l r =>
    rw [e] at h
    have h : (l == List.range n && chk n l r) = true := h
    rw [Bool.and_eq_true, beq_iff_eq] at h
    obtain ⟨rfl, h2⟩ := h
    exact ⟨r, e, chn_of r _ h2⟩
theorem blk_of {nx : Nat} {l0 l2 : List Nat} (h : chkB nx l0 l2 = true) {r2 : List (List Nat)} (g : Chn 8 l2 r2) : ∃ r, blk nx ++ l2 :: r2 = l0 :: r ∧ Chn 8 l0 r := by
  unfold chkB at h
  cases e : blk nx with
  | nil => rw [e] at h; cases h
  | cons l r =>
    rw [e] at h
    have h : (l == l0 && chkT 8 l r l2) = true := h
    rw [Bool.and_eq_true, beq_iff_eq] at h
    obtain ⟨rfl, h2⟩ := h
    exact ⟨r ++ l2 :: r2, rfl, chn_app r l l2 r2 h2 g⟩
theorem oc_8 : OC 8 := by
  have e7 : ∃ r, blk 7 = [0, 7, 1, 2, 3, 4, 5, 6] :: r ∧ Chn 8 [0, 7, 1, 2, 3, 4, 5, 6] r := by
    have h := chkB_7
    unfold chkE at h
    cases e : blk 7 with
    | nil => rw [e] at h; cases h
    | cons l r =>
      rw [e] at h
      have h : (l == [0, 7, 1, 2, 3, 4, 5, 6] && chk 8 l r) = true := h
      rw [Bool.and_eq_true, beq_iff_eq] at h
      obtain ⟨rfl, h2⟩ := h
      exact ⟨r, rfl, chn_of r _ h2⟩
  obtain ⟨r7, a7, b7⟩ := e7
  obtain ⟨r6, a6, b6⟩ := blk_of chkB_6 b7
  obtain ⟨r5, a5, b5⟩ := blk_of chkB_5 b6
  obtain ⟨r4, a4, b4⟩ := blk_of chkB_4 b5
  obtain ⟨r3, a3, b3⟩ := blk_of chkB_3 b4
  obtain ⟨r2, a2, b2⟩ := blk_of chkB_2 b3
  obtain ⟨r1, a1, b1⟩ := blk_of chkB_1 b2
  refine ⟨r1, ?_, b1⟩
  have hb : ∀ nx : Nat, (List.map (fun r => 0 :: r) (List.map (fun r => nx :: r) (en 8 6 (127 - 2 ^ (nx - 1))))) = blk nx := by
    intro nx
    unfold blk
    rw [List.map_map]
    rfl
  have h0 : ords 8 = blk 1 ++ (blk 2 ++ (blk 3 ++ (blk 4 ++ (blk 5 ++ (blk 6 ++ blk 7))))) := by
    show (List.map (fun r => 0 :: r) ((List.range 8).flatMap (fun nx => if inB 127 nx = true then (en 8 6 (127 - 2 ^ (nx - 1))).map (fun r => nx :: r) else []))) = _
    rw [show List.range 8 = [0, 1, 2, 3, 4, 5, 6, 7] from rfl]
    simp only [List.flatMap_cons, List.flatMap_nil, List.append_nil]
    rw [if_neg (by decide), if_pos (by decide), if_pos (by decide), if_pos (by decide), if_pos (by decide), if_pos (by decide), if_pos (by decide), if_pos (by decide), List.nil_append]
    simp only [List.map_append]
    rw [hb, hb, hb, hb, hb, hb, hb]
  rw [h0, a7, a6, a5, a4, a3, a2, a1]
  rfl
theorem oc_all {n : Nat} (h1 : 1 ≤ n) (h8 : n ≤ 8) : OC n := by
  rcases (show n = 1 ∨ n = 2 ∨ n = 3 ∨ n = 4 ∨ n = 5 ∨ n = 6 ∨ n = 7 ∨ n = 8 by omega) with rfl | rfl | rfl | rfl | rfl | rfl | rfl | rfl
  · exact oc_of chk_1
  · exact oc_of chk_2
  · exact oc_of chk_3
  · exact oc_of chk_4
  · exact oc_of chk_5
  · exact oc_of chk_6
  · exact oc_of chk_7
  · exact oc_8
-- ===== the reference's next order =====
def RO (τ : St) (n : Nat) (o : Nat → Nat) : Prop := τ.1 0 23 = nI n ∧ ∀ i, i < n → τ.1 22 i = nI (o i) ∧ o i < 8
def SR (τ τ' : St) : Prop := ∀ t, t ≠ 22 → τ'.1 t = τ.1 t
theorem SR.trans {a b c : St} (h : SR a b) (g : SR b c) : SR a c := fun t ht => (g t ht).trans (h t ht)
theorem exch_ok {τ : St} {n a b : Nat} {o : Nat → Nat} (hn : n ≤ 8) (h : RO τ n o) (ha : a < n) (hb : b < n) : ∃ τ', fX7_exchange τ (nI a) (nI b) = some τ' ∧ RO τ' n (xch o a b) ∧ SR τ τ' := by
  unfold fX7_exchange fX7_exchange_b19
  rw [grdN (by omega) (by omega), grdN (by omega) (by omega), grdN (by omega) (by omega), grdN (by omega) (by omega), ixN (by omega), ixN (by omega)]
  refine ⟨_, rfl, ⟨?_, fun i hi => ?_⟩, fun t ht => ?_⟩
  · rw [rI, if_neg (by omega), rI, if_neg (by omega)]; exact h.1
  · unfold xch
    rw [rI, rI]
    by_cases e1 : i = b
    · rw [if_pos ⟨rfl, e1⟩, if_pos e1]; exact h.2 a ha
    · rw [if_neg (by omega), if_neg e1]
      by_cases e2 : i = a
      · rw [if_pos ⟨rfl, e2⟩, if_pos e2]; exact h.2 b hb
      · rw [if_neg (by omega), if_neg e2]; exact h.2 i hi
  · rw [rIr _ _ _ _ _ ht, rIr _ _ _ _ _ ht]
theorem rvs_ok {n : Nat} (hn : n ≤ 8) : ∀ (q a b N : Nat) (τ : St) (o : Nat → Nat), RO τ n o → b < n → b ≤ a + 2 * q → q < N → 1 ≤ a → a ≤ 100 → ∃ τ', fX7_nextOrder_L86 N τ (nI a) (nI b) = some (1, τ') ∧ RO τ' n (rvs q o a b) ∧ SR τ τ' := by
  intro q
  induction q with
  | zero =>
    intro a b N τ o h hb hq hN ha ha2
    obtain ⟨N, rfl⟩ : ∃ z, N = z + 1 := ⟨N - 1, by omega⟩
    rw [fX7_nextOrder_L86_s, if_pos (by rw [nI_leI (by omega) (by omega)]; omega)]
    exact ⟨τ, rfl, h, fun _ _ => rfl⟩
  | succ q ih =>
    intro a b N τ o h hb hq hN ha ha2
    obtain ⟨N, rfl⟩ : ∃ z, N = z + 1 := ⟨N - 1, by omega⟩
    rw [fX7_nextOrder_L86_s]
    show ∃ τ', _ ∧ RO τ' n (if b ≤ a then o else rvs q (xch o a b) (a + 1) (b - 1)) ∧ SR τ τ'
    by_cases e : b ≤ a
    · rw [if_pos (by rw [nI_leI (by omega) (by omega)]; exact e), if_pos e]
      exact ⟨τ, rfl, h, fun _ _ => rfl⟩
    · rw [if_neg (by rw [nI_leI (by omega) (by omega)]; exact e), if_neg e]
      obtain ⟨τ1, x1, x2, x3⟩ := exch_ok hn h (show a < n by omega) hb
      rw [x1, bd_some, show nI a + (1 : Int32) = nI (a + 1) from nI_1 a, nI_dec (n := b) (by omega)]
      obtain ⟨τ2, y1, y2, y3⟩ := ih (a + 1) (b - 1) N τ1 _ x2 (by omega) (by omega) (by omega) (by omega) (by omega)
      exact ⟨τ2, y1, y2, x3.trans y3⟩
theorem swp_ok {n : Nat} (hn : n ≤ 8) {τ : St} {o : Nat → Nat} (h : RO τ n o) {p : Nat} (hp : 1 ≤ p) (hp2 : p < n) : ∀ (x N : Nat), p ≤ x → x < n → x < N → p ≤ swp o p x ∧ swp o p x ≤ x ∧ fX7_nextOrder_L47 N τ (nI p) (nI x) = bd (fX7_exchange τ (nI p) (nI (swp o p x))) (fun σ1 => fX7_nextOrder_L86 FU σ1 (nI p + (1 : Int32)) ((σ1.1 0 23) - (1 : Int32))) := by
  intro x
  induction x with
  | zero => intro N h1 h2 h3; omega
  | succ x ih =>
    intro N h1 h2 h3
    obtain ⟨N, rfl⟩ : ∃ z, N = z + 1 := ⟨N - 1, by omega⟩
    obtain ⟨a1, a2⟩ := h.2 p hp2
    obtain ⟨b1, b2⟩ := h.2 (x + 1) h2
    rw [fX7_nextOrder_L47_s, grdN (by omega) (by omega), grdN (by omega) (by omega), ixN (by omega), ixN (by omega), a1, b1]
    show p ≤ (if o p ≤ o (x + 1) then x + 1 else swp o p x) ∧ (if o p ≤ o (x + 1) then x + 1 else swp o p x) ≤ x + 1 ∧ _ = bd (fX7_exchange τ (nI p) (nI (if o p ≤ o (x + 1) then x + 1 else swp o p x))) _
    by_cases e : o p ≤ o (x + 1)
    · rw [if_pos e, if_pos (by rw [nI_leI (by omega) (by omega)]; exact e)]
      exact ⟨by omega, Nat.le_refl _, rfl⟩
    · rw [if_neg e, if_neg (by rw [nI_leI (by omega) (by omega)]; exact e), nI_dec (n := x + 1) (by omega), Nat.add_sub_cancel]
      have hpx : p ≤ x := by
        by_cases e2 : p = x + 1
        · rw [e2] at e; omega
        · omega
      obtain ⟨c1, c2, c3⟩ := ih N hpx (by omega) (by omega)
      exact ⟨c1, by omega, c3⟩
theorem pvt_ok {n : Nat} (hn : n ≤ 8) {τ : St} {o : Nat → Nat} (h : RO τ n o) : ∀ (x N : Nat), x + 1 < n → x < N → pvt o x ≤ x ∧ fX7_nextOrder_L7 N τ (nI x) = fX7_nextOrder_b34 τ (nI (pvt o x)) := by
  intro x
  induction x with
  | zero =>
    intro N h1 h2
    obtain ⟨N, rfl⟩ : ∃ z, N = z + 1 := ⟨N - 1, by omega⟩
    rw [fX7_nextOrder_L7_s, if_pos (by decide)]
    exact ⟨Nat.le_refl _, rfl⟩
  | succ x ih =>
    intro N h1 h2
    obtain ⟨N, rfl⟩ : ∃ z, N = z + 1 := ⟨N - 1, by omega⟩
    obtain ⟨a1, a2⟩ := h.2 (x + 1) (by omega)
    obtain ⟨b1, b2⟩ := h.2 (x + 2) (by omega)
    have hpos : ¬ nI (x + 1) ≤ 0 := by
      rw [leI, nI_toInt (by omega)]
      show ¬ (((x + 1 : Nat) : Int) ≤ 0)
      omega
    rw [fX7_nextOrder_L7_s, if_neg hpos, show nI (x + 1) + (1 : Int32) = nI (x + 2) from nI_1 (x + 1), grdN (by omega) (by omega), grdN (by omega) (by omega), ixN (by omega), ixN (by omega), a1, b1]
    show (if o (x + 1) ≤ o (x + 2) then x + 1 else pvt o x) ≤ x + 1 ∧ _ = fX7_nextOrder_b34 τ (nI (if o (x + 1) ≤ o (x + 2) then x + 1 else pvt o x))
    by_cases e : o (x + 1) ≤ o (x + 2)
    · rw [if_pos e, if_pos (by rw [nI_leI (by omega) (by omega)]; exact e)]
      exact ⟨Nat.le_refl _, rfl⟩
    · rw [if_neg e, if_neg (by rw [nI_leI (by omega) (by omega)]; exact e), nI_dec (n := x + 1) (by omega), Nat.add_sub_cancel]
      obtain ⟨c1, c2⟩ := ih N (by omega) (by omega)
      exact ⟨by omega, c2⟩
theorem next_ok {n : Nat} (h1 : 1 ≤ n) (hn : n ≤ 8) {τ : St} {o : Nat → Nat} (h : RO τ n o) : (nxo n o = none → fX7_nextOrder τ = some (0, τ)) ∧ ∀ o', nxo n o = some o' → ∃ τ', fX7_nextOrder τ = some (1, τ') ∧ RO τ' n o' ∧ SR τ τ' := by
  unfold fX7_nextOrder
  rw [h.1]
  by_cases e1 : n = 1
  · subst e1
    have hx : nI 1 - (2 : Int32) ≤ 0 := by decide
    have hg : fX7_nextOrder_L7 FU τ (nI 1 - (2 : Int32)) = some (0, τ) := by
      rw [FU_big, fX7_nextOrder_L7_s, if_pos hx]
      unfold fX7_nextOrder_b34
      rw [if_neg (by decide)]
    refine ⟨fun _ => hg, fun o' ho => ?_⟩
    have : nxo 1 o = none := rfl
    rw [this] at ho
    cases ho
  · have e2 : nI n - (2 : Int32) = nI (n - 2) := by
      rw [eqI, subI, nI_toInt (by omega), nI_toInt (by omega), show (2 : Int32).toInt = 2 from rfl] <;> (try rw [nI_toInt (by omega), show (2 : Int32).toInt = 2 from rfl]) <;> omega
    obtain ⟨p1, p2⟩ := pvt_ok hn h (n - 2) FU (by omega) (by rw [FU_big]; omega)
    rw [e2, p2]
    unfold fX7_nextOrder_b34
    cases hp : pvt o (n - 2) with
    | zero =>
      have hx : nxo n o = none := by unfold nxo; rw [hp]
      rw [if_neg (by decide), hx]
      exact ⟨fun _ => rfl, fun o' ho => by cases ho⟩
    | succ p =>
      rw [hp] at p1
      have hpos : (0 : Int32) < nI (p + 1) := by
        rw [ltI, nI_toInt (by omega)]
        show (0 : Int) < ((p + 1 : Nat) : Int)
        omega
      obtain ⟨s1, s2, s3⟩ := swp_ok hn h (p := p + 1) (by omega) (by omega) (n - 1) FU (by omega) (by omega) (by rw [FU_big]; omega)
      rw [if_pos hpos, h.1, show nI n - (1 : Int32) = nI (n - 1) by rw [← nI_subm, nI_dec h1], s3]
      cases hs : swp o (p + 1) (n - 1) with
      | zero => rw [hs] at s1; omega
      | succ s =>
        rw [hs] at s1 s2
        have hx : nxo n o = some (rvs 8 (xch o (p + 1) (s + 1)) (p + 1 + 1) (n - 1)) := by
          unfold nxo
          rw [hp]
          show (match swp o (p + 1) (n - 1) with
            | 0 => none
            | s + 1 => some (rvs 8 (xch o (p + 1) (s + 1)) (p + 1 + 1) (n - 1))) = _
          rw [hs]
        rw [hx]
        refine ⟨fun ho => (by cases ho), fun o' ho => ?_⟩
        injection ho with ho
        subst ho
        obtain ⟨τ1, x1, x2, x3⟩ := exch_ok hn h (show p + 1 < n by omega) (show s + 1 < n by omega)
        rw [x1, bd_some, x2.1, show nI n - (1 : Int32) = nI (n - 1) by rw [← nI_subm, nI_dec h1], show nI (p + 1) + (1 : Int32) = nI (p + 1 + 1) from nI_1 (p + 1)]
        obtain ⟨τ2, y1, y2, y3⟩ := rvs_ok hn 8 (p + 1 + 1) (n - 1) FU τ1 _ x2 (by omega) (by omega) (by rw [FU_big]; decide) (by omega) (by omega)
        exact ⟨τ2, y1, y2, x3.trans y3⟩
