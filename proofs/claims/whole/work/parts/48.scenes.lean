-- ===== scenes: the class's table =====
theorem scB : ∀ s : Fin 8, fX3_sceneBit (nI s.val) = nI (2 ^ s.val / 2) := by decide +kernel
def inB (set s : Nat) : Bool := decide (1 ≤ s) && set.testBit (s - 1)
theorem inB_iff (set s : Nat) : inB set s = true ↔ inS set s := by
  unfold inB inS
  rw [Bool.and_eq_true, decide_eq_true_iff]
theorem isIn_f : ∀ set : Fin 128, ∀ s : Fin 8, fX3_isIn (nI set.val) (nI s.val) = if inB set.val s.val = true then 1 else 0 := by decide +kernel
theorem isIn_e {set s : Nat} (h1 : set < 128) (h2 : s < 8) : fX3_isIn (nI set) (nI s) = 0 ↔ ¬ inS set s := by
  rw [← inB_iff, show fX3_isIn (nI set) (nI s) = _ from isIn_f ⟨set, h1⟩ ⟨s, h2⟩]
  show (if inB set s = true then (1 : Int32) else 0) = 0 ↔ _
  by_cases h : inB set s = true
  · rw [if_pos h]; exact ⟨fun z => absurd z (by decide), fun z => absurd h z⟩
  · rw [if_neg h]; exact ⟨fun _ => h, fun _ => rfl⟩
theorem off_f : ∀ set : Fin 128, ∀ s : Fin 8, inB set.val s.val = true → dif set.val (2 ^ s.val / 2) = set.val - 2 ^ (s.val - 1) ∧ set.val - 2 ^ (s.val - 1) < set.val ∧ inB (set.val - 2 ^ (s.val - 1)) s.val = false ∧ popN 7 (set.val - 2 ^ (s.val - 1)) + 1 = popN 7 set.val := by decide +kernel
theorem off_e {set s : Nat} (h1 : set < 128) (h2 : s < 8) (h : inS set s) : dif set (2 ^ s / 2) = set - 2 ^ (s - 1) ∧ set - 2 ^ (s - 1) < set ∧ ¬ inS (set - 2 ^ (s - 1)) s ∧ popN 7 (set - 2 ^ (s - 1)) + 1 = popN 7 set := by
  obtain ⟨a, b, c, d⟩ := off_f ⟨set, h1⟩ ⟨s, h2⟩ ((inB_iff set s).mpr h)
  refine ⟨a, b, fun z => ?_, d⟩
  have z := (inB_iff _ _).mpr z
  have c : inB (set - 2 ^ (s - 1)) s = false := c
  rw [c] at z
  cases z
theorem pc_f : ∀ x : Fin 64, popN 9 x.val = pc6 x.val := by decide +kernel
theorem pc6_le (x : Nat) : pc6 x ≤ 6 := by
  unfold pc6
  repeat' split
  all_goals omega
theorem xor_lt64 {a b : Nat} (h1 : a < 64) (h2 : b < 64) : a ^^^ b < 64 := by
  have e : 64 = 2 ^ 6 := by decide
  rw [e] at *
  exact Nat.xor_lt_two_pow h1 h2
theorem all_f : ∀ n : Fin 8, ((((1 : Int32) <<< (nI (n.val + 1) &&& 31)) - (1 : Int32)) >>> ((1 : Int32) &&& 31)) = nI (2 ^ n.val - 1) := by decide +kernel
theorem all_0 : ((((1 : Int32) <<< (nI 0 &&& 31)) - (1 : Int32)) >>> ((1 : Int32) &&& 31)) = 0 := by decide +kernel
theorem pow_128 {n : Nat} (h : n ≤ 8) : 2 ^ (n - 1) ≤ 128 := by
  have : 2 ^ (n - 1) ≤ 2 ^ 7 := Nat.pow_le_pow_right (by decide) (by omega)
  have e : 2 ^ 7 = 128 := by decide
  omega
theorem via_e {σ : St} {c : Nat → Nat} {n set last nx v : Nat} (hn : n ≤ 8) (hc : ∀ i, i < n → σ.1 5 i = nI (c i) ∧ c i < 64) (hset : set < 128) (hl : last < n) (hx : nx < n) (hin : inS set nx) (hv : σ.1 6 ((set - 2 ^ (nx - 1)) * 8 + nx) = nI v) : fX3_costVia σ (nI set) (nI last) (nI nx) = some (nI (cs c last nx + v)) := by
  obtain ⟨o1, o2, -⟩ := off_e hset (show nx < 8 by omega) hin
  have hcl := hc last hl
  have hcx := hc nx hx
  have hx64 := xor_lt64 hcl.2 hcx.2
  have hi : nI (set - 2 ^ (nx - 1)) * (8 : Int32) + nI nx = nI ((set - 2 ^ (nx - 1)) * 8 + nx) := by
    rw [show (8 : Int32) = nI 8 from rfl, pk_mul, nI_add]
  unfold fX3_costVia fX3_least
  rw [grdN (by omega) (by omega), grdN (by omega) (by omega), ixN (by omega), ixN (by omega), hcl.1, hcx.1, nI_xor, bitCount_e (by omega), show fX3_sceneBit (nI nx) = nI (2 ^ nx / 2) from scB ⟨nx, by omega⟩, nI_dif, o1, hi, grdN (by omega) (by omega), ixN (by omega), hv, bd_some, nI_add]
  rw [show popN 9 (c last ^^^ c nx) = pc6 (c last ^^^ c nx) from pc_f ⟨_, hx64⟩]
  rfl
/-- the first least next scene -/
def FMn (c V : Nat → Nat) (n set last nx : Nat) : Prop := nx < n ∧ inS set nx ∧ ∀ y, y < n → inS set y → cs c last nx + V nx ≤ cs c last y + V y ∧ (y < nx → cs c last nx + V nx < cs c last y + V y)
theorem fbn_loop {σ : St} {c V : Nat → Nat} {n set last : Nat} (hsz : σ.1 4 1 = nI n) (hn : n ≤ 8) (hc : ∀ i, i < n → σ.1 5 i = nI (c i) ∧ c i < 64) (hset : set < 128) (hl : last < n) (hV : ∀ nx, nx < n → inS set nx → σ.1 6 ((set - 2 ^ (nx - 1)) * 8 + nx) = nI (V nx) ∧ V nx ≤ 10000) (hne : ∃ nx, nx < n ∧ inS set nx) : ∀ (q x N : Nat) (best via : Int32), x + q = n → 1 ≤ x → q < N → (((∀ y, y < x → ¬ inS set y) ∧ via = 2147483647) ∨ ∃ b, best = nI b ∧ via = nI (cs c last b + V b) ∧ FMn c V x set last b) → ∃ nx, fX3_firstBestNext_L9 σ N (nI set) (nI last) best via (nI x) = some (nI nx) ∧ FMn c V n set last nx := by
  have hcs : ∀ a b, cs c a b ≤ 6 := fun a b => pc6_le _
  intro q
  induction q with
  | zero =>
    intro x N best via hx h1 hN hinv
    obtain ⟨N, rfl⟩ : ∃ z, N = z + 1 := ⟨N - 1, by omega⟩
    have hx : x = n := by omega
    subst hx
    rw [fX3_firstBestNext_L9_s, hsz, if_pos (Int32.le_refl _)]
    rcases hinv with ⟨h2, -⟩ | ⟨b, rfl, -, h3⟩
    · obtain ⟨nx, g1, g2⟩ := hne
      exact absurd g2 (h2 nx g1)
    · exact ⟨b, rfl, h3⟩
  | succ q ih =>
    intro x N best via hx h1 hN hinv
    obtain ⟨N, rfl⟩ : ∃ z, N = z + 1 := ⟨N - 1, by omega⟩
    rw [fX3_firstBestNext_L9_s, hsz, if_neg (by rw [nI_leI (by omega) (by omega)]; omega)]
    unfold fX3_firstBestNext_b40 fX3_firstBestNext_b56
    rw [show nI x + (1 : Int32) = nI (x + 1) from nI_1 x]
    have hmx : (2147483647 : Int32).toInt = 2147483647 := rfl
    by_cases hin : inS set x
    · rw [if_neg (fun z => (isIn_e hset (by omega)).mp z hin), via_e hn hc hset hl (show x < n by omega) hin (hV x (by omega) hin).1, bd_some]
      have hVx := (hV x (by omega) hin).2
      have hcx := hcs last x
      rcases hinv with ⟨h2, rfl⟩ | ⟨b, rfl, rfl, h3⟩
      · rw [if_neg (by rw [leI, hmx, nI_toInt (by omega)]; omega)]
        refine ih (x + 1) N _ _ (by omega) (by omega) (by omega) (Or.inr ⟨x, rfl, rfl, by omega, hin, fun y hy hiy => ?_⟩)
        by_cases e : y = x
        · subst e; exact ⟨Nat.le_refl _, fun z => by omega⟩
        · exact absurd hiy (h2 y (by omega))
      · obtain ⟨b1, b2, b3⟩ := h3
        have hVb := (hV b (by omega) b2).2
        have hcb := hcs last b
        by_cases hle : cs c last b + V b ≤ cs c last x + V x
        · rw [if_pos (by rw [nI_leI (by omega) (by omega)]; exact hle)]
          refine ih (x + 1) N _ _ (by omega) (by omega) (by omega) (Or.inr ⟨b, rfl, rfl, by omega, b2, fun y hy hiy => ?_⟩)
          by_cases e : y = x
          · subst e; exact ⟨hle, fun z => by omega⟩
          · exact b3 y (by omega) hiy
        · rw [if_neg (by rw [nI_leI (by omega) (by omega)]; exact hle)]
          refine ih (x + 1) N _ _ (by omega) (by omega) (by omega) (Or.inr ⟨x, rfl, rfl, by omega, hin, fun y hy hiy => ?_⟩)
          by_cases e : y = x
          · subst e; exact ⟨Nat.le_refl _, fun z => by omega⟩
          · have := (b3 y (by omega) hiy).1
            exact ⟨by omega, fun _ => by omega⟩
    · rw [if_pos ((isIn_e hset (by omega)).mpr hin), if_pos (by rw [leI, hmx]; have := rngI via; omega)]
      refine ih (x + 1) N _ _ (by omega) (by omega) (by omega) ?_
      rcases hinv with ⟨h2, h3⟩ | ⟨b, h2, h3, h4, h5, h6⟩
      · refine Or.inl ⟨fun y hy => ?_, h3⟩
        by_cases e : y = x
        · subst e; exact hin
        · exact h2 y (by omega)
      · refine Or.inr ⟨b, h2, h3, by omega, h5, fun y hy hiy => ?_⟩
        by_cases e : y = x
        · subst e; exact absurd hiy hin
        · exact h6 y (by omega) hiy
theorem fbn {σ : St} {c V : Nat → Nat} {n set last : Nat} (hsz : σ.1 4 1 = nI n) (hn : n ≤ 8) (hc : ∀ i, i < n → σ.1 5 i = nI (c i) ∧ c i < 64) (hset : set < 128) (hl : last < n) (hV : ∀ nx, nx < n → inS set nx → σ.1 6 ((set - 2 ^ (nx - 1)) * 8 + nx) = nI (V nx) ∧ V nx ≤ 10000) (hne : ∃ nx, nx < n ∧ inS set nx) : ∃ nx, fX3_firstBestNext σ (nI set) (nI last) = some (nI nx) ∧ FMn c V n set last nx := by
  unfold fX3_firstBestNext
  have h1 : 1 ≤ n := by omega
  obtain ⟨nx, a1, a2⟩ := fbn_loop hsz hn hc hset hl hV hne (n - 1) 1 FU (nI last) 2147483647 (by omega) (Nat.le_refl _) (by rw [FU_big]; omega) (Or.inl ⟨fun y hy z => by have := z.1; omega, rfl⟩)
  exact ⟨nx, a1, a2⟩
theorem ne_f : ∀ n : Fin 9, ∀ set : Fin 128, 1 ≤ n.val → set.val < 2 ^ (n.val - 1) → set.val ≠ 0 → ∃ nx : Fin 8, nx.val < n.val ∧ inB set.val nx.val = true := by decide +kernel
theorem ne_e {n set : Nat} (hn : n ≤ 8) (h1 : 1 ≤ n) (h2 : set < 2 ^ (n - 1)) (h3 : set ≠ 0) : ∃ nx, nx < n ∧ inS set nx := by
  have := pow_128 hn
  obtain ⟨nx, a, b⟩ := ne_f ⟨n, by omega⟩ ⟨set, by omega⟩ h1 h2 h3
  exact ⟨nx.val, a, (inB_iff _ _).mp b⟩
