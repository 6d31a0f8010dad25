-- ===== the active rods =====
def act (τ : St) (k B j : Nat) : Prop := bt τ j = B ∧ ix (τ.1 9 j) = k
def rbn (τ : St) (j : Nat) : Nat := ((τ.1 10 j).toInt + 1).toNat
def mbn (τ : St) (j : Nat) : Nat := if rbn τ j = 0 then 8 else rbn τ j - 1
theorem Mv.rod {σ τ : St} {t j nf : Nat} {lb : Nat → Nat} (h : Mv σ τ t j nf lb) (h8 : ∀ k, k < nf → lb k ≤ 8) : rbn τ j < 9 ∧ τ.1 10 j + 1 = nI (rbn τ j) ∧ ((τ.1 10 j = -1 ∧ rbn τ j = 0) ∨ ∃ l, l < 8 ∧ τ.1 10 j = nI l ∧ rbn τ j = l + 1) := by
  obtain ⟨-, -, f, hf, -, hc⟩ := h
  have h8f := h8 f hf
  unfold rbn
  rcases hc with ⟨e1, -⟩ | ⟨l, hl, e1, -⟩
  · rw [e1]
    exact ⟨by decide, by decide, Or.inl ⟨rfl, by decide⟩⟩
  · rw [e1, nI_toInt (by omega), show ((l : Int) + 1).toNat = l + 1 by omega]
    exact ⟨by omega, nI_1 l, Or.inr ⟨l, by omega, rfl, rfl⟩⟩
theorem or_pow {m r b : Nat} : (m ||| 2 ^ r).testBit b = true ↔ (m.testBit b = true ∨ r = b) := by
  rw [Nat.testBit_or, Nat.testBit_two_pow, Bool.or_eq_true, decide_eq_true_iff]
theorem or_lt9 {m r : Nat} (h : m < 512) (hr : r < 9) : m ||| 2 ^ r < 512 := by
  have e : 512 = 2 ^ 9 := by decide
  rw [e] at h ⊢
  exact Nat.or_lt_two_pow h (Nat.pow_lt_pow_right (by decide) hr)
theorem rods_loop {σ τ : St} {bd nf : Nat} {ft lb : Nat → Nat} {nm : Nat} {mt : Nat → Nat} (hn6 : nf ≤ 6) (h8 : ∀ k, k < nf → lb k ≤ 8) (c : RM σ τ nm mt nf ft lb bd) {k B : Nat} (hk : k < 6) (hB : B < 100) : ∀ (q i N m : Nat), i + q = 60 → q < N → m < 512 → ∃ m', fX4_rodsMoved_L16 σ N (nI k) (nI B) (nI m) 60 (nI i) = some (nI m') ∧ m' < 512 ∧ ∀ b, m'.testBit b = true ↔ (m.testBit b = true ∨ ∃ j, j ∈ (srt (bt τ) nm).drop i ∧ act τ k B j ∧ rbn τ j = b) := by
  have hlen : (srt (bt τ) nm).length = nm := srt_len nm (fun j hj => by
    obtain ⟨b', h1, -, h3, -⟩ := (c.2.2.1 j hj).beat; rw [h3]; exact h1)
  have hm60 := c.1.2.2
  intro q
  induction q with
  | zero =>
    intro i N m hi hN hm
    obtain ⟨N, rfl⟩ : ∃ z, N = z + 1 := ⟨N - 1, by omega⟩
    rw [fX4_rodsMoved_L16_s, if_pos (by rw [show i = 60 by omega]; decide)]
    refine ⟨m, rfl, hm, fun b => ⟨fun h => Or.inl h, fun h => ?_⟩⟩
    rcases h with h | ⟨j, hj, -⟩
    · exact h
    · rw [List.drop_eq_nil_of_le (by omega)] at hj
      cases hj
  | succ q ih =>
    intro i N m hi hN hm
    obtain ⟨N, rfl⟩ : ∃ z, N = z + 1 := ⟨N - 1, by omega⟩
    rw [fX4_rodsMoved_L16_s, if_neg (by rw [show (60 : Int32) = nI 60 from rfl, nI_leI (by decide) (by omega)]; omega), grdN (by omega) (by omega), app1_e, ixN (by omega), c.2.1 i (by omega), List.getElem?_map]
    unfold fX4_rodsMoved_b64
    rw [show nI i + (1 : Int32) = nI (i + 1) from nI_1 i]
    by_cases hlt : i < (srt (bt τ) nm).length
    · have hd : (srt (bt τ) nm).drop i = (srt (bt τ) nm)[i] :: (srt (bt τ) nm).drop (i + 1) := List.drop_eq_getElem_cons hlt
      have hmem := srt_lt (List.getElem_mem hlt)
      rw [List.getElem?_eq_getElem hlt, Option.map_some, elim_some, hd]
      generalize (srt (bt τ) nm)[i] = j at *
      have hmv := c.2.2.1 j hmem
      obtain ⟨b', g1, g2, g3, g4⟩ := hmv.beat
      obtain ⟨r1, r2, -⟩ := hmv.rod h8
      obtain ⟨f, hf, ef, -⟩ := hmv.2.2
      have exf : ix (τ.1 9 j) = f := by rw [ef, ixN (by omega)]
      rw [g4, hmv.1.2.2.1, ef, hmv.1.2.2.2, rod_e r1 r2, nI_or]
      have skip : ¬ act τ k B j → ∃ m', fX4_rodsMoved_L16 σ N (nI k) (nI B) (nI m) 60 (nI (i + 1)) = some (nI m') ∧ m' < 512 ∧ ∀ b, m'.testBit b = true ↔ (m.testBit b = true ∨ ∃ j', j' ∈ j :: (srt (bt τ) nm).drop (i + 1) ∧ act τ k B j' ∧ rbn τ j' = b) := by
        intro hna
        obtain ⟨m', a1, a2, a3⟩ := ih (i + 1) N m (by omega) (by omega) hm
        refine ⟨m', a1, a2, fun b => ?_⟩
        rw [a3]
        constructor
        · rintro (h | ⟨j', h1, h2⟩)
          · exact Or.inl h
          · exact Or.inr ⟨j', List.mem_cons_of_mem _ h1, h2⟩
        · rintro (h | ⟨j', h1, h2, h3⟩)
          · exact Or.inl h
          · rcases List.mem_cons.mp h1 with e | h1
            · subst e; exact absurd h2 hna
            · exact Or.inr ⟨j', h1, h2, h3⟩
      by_cases e1 : b' = B
      · rw [if_pos (by rw [e1])]
        by_cases e2 : f = k
        · rw [if_pos (by rw [e2])]
          have ha : act τ k B j := ⟨by rw [g3]; exact e1, by rw [exf]; exact e2⟩
          obtain ⟨m', a1, a2, a3⟩ := ih (i + 1) N (m ||| 2 ^ rbn τ j) (by omega) (by omega) (or_lt9 hm r1)
          refine ⟨m', a1, a2, fun b => ?_⟩
          rw [a3, or_pow]
          constructor
          · rintro ((h | h) | ⟨j', h1, h2⟩)
            · exact Or.inl h
            · exact Or.inr ⟨j, List.mem_cons_self .., ha, h⟩
            · exact Or.inr ⟨j', List.mem_cons_of_mem _ h1, h2⟩
          · rintro (h | ⟨j', h1, h2, h3⟩)
            · exact Or.inl (Or.inl h)
            · rcases List.mem_cons.mp h1 with e | h1
              · subst e; exact Or.inl (Or.inr h3)
              · exact Or.inr ⟨j', h1, h2, h3⟩
        · rw [if_neg (by rw [nI_eqN (by omega) (by omega)]; exact e2)]
          exact skip (fun h => e2 (by rw [← exf]; exact h.2))
      · rw [if_neg (by rw [nI_eqN (by omega) (by omega)]; exact e1)]
        exact skip (fun h => e1 (by rw [← g3]; exact h.1))
    · rw [List.getElem?_eq_none (by omega), Option.map_none, elim_none]
      obtain ⟨m', a1, a2, a3⟩ := ih (i + 1) N m (by omega) (by omega) hm
      refine ⟨m', a1, a2, fun b => ?_⟩
      rw [a3, List.drop_eq_nil_of_le (by omega), List.drop_eq_nil_of_le (by omega)]
theorem act_loop {σ τ : St} {bd nf : Nat} {ft lb : Nat → Nat} {nm : Nat} {mt : Nat → Nat} (hn6 : nf ≤ 6) (h8 : ∀ k, k < nf → lb k ≤ 8) (c : RM σ τ nm mt nf ft lb bd) {k B : Nat} (hk : k < 6) (hB : B < 100) : ∀ (q j N m : Nat), j + q = nm → q < N → m < 512 → ∃ m', fX7_activeOf_L5 τ N (nI k) (nI B) (nI m) (nI j) = some (nI m') ∧ m' < 512 ∧ ∀ b, m'.testBit b = true ↔ (m.testBit b = true ∨ ∃ j', j ≤ j' ∧ j' < nm ∧ act τ k B j' ∧ mbn τ j' = b) := by
  have hm60 := c.1.2.2
  intro q
  induction q with
  | zero =>
    intro j N m hj hN hm
    obtain ⟨N, rfl⟩ : ∃ z, N = z + 1 := ⟨N - 1, by omega⟩
    have hj : j = nm := by omega
    subst hj
    rw [fX7_activeOf_L5_s, c.1.2.1, if_pos (Int32.le_refl _)]
    refine ⟨m, rfl, hm, fun b => ⟨fun h => Or.inl h, fun h => ?_⟩⟩
    rcases h with h | ⟨j', h1, h2, -⟩
    · exact h
    · omega
  | succ q ih =>
    intro j N m hj hN hm
    obtain ⟨N, rfl⟩ : ∃ z, N = z + 1 := ⟨N - 1, by omega⟩
    rw [fX7_activeOf_L5_s, c.1.2.1, if_neg (by rw [nI_leI (by omega) (by omega)]; omega), grdN (by omega) (by omega), grdN (by omega) (by omega), ixN (by omega)]
    have hmv := c.2.2.1 j (by omega)
    obtain ⟨b', g1, g2, g3, -⟩ := hmv.beat
    obtain ⟨r1, r2, r3⟩ := hmv.rod h8
    obtain ⟨f, hf, ef, -⟩ := hmv.2.2
    have exf : ix (τ.1 9 j) = f := by rw [ef, ixN (by omega)]
    unfold fX7_activeOf_b40 fX7_activeOf_b41 fX7_activeOf_b78
    rw [g2, ef, grdN (by omega) (by omega), grdN (by omega) (by omega), if_pos rfl, if_neg (show ¬ (1 : Int32) = 0 by decide), show nI j + (1 : Int32) = nI (j + 1) from nI_1 j, Int32.or_zero, ixN (by omega)]
    have skip : ¬ act τ k B j → ∃ m', fX7_activeOf_L5 τ N (nI k) (nI B) (nI m) (nI (j + 1)) = some (nI m') ∧ m' < 512 ∧ ∀ b, m'.testBit b = true ↔ (m.testBit b = true ∨ ∃ j', j ≤ j' ∧ j' < nm ∧ act τ k B j' ∧ mbn τ j' = b) := by
      intro hna
      obtain ⟨m', a1, a2, a3⟩ := ih (j + 1) N m (by omega) (by omega) hm
      refine ⟨m', a1, a2, fun b => ?_⟩
      rw [a3]
      constructor
      · rintro (h | ⟨j', h1, h2⟩)
        · exact Or.inl h
        · exact Or.inr ⟨j', by omega, h2⟩
      · rintro (h | ⟨j', h1, h2, h3, h4⟩)
        · exact Or.inl h
        · by_cases e : j' = j
          · subst e; exact absurd h3 hna
          · exact Or.inr ⟨j', by omega, h2, h3, h4⟩
    by_cases e1 : b' = B
    · rw [if_pos (by rw [e1])]
      by_cases e2 : f = k
      · rw [if_pos (by rw [e2])]
        have ha : act τ k B j := ⟨by rw [g3]; exact e1, by rw [exf]; exact e2⟩
        have hstep : (if (0 : Int32) ≤ τ.1 10 j then fX7_activeOf_L5 τ N (nI k) (nI B) (nI m ||| (1 : Int32) <<< (τ.1 10 j &&& 31)) (nI (j + 1)) else fX7_activeOf_L5 τ N (nI k) (nI B) (nI m ||| (256 : Int32)) (nI (j + 1))) = fX7_activeOf_L5 τ N (nI k) (nI B) (nI (m ||| 2 ^ mbn τ j)) (nI (j + 1)) ∧ mbn τ j < 9 := by
          unfold mbn
          rcases r3 with ⟨e3, e4⟩ | ⟨l, hl, e3, e4⟩
          · rw [e3, e4, if_neg (by decide), if_pos rfl, show (256 : Int32) = nI (2 ^ 8) by decide, nI_or]
            exact ⟨rfl, by decide⟩
          · have hnn : (0 : Int32) ≤ nI l := by
              rw [leI, nI_toInt (by omega)]
              show (0 : Int) ≤ l
              omega
            rw [e3, e4, if_pos hnn, if_neg (by omega), Nat.add_sub_cancel, show (1 : Int32) <<< (nI l &&& 31) = nI (2 ^ l) from shl_e ⟨l, by omega⟩, nI_or]
            exact ⟨rfl, by omega⟩
        rw [hstep.1]
        obtain ⟨m', a1, a2, a3⟩ := ih (j + 1) N (m ||| 2 ^ mbn τ j) (by omega) (by omega) (or_lt9 hm hstep.2)
        refine ⟨m', a1, a2, fun b => ?_⟩
        rw [a3, or_pow]
        constructor
        · rintro ((h | h) | ⟨j', h1, h2⟩)
          · exact Or.inl h
          · exact Or.inr ⟨j, Nat.le_refl _, by omega, ha, h⟩
          · exact Or.inr ⟨j', by omega, h2⟩
        · rintro (h | ⟨j', h1, h2, h3, h4⟩)
          · exact Or.inl (Or.inl h)
          · by_cases e : j' = j
            · subst e; exact Or.inl (Or.inr h4)
            · exact Or.inr ⟨j', by omega, h2, h3, h4⟩
      · rw [if_neg (by rw [nI_eqN (by omega) (by omega)]; exact e2)]
        exact skip (fun h => e2 (by rw [← exf]; exact h.2))
    · rw [if_neg (by rw [nI_eqN (by omega) (by omega)]; exact e1)]
      exact skip (fun h => e1 (by rw [← g3]; exact h.1))
theorem rods_ok {σ τ : St} {bd nf : Nat} {ft lb : Nat → Nat} {nm : Nat} {mt : Nat → Nat} (hn6 : nf ≤ 6) (h8 : ∀ k, k < nf → lb k ≤ 8) (c : RM σ τ nm mt nf ft lb bd) {k B : Nat} (hk : k < 6) (hB : B < 100) : ∃ m, m < 512 ∧ fX4_rodsMoved σ (nI k) (nI B) = some (nI (cnv m)) ∧ fX7_activeOf τ (nI k) (nI B) = some (nI m) ∧ (m = 0 ↔ ∀ j, j < nm → ¬ act τ k B j) := by
  have hm60 := c.1.2.2
  obtain ⟨u, a1, a2, a3⟩ := rods_loop hn6 h8 c hk hB 60 0 FU 0 (by omega) (by rw [FU_big]; decide) (by decide)
  obtain ⟨m, b1, b2, b3⟩ := act_loop hn6 h8 c hk hB nm 0 FU 0 (by omega) (by rw [FU_big]; omega) (by decide)
  rw [nI_0] at a1 b1
  have hmem : ∀ j, j ∈ (srt (bt τ) nm).drop 0 ↔ j < nm := by
    intro j
    rw [List.drop_zero]
    refine ⟨srt_lt, fun hj => ?_⟩
    rw [srt_seg, mem_seg]
    obtain ⟨b', h1, -, h3, -⟩ := (c.2.2.1 j hj).beat
    exact ⟨hj, by omega, by omega⟩
  have key : ∀ b b', (∀ j, j < nm → (rbn τ j = b ↔ mbn τ j = b')) → u.testBit b = m.testBit b' := by
    intro b b' hbb
    have h1 : u.testBit b = true ↔ m.testBit b' = true := by
      rw [a3, b3, Nat.zero_testBit, Nat.zero_testBit]
      constructor
      · rintro (h | ⟨j, h1, h2, h3⟩)
        · cases h
        · have hj := (hmem j).mp h1
          exact Or.inr ⟨j, by omega, hj, h2, (hbb j hj).mp h3⟩
      · rintro (h | ⟨j, -, h1, h2, h3⟩)
        · cases h
        · exact Or.inr ⟨j, (hmem j).mpr h1, h2, (hbb j h1).mpr h3⟩
    cases h2 : u.testBit b <;> cases h3 : m.testBit b' <;> simp_all
  have hr : ∀ j, j < nm → rbn τ j < 9 := fun j hj => ((c.2.2.1 j hj).rod h8).1
  have hcnv : u = cnv m := by
    apply cnv_of a2 b2
    · apply key
      intro j hj
      have := hr j hj
      unfold mbn
      split <;> omega
    · intro b hb
      apply key
      intro j hj
      have := hr j hj
      unfold mbn
      split <;> omega
  refine ⟨m, b2, ?_, b1, ?_⟩
  · rw [← hcnv]; exact a1
  · constructor
    · intro h0 j hj ha
      have := (b3 (mbn τ j)).mpr (Or.inr ⟨j, by omega, hj, ha, rfl⟩)
      rw [h0, Nat.zero_testBit] at this
      cases this
    · intro h
      apply Nat.eq_of_testBit_eq
      intro i
      rw [Nat.zero_testBit]
      cases hb : m.testBit i with
      | false => rfl
      | true =>
        rcases (b3 i).mp hb with z | ⟨j, -, h1, h2, -⟩
        · rw [Nat.zero_testBit] at z; cases z
        · exact absurd h2 (h j h1)
theorem s_activeRods (x1 x2 : Int32) : StR Rel (fun σ => fX6_activeRods σ x1 x2) (fun τ => fX7_activeRods τ x1 x2) := by
  intro σ τ bd h
  obtain ⟨D, nf, ft, lb, nm, mt, ns, a, b, c, d⟩ := id h
  show ∃ r, fX6_activeRods σ x1 x2 = some r ∧ fX7_activeRods τ x1 x2 = some r
  unfold fX6_activeRods fX7_activeRods
  rw [figAt b, noFig b, bd_some]
  have hn6 := b.1.2.2
  by_cases hx : ¬ (0 ≤ x1.toInt ∧ x1.toInt < nf)
  · rw [if_neg hx, if_neg hx, elim_none, if_neg (by decide)]
    exact ⟨_, rfl, rfl⟩
  have hx := Classical.not_not.mp hx
  rw [if_pos hx, if_pos hx, elim_some, if_pos rfl, isB]
  by_cases h2 : fX7_isBeat x2 = 0
  · rw [if_pos h2, if_pos h2]; exact ⟨_, rfl, rfl⟩
  rw [if_neg h2, if_neg h2]
  obtain ⟨k, hk, rfl⟩ := toN hx.1 hx.2 (by omega)
  obtain ⟨B, hB, rfl⟩ := beat_of h2
  obtain ⟨m, m1, m2, m3, -⟩ := rods_ok hn6 (fun k hk => (b.2.2.1 k hk).2.2.1) c (show k < 6 by omega) hB
  obtain ⟨g1, g2, -⟩ := cnv_f ⟨m, m1⟩
  rw [m2, m3, bd_some, bd_some, bits_e m1, bd_some, bitCount_e g1]
  exact ⟨_, rfl, by rw [← g2]⟩
