-- ===== the hands of a figure =====
theorem nI_dec {n : Nat} (h : 1 ≤ n) : nI n + (-1 : Int32) = nI (n - 1) := by
  have := nI_pred (n - 1)
  rw [show n - 1 + 1 = n by omega] at this
  rw [← this, Int32.sub_eq_add_neg]
theorem nI_subm {n : Nat} : nI n + (-1 : Int32) = nI n - 1 := by rw [Int32.sub_eq_add_neg]
theorem hands_loop {σ τ : St} {t k n m0 : Nat} (hk : k < 6) (hn : n ≤ 8) (hm0 : m0 < 512) (hpar : ∀ j, j < n → σ.1 (t + 1) j = τ.1 5 (8 * k + j)) (hl : ∀ j, j < n → Lm τ k j) : ∀ (l N M nd u w pr : Nat), l ≤ n → l < N → l < M → u < 512 → w < 512 → nd + pr = popN 9 m0 → popN 9 u ≤ nd → (m0 ≠ 0 → 1 ≤ nd) → u.testBit 0 = false → (∀ i, i < l → u.testBit (i + 1) = w.testBit i) → ∃ h, fX0_handsFor_L22 σ t N (nI nd) (nI u) (nI l - 1) = some (nI h) ∧ fX7_handsOf_L23 τ M (nI k) (nI m0) (nI w) (nI pr) (nI l - 1) = some (nI h) ∧ h ≤ nd ∧ (m0 ≠ 0 → 1 ≤ h) := by
  intro l
  induction l with
  | zero =>
    intro N M nd u w pr _ hN hM hu hw hsum hpop hne h0 hbit
    obtain ⟨N, rfl⟩ : ∃ z, N = z + 1 := ⟨N - 1, by omega⟩
    obtain ⟨M, rfl⟩ : ∃ z, M = z + 1 := ⟨M - 1, by omega⟩
    have hneg : nI 0 - (1 : Int32) < 0 := by decide
    have hle := popN_le 9 m0
    rw [fX0_handsFor_L22_s, if_pos hneg, fX7_handsOf_L23_s, if_pos hneg, bits_e hm0, bd_some]
    refine ⟨nd, rfl, ?_, Nat.le_refl _, hne⟩
    congr 1
    rw [eqI, subI, nI_toInt (by omega), nI_toInt (by omega), nI_toInt (by omega)] <;> (try rw [nI_toInt (by omega), nI_toInt (by omega)]) <;> omega
  | succ l ih =>
    intro N M nd u w pr hln hN hM hu hw hsum hpop hne h0 hbit
    obtain ⟨N, rfl⟩ : ∃ z, N = z + 1 := ⟨N - 1, by omega⟩
    obtain ⟨M, rfl⟩ : ∃ z, M = z + 1 := ⟨M - 1, by omega⟩
    have hx : nI (l + 1) - (1 : Int32) = nI l := nI_pred l
    have hnn : ¬ nI l < 0 := by
      rw [ltI, nI_toInt (by omega)]
      show ¬ ((l : Int) < 0)
      omega
    obtain ⟨p1, p2⟩ := (hl l (by omega)).1
    have e1 : (1 : Int32).toInt = 1 := rfl
    have hadd : (τ.1 5 (8 * k + l) + (1 : Int32)).toInt = (τ.1 5 (8 * k + l)).toInt + 1 := by
      rw [addI, e1] <;> rw [e1] <;> omega
    obtain ⟨pp, hpp, epp⟩ := toN (x := τ.1 5 (8 * k + l) + (1 : Int32)) (n := l + 1) (by omega) (by omega) (by omega)
    rw [epp, nI_toInt (by omega)] at hadd
    rw [hx, fX0_handsFor_L22_s, if_neg hnn, grdN (by omega) (by omega), ixN (by omega), hpar l (by omega), rod_e (x := nI l) (l := l + 1) (by omega) (nI_1 l), rod_e (x := τ.1 5 (8 * k + l)) (l := pp) (by omega) epp, nI_or, nI_and, nI_dif]
    rw [fX7_handsOf_L23_s, if_neg hnn, e8ki, grdN (by omega) (by omega), ixN (by omega)]
    unfold fX0_handsFor_b64 fX7_handsOf_b73 fX7_handsOf_b74 fX7_handsOf_b93 fX7_handsOf_b108
    rw [nI_subm (n := l)]
    have hpair : (2 ^ (l + 1) ||| 2 ^ pp) < 512 := by
      have e : 512 = 2 ^ 9 := by decide
      rw [e]
      exact Nat.or_lt_two_pow (Nat.pow_lt_pow_right (by decide) (by omega)) (Nat.pow_lt_pow_right (by decide) (by omega))
    have hcond : (nI (u &&& (2 ^ (l + 1) ||| 2 ^ pp)) = nI (2 ^ (l + 1) ||| 2 ^ pp)) ↔ (u.testBit (l + 1) = true ∧ u.testBit pp = true) := by
      have : u &&& (2 ^ (l + 1) ||| 2 ^ pp) ≤ u := Nat.and_le_left
      rw [nI_eqN (by omega) (by omega), and_pair]
    have hb1 := shr_bit ⟨w, hw⟩ ⟨l, by omega⟩
    have hb1 : ((nI w >>> (nI l &&& 31)) &&& (1 : Int32)) = (1 : Int32) ↔ w.testBit l = true := hb1
    have hwm : nI w &&& (-1 : Int32) = nI w := by
      rw [nI_m1, nI_and, Nat.and_two_pow_sub_one_eq_mod, Nat.mod_eq_of_lt (by omega)]
    have hul := hbit l (by omega)
    have i0 : ¬ (1 : Int32) = 0 := by decide
    simp only [if_neg i0, if_true, hwm, Int32.add_zero]
    have stay : ¬ (u.testBit (l + 1) = true ∧ u.testBit pp = true) → ∃ h, fX0_handsFor_L22 σ t N (nI nd) (nI u) (nI l - 1) = some (nI h) ∧ fX7_handsOf_L23 τ M (nI k) (nI m0) (nI w) (nI pr) (nI l - 1) = some (nI h) ∧ h ≤ nd ∧ (m0 ≠ 0 → 1 ≤ h) := fun _ => ih N M nd u w pr (by omega) (by omega) (by omega) hu hw hsum hpop hne h0 (fun i hi => hbit i (by omega))
    by_cases c1 : w.testBit l = true
    · rw [if_pos (hb1.mpr c1)]
      by_cases c2 : pp = 0
      · have hneg : τ.1 5 (8 * k + l) < 0 := by
          rw [ltI]
          show (τ.1 5 (8 * k + l)).toInt < 0
          omega
        have hc : ¬ (u.testBit (l + 1) = true ∧ u.testBit pp = true) := by
          rw [c2, h0]
          intro z
          cases z.2
        rw [if_neg (fun z => hc (hcond.mp z)), if_pos hneg]
        exact stay hc
      · have hnneg : ¬ τ.1 5 (8 * k + l) < 0 := by
          rw [ltI]
          show ¬ ((τ.1 5 (8 * k + l)).toInt < 0)
          omega
        rw [if_neg hnneg]
        have hP : τ.1 5 (8 * k + l) = nI (pp - 1) := by
          rw [eqI, nI_toInt (by omega)]
          omega
        have hb2 := shr_bit ⟨w, hw⟩ ⟨pp - 1, by omega⟩
        have hb2 : ((nI w >>> (nI (pp - 1) &&& 31)) &&& (1 : Int32)) = (1 : Int32) ↔ w.testBit (pp - 1) = true := hb2
        have hup := hbit (pp - 1) (by omega)
        rw [show pp - 1 + 1 = pp by omega] at hup
        rw [hP]
        by_cases c3 : w.testBit (pp - 1) = true
        · have hc : u.testBit (l + 1) = true ∧ u.testBit pp = true := ⟨by rw [hul]; exact c1, by rw [hup]; exact c3⟩
          have hpp2 := pop_pair ⟨u, hu⟩ ⟨l + 1, by omega⟩ ⟨pp, by omega⟩ hc.1 hc.2 (show l + 1 ≠ pp by omega)
          have hpp2 : popN 9 (dif u (2 ^ (l + 1) ||| 2 ^ pp)) + 2 = popN 9 u := hpp2
          rw [if_pos (hcond.mpr hc), if_pos (hb2.mpr c3), nI_dec (n := nd) (by omega), show (1 : Int32) <<< (nI (pp - 1) &&& 31) = nI (2 ^ (pp - 1)) from shl_e ⟨pp - 1, by omega⟩, nI_dif, show nI pr + (1 : Int32) = nI (pr + 1) from nI_1 pr]
          have d1 := dif_le u (2 ^ (l + 1) ||| 2 ^ pp)
          have d2 := dif_le w (2 ^ (pp - 1))
          obtain ⟨h, a1, a2, a3, a4⟩ := ih N M (nd - 1) (dif u (2 ^ (l + 1) ||| 2 ^ pp)) (dif w (2 ^ (pp - 1))) (pr + 1) (by omega) (by omega) (by omega) (by omega) (by omega) (by omega) (by omega) (fun _ => by omega) (by rw [dif_bit (by decide), h0]; rfl) (fun i hi => by
            rw [dif_bit (by omega), dif_bit (by omega), hbit i (by omega), Nat.testBit_or, Nat.testBit_two_pow, Nat.testBit_two_pow, Nat.testBit_two_pow, decide_eq_false (show ¬ l + 1 = i + 1 by omega), Bool.false_or]
            congr 2
            exact decide_eq_decide.mpr (by omega))
          exact ⟨h, a1, a2, by omega, a4⟩
        · have hc : ¬ (u.testBit (l + 1) = true ∧ u.testBit pp = true) := by
            rw [hup]
            exact fun z => c3 z.2
          rw [if_neg (fun z => hc (hcond.mp z)), if_neg (fun z => c3 (hb2.mp z))]
          exact stay hc
    · have hc : ¬ (u.testBit (l + 1) = true ∧ u.testBit pp = true) := by
        rw [hul]
        exact fun z => c1 z.1
      rw [if_neg (fun z => hc (hcond.mp z)), if_neg (fun z => c1 (hb1.mp z))]
      exact stay hc
theorem hands_fig {σ τ : St} {bd nf : Nat} {ft lb : Nat → Nat} {nm : Nat} {mt : Nat → Nat} (b : RF σ τ nf ft lb bd) (c : RM σ τ nm mt nf ft lb bd) {k B : Nat} (hk : k < nf) (hB : B < 100) : ∃ (rods : Int32) (h : Nat), fX4_rodsMoved σ (nI k) (nI B) = some rods ∧ fX0_handsFor σ (ft k) rods = some (nI h) ∧ fX7_handsOf τ (nI k) (nI B) = some (nI h) ∧ h ≤ 9 ∧ (h = 0 ↔ ∀ j, j < nm → ¬ act τ k B j) := by
  have hn6 := b.1.2.2
  have hf := b.2.2.1 k hk
  have h8 := hf.2.2.1
  obtain ⟨m, m1, m2, m3, m4⟩ := rods_ok hn6 (fun k hk => (b.2.2.1 k hk).2.2.1) c (show k < 6 by omega) hB
  obtain ⟨g1, g2, g3, g4⟩ := cnv_f ⟨m, m1⟩
  have g1 : cnv m < 512 := g1
  have g2 : popN 9 (cnv m) = popN 9 m := g2
  obtain ⟨o1, o2, -⟩ := pop_odd ⟨cnv m, g1⟩
  have o1 : nI (cnv m) &&& ((fX4_rodBit (-1 : Int32)) ^^^ (-1 : Int32)) = nI (dif (cnv m) 1) := o1
  have o2 : popN 9 (dif (cnv m) 1) ≤ popN 9 (cnv m) := o2
  have o3 := (pop_odd ⟨m, m1⟩).2.2
  have o3 : m ≠ 0 → 1 ≤ popN 9 m := o3
  have hle := popN_le 9 m
  have d1 := dif_le (cnv m) 1
  obtain ⟨h, a1, a2, a3, a4⟩ := hands_loop (σ := σ) (τ := τ) (t := ft k) (k := k) (n := lb k) (m0 := m) (by omega) h8 m1 (fun j hj => (hf.2.2.2.2 j hj).1.1) (fun j hj => (hf.2.2.2.2 j hj).2) (lb k) FU FU (popN 9 m) (dif (cnv m) 1) m 0 (Nat.le_refl _) (by rw [FU_big]; omega) (by rw [FU_big]; omega) (by omega) m1 (by omega) (by omega) o3 (by
      rw [dif_bit (by decide)]
      simp) (fun i hi => by
      rw [dif_bit (by omega), show Nat.testBit 1 (i + 1) = false from by
        have := @Nat.testBit_two_pow 0 (i + 1)
        rw [Nat.pow_zero] at this
        rw [this]
        exact decide_eq_false (by omega), Bool.not_false, Bool.and_true]
      exact g4 ⟨i, by omega⟩)
  rw [nI_0] at a2
  refine ⟨nI (cnv m), h, m2, ?_, ?_, by omega, ?_⟩
  · unfold fX0_handsFor
    rw [bitCount_e g1, g2, o1, hf.1.2.2.2.2]
    exact a1
  · unfold fX7_handsOf
    rw [m3, bd_some, grdN (by omega) (by omega), ixN (by omega), hf.2.1]
    exact a2
  · rw [← m4]
    constructor
    · intro h0
      by_cases e : m = 0
      · exact e
      · have := a4 e; omega
    · intro h0
      subst h0
      rw [popN_0] at a3
      omega
theorem hands_tail {σ τ : St} {bd nf : Nat} {ft lb : Nat → Nat} (b : RF σ τ nf ft lb bd) (x1 x : Int32) : ∀ (q m N : Nat), m + q = 6 → nf ≤ m → q < N → fX6_handsOfAll_L14 σ N x1 x 6 (nI m) = some x := by
  intro q
  induction q with
  | zero =>
    intro m N hm hn hN
    obtain ⟨N, rfl⟩ : ∃ z, N = z + 1 := ⟨N - 1, by omega⟩
    rw [fX6_handsOfAll_L14_s, if_pos (by rw [show m = 6 by omega]; decide)]
  | succ q ih =>
    intro m N hm hn hN
    obtain ⟨N, rfl⟩ : ∃ z, N = z + 1 := ⟨N - 1, by omega⟩
    rw [fX6_handsOfAll_L14_s, if_neg (by rw [show (6 : Int32) = nI 6 from rfl, nI_leI (by decide) (by omega)]; omega), grdN (by omega) (by omega), app1_e, ixN (by omega), none_of b (by omega) hn, elim_none]
    unfold fX6_handsOfAll_b55
    rw [show nI m + (1 : Int32) = nI (m + 1) from nI_1 m, Int32.add_zero]
    exact ih (m + 1) N (by omega) (by omega) (by omega)
theorem hands_all {σ τ : St} {bq nf : Nat} {ft lb : Nat → Nat} {nm : Nat} {mt : Nat → Nat} (b : RF σ τ nf ft lb bq) (c : RM σ τ nm mt nf ft lb bq) {B : Nat} (hB : B < 100) : ∀ (q m N M x : Nat), m + q = nf → q + 6 < N → q < M → ∃ H, fX6_handsOfAll_L14 σ N (nI B) (nI x) 6 (nI m) = some (nI H) ∧ fX7_handsIn_L4 τ M (nI B) (nI x) (nI m) = some (nI H) ∧ x ≤ H ∧ H ≤ x + 9 * q ∧ (H = x ↔ ∀ k j, m ≤ k → k < nf → j < nm → ¬ act τ k B j) := by
  have hn6 := b.1.2.2
  intro q
  induction q with
  | zero =>
    intro m N M x hm hN hM
    obtain ⟨M, rfl⟩ : ∃ z, M = z + 1 := ⟨M - 1, by omega⟩
    have hm : m = nf := by omega
    subst hm
    rw [hands_tail b (nI B) (nI x) (6 - m) m N (by omega) (Nat.le_refl _) (by omega), fX7_handsIn_L4_s, b.1.2.1, if_pos (Int32.le_refl _)]
    exact ⟨x, rfl, rfl, Nat.le_refl _, by omega, fun _ k j h1 h2 => absurd h2 (by omega), fun _ => rfl⟩
  | succ q ih =>
    intro m N M x hm hN hM
    obtain ⟨N, rfl⟩ : ∃ z, N = z + 1 := ⟨N - 1, by omega⟩
    obtain ⟨M, rfl⟩ : ∃ z, M = z + 1 := ⟨M - 1, by omega⟩
    have hmn : m < nf := by omega
    have hf := b.2.2.1 m hmn
    obtain ⟨rods, h, r1, r2, r3, r4, r5⟩ := hands_fig b c hmn hB
    rw [fX6_handsOfAll_L14_s, if_neg (by rw [show (6 : Int32) = nI 6 from rfl, nI_leI (by decide) (by omega)]; omega), grdN (by omega) (by omega), app1_e, ixN (by omega), b.2.1 m (by omega), if_pos hmn, elim_some, hf.1.1, r1, bd_some, r2, bd_some]
    unfold fX6_handsOfAll_b55
    rw [fX7_handsIn_L4_s, b.1.2.1, if_neg (show ¬ nI nf ≤ nI m by rw [nI_leI (by omega) (by omega)]; omega), r3, bd_some, nI_add, show nI m + (1 : Int32) = nI (m + 1) from nI_1 m]
    obtain ⟨H, a1, a2, a3, a4, a5⟩ := ih (m + 1) N M (x + h) (by omega) (by omega) (by omega)
    refine ⟨H, a1, a2, by omega, by omega, ?_⟩
    constructor
    · intro e k j h1 h2 h3
      by_cases ek : k = m
      · subst ek
        exact r5.mp (by omega) j h3
      · exact a5.mp (by omega) k j (by omega) h2 h3
    · intro hall
      have z1 := a5.mpr (fun k j h1 h2 h3 => hall k j (by omega) h2 h3)
      have z2 := r5.mpr (fun j hj => hall m j (Nat.le_refl _) hmn hj)
      omega
theorem hands_ok {σ τ : St} {bq nf : Nat} {ft lb : Nat → Nat} {nm : Nat} {mt : Nat → Nat} (b : RF σ τ nf ft lb bq) (c : RM σ τ nm mt nf ft lb bq) {B : Nat} (hB : B < 100) : ∃ H, fX6_handsOfAll σ (nI B) = some (nI H) ∧ fX7_handsIn τ (nI B) = some (nI H) ∧ H ≤ 54 ∧ (H = 0 ↔ ∀ j, j < nm → bt τ j ≠ B) := by
  have hn6 := b.1.2.2
  obtain ⟨H, a1, a2, a3, a4, a5⟩ := hands_all b c hB nf 0 FU FU 0 (by omega) (by rw [FU_big]; omega) (by rw [FU_big]; omega)
  rw [nI_0] at a1 a2
  refine ⟨H, a1, a2, by omega, ?_⟩
  rw [a5]
  constructor
  · intro h j hj e
    obtain ⟨f, hf, ef, -⟩ := (c.2.2.1 j hj).2.2
    exact h f j (by omega) hf hj ⟨e, by rw [ef, ixN (by omega)]⟩
  · intro h k j _ _ hj ha
    exact h j hj ha.1
theorem s_hands (x1 : Int32) : StR Rel (fun σ => fX6_hands σ x1) (fun τ => fX7_hands τ x1) := by
  intro σ τ bd h
  obtain ⟨D, nf, ft, lb, nm, mt, ns, a, b, c, d⟩ := id h
  show ∃ r, fX6_hands σ x1 = some r ∧ fX7_hands τ x1 = some r
  unfold fX6_hands fX7_hands
  rw [isB]
  by_cases h2 : fX7_isBeat x1 = 0
  · rw [if_pos h2, if_pos h2]; exact ⟨_, rfl, rfl⟩
  rw [if_neg h2, if_neg h2]
  obtain ⟨B, hB, rfl⟩ := beat_of h2
  obtain ⟨H, a1, a2, -⟩ := hands_ok b c hB
  rw [a1, a2, bd_some]
  exact ⟨_, rfl, rfl⟩
theorem busy_loop {σ τ : St} {bq nf : Nat} {ft lb : Nat → Nat} {nm : Nat} {mt : Nat → Nat} (b : RF σ τ nf ft lb bq) (c : RM σ τ nm mt nf ft lb bq) : ∀ (q B N M x : Nat) (y z : Int32), B + q = 100 → q < N → q < M → x ≤ 54 → (x = 0 ∧ y = -5 ∧ z = 0 ∧ (∀ j, j < nm → B ≤ bt τ j)) ∨ (y = z ∧ 0 < nm) → ∃ r r', fX6_busiestBeat_L7 σ N y (nI x) (nI B) = some r ∧ fX7_busiestBeat_L16 τ M z (nI x) (nI B) = some r' ∧ ((r = -5 ∧ nm = 0) ∨ (r = r' ∧ 0 < nm)) := by
  intro q
  induction q with
  | zero =>
    intro B N M x y z hB hN hM hx hinv
    obtain ⟨N, rfl⟩ : ∃ z, N = z + 1 := ⟨N - 1, by omega⟩
    obtain ⟨M, rfl⟩ : ∃ z, M = z + 1 := ⟨M - 1, by omega⟩
    have hB : B = 100 := by omega
    subst hB
    rw [fX6_busiestBeat_L7_s, if_pos (by decide), fX7_busiestBeat_L16_s, if_pos (by decide)]
    refine ⟨y, z, rfl, rfl, ?_⟩
    rcases hinv with ⟨-, h2, -, h4⟩ | ⟨h1, h2⟩
    · refine Or.inl ⟨h2, ?_⟩
      by_cases e : nm = 0
      · exact e
      · have h5 := h4 0 (by omega)
        obtain ⟨b', g1, -, g3, -⟩ := (c.2.2.1 0 (by omega)).beat
        omega
    · exact Or.inr ⟨h1, h2⟩
  | succ q ih =>
    intro B N M x y z hB hN hM hx hinv
    obtain ⟨N, rfl⟩ : ∃ z, N = z + 1 := ⟨N - 1, by omega⟩
    obtain ⟨M, rfl⟩ : ∃ z, M = z + 1 := ⟨M - 1, by omega⟩
    have hB1 : B < 100 := by omega
    obtain ⟨H, a1, a2, a3, a4⟩ := hands_ok b c hB1
    obtain ⟨rh, h1, h2⟩ := has_ok c hB1
    have i1 : nI B + (1 : Int32) = nI (B + 1) := nI_1 B
    have hcl : ∀ y : Int32, bd (fX4_hasMoveIn σ (nI B)) (fun r1 => if r1 = 0 then fX6_busiestBeat_b33 σ (fX6_busiestBeat_L7 σ N) y (nI x) (nI B) (0 : Int32) else bd (fX6_handsOfAll σ (nI B)) (fun r4 => fX6_busiestBeat_b33 σ (fX6_busiestBeat_L7 σ N) y (nI x) (nI B) r4)) = fX6_busiestBeat_b33 σ (fX6_busiestBeat_L7 σ N) y (nI x) (nI B) (nI H) := by
      intro y
      rw [h1, bd_some]
      by_cases e : rh = 0
      · rw [if_pos e, show H = 0 from a4.mpr (h2.mp e)]; rfl
      · rw [if_neg e, a1, bd_some]
    rw [fX6_busiestBeat_L7_s, if_neg (show ¬ (99 : Int32) < nI B by rw [show (99 : Int32) = nI 99 from rfl, nI_ltI (by decide) (by omega)]; omega), hcl]
    rw [fX7_busiestBeat_L16_s, if_neg (show ¬ (100 : Int32) ≤ nI B by rw [show (100 : Int32) = nI 100 from rfl, nI_leI (by decide) (by omega)]; omega), a2, bd_some]
    unfold fX6_busiestBeat_b33 fX6_busiestBeat_b46 fX7_busiestBeat_b40 fX7_busiestBeat_b53
    rw [i1]
    by_cases e : H ≤ x
    · have e' : nI H ≤ nI x := by rw [nI_leI (by omega) (by omega)]; exact e
      rw [if_pos e', if_pos e', if_pos e']
      refine ih (B + 1) N M x y z (by omega) (by omega) (by omega) hx ?_
      rcases hinv with ⟨g1, g2, g3, g4⟩ | g
      · refine Or.inl ⟨g1, g2, g3, fun j hj => ?_⟩
        have z1 := g4 j hj
        have z2 := a4.mp (by omega) j hj
        omega
      · exact Or.inr g
    · have e' : ¬ nI H ≤ nI x := by rw [nI_leI (by omega) (by omega)]; exact e
      rw [if_neg e', if_neg e', if_neg e']
      refine ih (B + 1) N M H (nI B) (nI B) (by omega) (by omega) (by omega) a3 (Or.inr ⟨rfl, ?_⟩)
      by_cases e0 : nm = 0
      · have := a4.mpr (fun j hj => by omega)
        omega
      · omega
theorem s_busiestBeat : StR Rel (fun σ => fX6_busiestBeat σ) (fun τ => fX7_busiestBeat τ) := by
  intro σ τ bd h
  obtain ⟨D, nf, ft, lb, nm, mt, ns, a, b, c, d⟩ := id h
  show ∃ r, fX6_busiestBeat σ = some r ∧ fX7_busiestBeat τ = some r
  unfold fX6_busiestBeat fX7_busiestBeat
  have hm60 := c.1.2.2
  obtain ⟨r, r', h1, h2, h3⟩ := busy_loop b c 100 0 FU FU 0 (-5) 0 (by omega) (by rw [FU_big]; decide) (by rw [FU_big]; decide) (by decide) (Or.inl ⟨rfl, rfl, rfl, fun _ _ => Nat.zero_le _⟩)
  rw [nI_0] at h1 h2
  rw [c.1.2.1]
  by_cases e : nm = 0
  · subst e
    rw [nI_0, if_pos rfl, h1]
    rcases h3 with ⟨g, -⟩ | ⟨-, g⟩
    · rw [g]; exact ⟨_, rfl, rfl⟩
    · omega
  · have e' : ¬ nI nm = 0 := by
      rw [show (0 : Int32) = nI 0 from rfl, nI_eqN (by omega) (by decide)]
      exact e
    rw [if_neg e', h1, h2]
    rcases h3 with ⟨-, g⟩ | ⟨g, -⟩
    · omega
    · rw [g]; exact ⟨_, rfl, rfl⟩
