-- ===== crossings, nextCrossing =====
theorem bst_same {τ τ' : St} (h : SameM τ τ') (D : Nat) : bst τ' D = bst τ D := by
  funext s j
  unfold bst
  rw [h 10 (by omega), h 11 (by omega), h 12 (by omega), h 13 (by omega)]
theorem bsA_same {τ τ' : St} (h : SameM τ τ') (D k nm B : Nat) : bsA τ' D k nm B = bsA τ D k nm B := by
  have e1 : bt τ' = bt τ := by funext j; show ix (τ'.1 8 j) = ix (τ.1 8 j); rw [h 8 (by omega)]
  have e2 : bs0 τ' D k = bs0 τ D k := by unfold bs0; rw [h 1 (by omega), h 2 (by omega), h 3 (by omega), h 7 (by omega)]
  unfold bsA mvK
  rw [e1, e2, bst_same h, h 9 (by omega)]
theorem ptN_same {τ τ' : St} (h : SameM τ τ') (k : Nat) (s : Bs) : ∀ n, ptN τ' k s n = ptN τ k s n := by
  intro n
  induction n with
  | zero => rfl
  | succ n ih =>
    funext i
    show (if i = n + 1 then ptS τ' k s (ptN τ' k s n ((τ'.1 5 (8 * k + n)).toInt + 1).toNat) n else ptN τ' k s n i) = (if i = n + 1 then ptS τ k s (ptN τ k s n ((τ.1 5 (8 * k + n)).toInt + 1).toNat) n else ptN τ k s n i)
    rw [ih, h 5 (by omega)]
    unfold ptS
    rw [h 6 (by omega)]
theorem MP_same {τ τ' τ'' : St} (h : SameM τ τ') {D nf nm B m : Nat} {lb : Nat → Nat} (g : MP τ' τ'' D nf lb nm B m) : MP τ τ'' D nf lb nm B m := by
  intro k hk
  have := g k hk
  rw [bsA_same h, ptN_same h] at this
  exact this
theorem cross_all {σ τ σ1 τ1 : St} {bd D nf : Nat} {ft lb : Nat → Nat} {nm : Nat} {mt : Nat → Nat} {k k' B B' : Nat} (a : RD σ τ D) (b : RF σ τ nf ft lb bd) (c : RM σ τ nm mt nf ft lb bd) (hk : k < nf) (hk' : k' < nf) (hB : B < 100) (sc : SameC σ σ1) (sm : SameM τ τ1) (p1 : PO σ1 τ 7 D k (lb k) (bsA τ D k nm B)) (p2 : PO σ1 τ 12 D k' (lb k') (bsA τ D k' nm B)) (hm : MP τ τ1 D nf lb nm B' nf) (e1 : bsA τ D k nm B' = bsA τ D k nm B) (e2 : bsA τ D k' nm B' = bsA τ D k' nm B) : ∃ r σ2 τ2, fX6_crossingLimbs_L13 (ft k) (ft k') FU σ1 0 0 = some (r, σ2) ∧ fX7_crossingsNow τ1 (nI k) (nI k') = some (r, τ2) ∧ SameC σ1 σ2 ∧ SameM τ1 τ2 := by
  have hn6 := b.1.2.2
  have hf := b.2.2.1 k hk
  have hf' := b.2.2.1 k' hk'
  have ht := b.2.2.2.1 k hk
  have ht' := b.2.2.2.1 k' hk'
  have hpl := (take_ok (t0 := 7) (B := B) b c hk (by decide) a.2.2 hB).2.2.2.1
  have hql := (take_ok (t0 := 7) (B := B) b c hk' (by decide) a.2.2 hB).2.2.2.1
  have hD := a.2.2
  have m1 := hm k hk
  have m2 := hm k' hk'
  rw [e1] at m1
  rw [e2] at m2
  have tp : TP σ1 τ τ1 k k' (lb k) (lb k') (bsA τ D k nm B) (bsA τ D k' nm B) := ⟨⟨p1.1, p1.2.1⟩, ⟨p2.1, p2.2.1⟩, m1, m2⟩
  have fx : FX σ1 τ τ1 (ft k) (ft k') k k' (lb k) (lb k') := by
    refine ⟨⟨?_, ?_⟩, fun j hj => ?_, fun j hj => ?_, ?_, ?_, ?_⟩
    · rw [sc.1 (ft k) (by omega)]; exact hf.1.2.2.2.2
    · rw [sc.1 (ft k') (by omega)]; exact hf'.1.2.2.2.2
    · rw [sc.1 (ft k + 1) (by omega)]; exact (hf.2.2.2.2 j hj).1.1
    · rw [sc.1 (ft k' + 1) (by omega)]; exact (hf'.2.2.2.2 j hj).1.1
    · rw [sm 4 (by omega)]; exact hf.2.1
    · rw [sm 4 (by omega)]; exact hf'.2.1
    · exact sm 5 (by omega)
  have h8 := hf.2.2.1
  have h8' := hf'.2.2.1
  obtain ⟨r, σ2, τ2, x1, x2, x3⟩ := cross_out (t := ft k) (t' := ft k') (by omega) (by omega) h8 h8' (fun j hj => (hf.2.2.2.2 j hj).2) (fun j hj => (hf'.2.2.2.2 j hj).2) (pbd_of a b c hk hB) (pbd_of a b c hk' hB) (by omega) (by omega) (lb k) 0 FU FU σ1 τ1 0 (by omega) (by rw [FU_big]; omega) (by rw [FU_big]; omega) tp fx
  rw [nI_0] at x1 x2
  exact ⟨r, σ2, τ2, x1, x2, ⟨fun t _ => by rw [x3.1], x3.2.1⟩, fun t _ => by rw [x3.2.2.1]⟩
theorem twoB {σ τ : St} {nf bd : Nat} {ft lb : Nat → Nat} (b : RF σ τ nf ft lb bd) (x1 x2 x3 : Int32) : fX7_twoBarred τ x1 x2 x3 = if 0 ≤ x1.toInt ∧ x1.toInt < nf then if 0 ≤ x2.toInt ∧ x2.toInt < nf then if fX7_isBeat x3 = 0 then -3 else if x1 = x2 then -3 else 0 else -1 else -1 := by
  unfold fX7_twoBarred
  rw [noFig b, noFig b]
  by_cases h1 : 0 ≤ x1.toInt ∧ x1.toInt < nf
  · rw [if_pos h1, if_pos h1, if_pos rfl]
    by_cases h2 : 0 ≤ x2.toInt ∧ x2.toInt < nf
    · rw [if_pos h2, if_pos h2, if_pos rfl]
    · rw [if_neg h2, if_neg h2, if_neg (by decide)]
  · rw [if_neg h1, if_neg h1, if_neg (by decide)]
theorem s_crossings (x1 x2 x3 : Int32) : StS Rel (fun σ => fX6_crossings σ x1 x2 x3) (fun τ => fX7_crossings τ x1 x2 x3) := by
  intro σ τ bd h
  obtain ⟨D, nf, ft, lb, nm, mt, ns, a, b, c, d⟩ := id h
  show ∃ r σ' τ', fX6_crossings σ x1 x2 x3 = some (r, σ') ∧ fX7_crossings τ x1 x2 x3 = some (r, τ') ∧ Rel σ' τ' bd
  unfold fX6_crossings fX7_crossings
  rw [twoB b, figAt b, figAt b, bd_some, bd_some]
  have hn6 := b.1.2.2
  by_cases hx : ¬ (0 ≤ x1.toInt ∧ x1.toInt < nf)
  · rw [if_neg hx, if_neg hx, elim_none, if_neg (by decide)]
    exact ⟨_, σ, τ, rfl, rfl, h⟩
  have hx := Classical.not_not.mp hx
  rw [if_pos hx, if_pos hx, elim_some]
  by_cases hy : ¬ (0 ≤ x2.toInt ∧ x2.toInt < nf)
  · rw [if_neg hy, if_neg hy, elim_none, if_neg (by decide)]
    exact ⟨_, σ, τ, rfl, rfl, h⟩
  have hy := Classical.not_not.mp hy
  rw [if_pos hy, if_pos hy, elim_some, isB]
  by_cases h3 : fX7_isBeat x3 = 0
  · rw [if_pos h3, if_pos h3, if_neg (show ¬ (0 : Int32) ≤ -3 by decide)]
    refine ⟨-3, σ, τ, ?_, rfl, h⟩
    split <;> rfl
  rw [if_neg h3, if_neg h3]
  by_cases he : x1 = x2
  · rw [if_pos he, if_pos he, if_neg (by decide)]
    exact ⟨_, σ, τ, rfl, rfl, h⟩
  rw [if_neg he, if_neg he, if_pos (by decide)]
  obtain ⟨k, hk, rfl⟩ := toN hx.1 hx.2 (by omega)
  obtain ⟨k', hk', rfl⟩ := toN hy.1 hy.2 (by omega)
  obtain ⟨B, hB, rfl⟩ := beat_of h3
  obtain ⟨σ1, u1, u2, u3, u4⟩ := takePoses_ok a b c hk hk' hB
  obtain ⟨τ1, v1, v2, v3⟩ := goTo_ok a b c hB
  obtain ⟨r, σ2, τ2, w1, w2, w3, w4⟩ := cross_all a b c hk hk' hB u2 v2 u3 u4 v3 rfl rfl
  unfold fX6_crossingLimbs
  rw [ixN (by omega), ixN (by omega), u1, bd_some, w1, bd2_some, v1, bd_some, w2, bd2_some]
  exact ⟨r, σ2, τ2, rfl, rfl, h.same (u2.trans w3) (v2.trans w4)⟩
theorem has_loop {σ τ : St} {bd nf : Nat} {ft lb : Nat → Nat} {nm : Nat} {mt : Nat → Nat} (c : RM σ τ nm mt nf ft lb bd) {B : Nat} (hB : B < 100) : ∀ (q i N : Nat), i + q = 60 → q < N → ∃ r, fX4_hasMoveIn_L11 σ N (nI B) 60 (nI i) = some r ∧ (r = 0 ↔ ∀ j, j ∈ (srt (bt τ) nm).drop i → bt τ j ≠ B) := by
  have hlen : (srt (bt τ) nm).length = nm := srt_len nm (fun j hj => by
    obtain ⟨b', h1, -, h3, -⟩ := (c.2.2.1 j hj).beat; rw [h3]; exact h1)
  have hm60 := c.1.2.2
  intro q
  induction q with
  | zero =>
    intro i N hi hN
    obtain ⟨N, rfl⟩ : ∃ z, N = z + 1 := ⟨N - 1, by omega⟩
    rw [fX4_hasMoveIn_L11_s, if_pos (by rw [show i = 60 by omega]; decide)]
    refine ⟨0, rfl, fun _ j hj => ?_, fun _ => rfl⟩
    rw [List.drop_eq_nil_of_le (by omega)] at hj
    cases hj
  | succ q ih =>
    intro i N hi hN
    obtain ⟨N, rfl⟩ : ∃ z, N = z + 1 := ⟨N - 1, by omega⟩
    rw [fX4_hasMoveIn_L11_s, if_neg (by rw [show (60 : Int32) = nI 60 from rfl, nI_leI (by decide) (by omega)]; omega), grdN (by omega) (by omega), app1_e, ixN (by omega), c.2.1 i (by omega), List.getElem?_map]
    unfold fX4_hasMoveIn_b39
    rw [show nI i + (1 : Int32) = nI (i + 1) from nI_1 i]
    obtain ⟨r, r1, r2⟩ := ih (i + 1) N (by omega) (by omega)
    by_cases hlt : i < (srt (bt τ) nm).length
    · have hd : (srt (bt τ) nm).drop i = (srt (bt τ) nm)[i] :: (srt (bt τ) nm).drop (i + 1) := List.drop_eq_getElem_cons hlt
      have hmem := srt_lt (List.getElem_mem hlt)
      rw [List.getElem?_eq_getElem hlt, Option.map_some, elim_some, hd]
      generalize (srt (bt τ) nm)[i] = j at *
      obtain ⟨b', g1, g2, g3, g4⟩ := (c.2.2.1 j hmem).beat
      rw [g4]
      by_cases e : b' = B
      · rw [if_pos (by rw [e])]
        exact ⟨1, rfl, fun h => absurd h (by decide), fun h => absurd (by rw [g3]; exact e) (h j (List.mem_cons_self ..))⟩
      · rw [if_neg (by rw [nI_eqN (by omega) (by omega)]; exact e)]
        refine ⟨r, r1, ?_⟩
        rw [r2]
        constructor
        · intro h z hz
          rcases List.mem_cons.mp hz with rfl | hz
          · rw [g3]; exact e
          · exact h z hz
        · intro h z hz
          exact h z (List.mem_cons_of_mem _ hz)
    · rw [List.getElem?_eq_none (by omega), Option.map_none, elim_none]
      refine ⟨r, r1, ?_⟩
      rw [r2, List.drop_eq_nil_of_le (by omega), List.drop_eq_nil_of_le (by omega)]
theorem has_ok {σ τ : St} {bd nf : Nat} {ft lb : Nat → Nat} {nm : Nat} {mt : Nat → Nat} (c : RM σ τ nm mt nf ft lb bd) {B : Nat} (hB : B < 100) : ∃ r, fX4_hasMoveIn σ (nI B) = some r ∧ (r = 0 ↔ ∀ j, j < nm → bt τ j ≠ B) := by
  obtain ⟨r, r1, r2⟩ := has_loop c hB 60 0 FU (by omega) (by rw [FU_big]; decide)
  rw [nI_0] at r1
  refine ⟨r, r1, ?_⟩
  rw [r2, List.drop_zero]
  constructor
  · intro h j hj
    refine h j ?_
    rw [srt_seg, mem_seg]
    obtain ⟨b', h1, -, h3, -⟩ := (c.2.2.1 j hj).beat
    exact ⟨hj, by omega, by omega⟩
  · intro h j hj
    exact h j (srt_lt hj)
theorem bsA_quiet {τ : St} {D k nm B : Nat} (h : ∀ j, j < nm → bt τ j ≠ B + 1) : bsA τ D k nm (B + 1) = bsA τ D k nm B := by
  unfold bsA
  rw [seg_app (bt τ) nm 0 (B + 1) 1, seg_one]
  have : (List.range nm).filter (fun j => bt τ j == 0 + (B + 1)) = [] := by
    rw [List.filter_eq_nil_iff]
    intro j hj
    have := h j (List.mem_range.mp hj)
    simp only [beq_iff_eq, Nat.zero_add]
    exact this
  rw [this, List.append_nil]
def Wit (σ τ : St) (D k k' nm : Nat) (ft lb : Nat → Nat) (B : Nat) : Prop := ∃ σw, SameC σ σw ∧ PO σw τ 7 D k (lb k) (bsA τ D k nm B) ∧ PO σw τ 12 D k' (lb k') (bsA τ D k' nm B) ∧ ∃ r σ', fX6_crossingLimbs_L13 (ft k) (ft k') FU σw 0 0 = some (r, σ') ∧ r ≤ 0
theorem next_loop {σ τ : St} {bq D nf : Nat} {ft lb : Nat → Nat} {nm : Nat} {mt : Nat → Nat} {k k' B0 : Nat} (a : RD σ τ D) (b : RF σ τ nf ft lb bq) (c : RM σ τ nm mt nf ft lb bq) (hk : k < nf) (hk' : k' < nf) (hB0 : B0 < 100) : ∀ (q B N M : Nat) (σc τc : St), B + q = 100 → q < N → q < M → B0 ≤ B → SameC σ σc → SameM τ τc → (B0 < B → Wit σ τ D k k' nm ft lb (B - 1)) → ∃ r σ2 τ2, fX6_nextCrossing_L44 N σc (nI B0) (ft k) (ft k') (nI B) = some (r, σ2) ∧ fX7_nextCrossing_L20 M τc (nI k) (nI k') (nI B) = some (r, τ2) ∧ SameC σ σ2 ∧ SameM τ τ2 := by
  have hn6 := b.1.2.2
  intro q
  induction q with
  | zero =>
    intro B N M σc τc hB hN hM h0 sc sm wit
    obtain ⟨N, rfl⟩ : ∃ z, N = z + 1 := ⟨N - 1, by omega⟩
    obtain ⟨M, rfl⟩ : ∃ z, M = z + 1 := ⟨M - 1, by omega⟩
    have hB : B = 100 := by omega
    subst hB
    rw [fX6_nextCrossing_L44_s, if_pos (by decide), fX7_nextCrossing_L20_s, if_pos (by decide)]
    exact ⟨_, σc, τc, rfl, rfl, sc, sm⟩
  | succ q ih =>
    intro B N M σc τc hB hN hM h0 sc sm wit
    obtain ⟨N, rfl⟩ : ∃ z, N = z + 1 := ⟨N - 1, by omega⟩
    obtain ⟨M, rfl⟩ : ∃ z, M = z + 1 := ⟨M - 1, by omega⟩
    have hB1 : B < 100 := by omega
    have bc := b.same sc (SameM.rfl' τ)
    have cc := c.same sc (SameM.rfl' τ)
    have ac := a.same sc (SameM.rfl' τ)
    have i1 : nI B + (1 : Int32) = nI (B + 1) := nI_1 B
    obtain ⟨τ1, v1, v2, v3⟩ := goTo_ok (a.same (SameC.rfl' σ) sm) (b.same (SameC.rfl' σ) sm) (c.same (SameC.rfl' σ) sm) hB1
    have v3 := MP_same sm v3
    have sm1 := sm.trans v2
    rw [fX6_nextCrossing_L44_s, if_neg (show ¬ (99 : Int32) < nI B by rw [show (99 : Int32) = nI 99 from rfl, nI_ltI (by decide) (by omega)]; omega)]
    rw [fX7_nextCrossing_L20_s, if_neg (show ¬ (100 : Int32) ≤ nI B by rw [show (100 : Int32) = nI 100 from rfl, nI_leI (by decide) (by omega)]; omega), v1, bd_some]
    have eval : ∃ r σ2 τ2, fX6_nextCrossing_b69 (fX6_nextCrossing_L44 N) σc (nI B0) (ft k) (ft k') (nI B) = some (r, σ2) ∧ bd2 (fX7_crossingsNow τ1 (nI k) (nI k')) (fun r3 σ4 => if r3 ≤ 0 then fX7_nextCrossing_L20 M σ4 (nI k) (nI k') (nI B + (1 : Int32)) else some (nI B, σ4)) = some (r, τ2) ∧ SameC σ σ2 ∧ SameM τ τ2 := by
      unfold fX6_nextCrossing_b69 fX6_nextCrossing_b74 fX6_nextCrossing_b97 fX6_crossingLimbs
      obtain ⟨σ1, u1, u2, u3, u4⟩ := takePoses_ok ac bc cc hk hk' hB1
      obtain ⟨r, σ2, τ2, w1, w2, w3, w4⟩ := cross_all a b c hk hk' hB1 (sc.trans u2) sm1 u3 u4 v3 rfl rfl
      rw [if_neg (by decide), u1, bd_some, w1, bd2_some, w2, bd2_some, i1]
      by_cases hr : r ≤ 0
      · rw [if_pos hr, if_pos hr]
        exact ih (B + 1) N M σ2 τ2 (by omega) (by omega) (by omega) (by omega) ((sc.trans u2).trans w3) (sm1.trans w4) (fun _ => ⟨σ1, sc.trans u2, u3, u4, r, σ2, w1, hr⟩)
      · rw [if_neg hr, if_neg hr]
        exact ⟨_, σ2, τ2, rfl, rfl, (sc.trans u2).trans w3, sm1.trans w4⟩
    by_cases he : B = B0
    · rw [if_pos (by rw [he])]
      exact eval
    · rw [if_neg (by rw [nI_eqN (by omega) (by omega)]; exact he)]
      obtain ⟨rh, h1, h2⟩ := has_ok cc hB1
      rw [h1, bd_some]
      by_cases hz : rh = 0
      · rw [if_pos hz]
        have hq := h2.mp hz
        obtain ⟨Bp, rfl⟩ : ∃ z, B = z + 1 := ⟨B - 1, by omega⟩
        obtain ⟨σw, s1, s2, s3, rw', σ', s4, s5⟩ := wit (by omega)
        rw [Nat.add_sub_cancel] at s2 s3
        have e1 := bsA_quiet (D := D) (k := k) hq
        have e2 := bsA_quiet (D := D) (k := k') hq
        obtain ⟨r, σ2, τ2, w1, w2, w3, w4⟩ := cross_all a b c hk hk' (B := Bp) (B' := Bp + 1) (by omega) s1 sm1 s2 s3 v3 e1 e2
        have hrr : r = rw' := by
          rw [w1] at s4
          exact (Prod.mk.inj (Option.some.inj s4)).1
        unfold fX6_nextCrossing_b74 fX6_nextCrossing_b97
        rw [if_pos rfl, w2, bd2_some, if_pos (by rw [hrr]; exact s5), i1]
        refine ih (Bp + 1 + 1) N M σc τ2 (by omega) (by omega) (by omega) (by omega) sc (sm1.trans w4) (fun _ => ⟨σw, s1, ?_, ?_, rw', σ', s4, s5⟩)
        · rw [Nat.add_sub_cancel, e1]; exact s2
        · rw [Nat.add_sub_cancel, e2]; exact s3
      · rw [if_neg hz]
        exact eval
theorem s_nextCrossing (x1 x2 x3 : Int32) : StS Rel (fun σ => fX6_nextCrossing σ x1 x2 x3) (fun τ => fX7_nextCrossing τ x1 x2 x3) := by
  intro σ τ bd h
  obtain ⟨D, nf, ft, lb, nm, mt, ns, a, b, c, d⟩ := id h
  show ∃ r σ' τ', fX6_nextCrossing σ x1 x2 x3 = some (r, σ') ∧ fX7_nextCrossing τ x1 x2 x3 = some (r, τ') ∧ Rel σ' τ' bd
  unfold fX6_nextCrossing fX7_nextCrossing
  rw [twoB b, figAt b, figAt b, bd_some, bd_some]
  have hn6 := b.1.2.2
  by_cases hx : ¬ (0 ≤ x1.toInt ∧ x1.toInt < nf)
  · rw [if_neg hx, if_neg hx, elim_none, if_neg (by decide)]
    exact ⟨_, σ, τ, rfl, rfl, h⟩
  have hx := Classical.not_not.mp hx
  rw [if_pos hx, if_pos hx, elim_some]
  by_cases hy : ¬ (0 ≤ x2.toInt ∧ x2.toInt < nf)
  · rw [if_neg hy, if_neg hy, elim_none, if_neg (by decide)]
    exact ⟨_, σ, τ, rfl, rfl, h⟩
  have hy := Classical.not_not.mp hy
  rw [if_pos hy, if_pos hy, elim_some, isB]
  by_cases h3 : fX7_isBeat x3 = 0
  · rw [if_pos h3, if_pos h3, if_neg (show ¬ (0 : Int32) ≤ -3 by decide)]
    refine ⟨-3, σ, τ, ?_, rfl, h⟩
    split <;> rfl
  rw [if_neg h3, if_neg h3]
  by_cases he : x1 = x2
  · rw [if_pos he, if_pos he, if_neg (by decide)]
    exact ⟨_, σ, τ, rfl, rfl, h⟩
  rw [if_neg he, if_neg he, if_pos (by decide)]
  obtain ⟨k, hk, rfl⟩ := toN hx.1 hx.2 (by omega)
  obtain ⟨k', hk', rfl⟩ := toN hy.1 hy.2 (by omega)
  obtain ⟨B, hB, rfl⟩ := beat_of h3
  rw [ixN (by omega), ixN (by omega)]
  obtain ⟨r, σ2, τ2, w1, w2, w3, w4⟩ := next_loop a b c hk hk' hB (100 - B) B FU FU σ τ (by omega) (by rw [FU_big]; omega) (by rw [FU_big]; omega) (Nat.le_refl _) (SameC.rfl' σ) (SameM.rfl' τ) (fun z => absurd z (by omega))
  exact ⟨r, σ2, τ2, w1, w2, h.same w3 w4⟩
