-- ===== the moves in the order in which they act =====
def seg (β : Nat → Nat) (n a m : Nat) : List Nat := (List.range' a m).flatMap (fun b => (List.range n).filter (fun j => β j == b))
theorem srt_seg (β : Nat → Nat) (n : Nat) : srt β n = seg β n 0 100 := by unfold srt seg; rw [show List.range 100 = List.range' 0 100 from List.range_eq_range']
theorem seg_app (β : Nat → Nat) (n a m k : Nat) : seg β n a (m + k) = seg β n a m ++ seg β n (a + m) k := by
  unfold seg
  rw [← List.flatMap_append, ← List.range'_append_1]
theorem srt_split (β : Nat → Nat) (n c : Nat) (hc : c < 100) : srt β n = seg β n 0 (c + 1) ++ seg β n (c + 1) (99 - c) := by
  rw [srt_seg, show 100 = (c + 1) + (99 - c) by omega, seg_app, Nat.zero_add]
theorem mem_seg {β : Nat → Nat} {n a m j : Nat} : j ∈ seg β n a m ↔ j < n ∧ a ≤ β j ∧ β j < a + m := by
  unfold seg
  simp only [List.mem_flatMap, List.mem_range'_1, List.mem_filter, List.mem_range, beq_iff_eq]
  constructor
  · rintro ⟨b, h1, h2, h3⟩
    subst h3
    exact ⟨h2, h1.1, h1.2⟩
  · rintro ⟨h1, h2, h3⟩
    exact ⟨β j, ⟨h2, h3⟩, h1, rfl⟩
theorem filt_succ {β β' : Nat → Nat} {n b : Nat} (h : ∀ j, j < n → β' j = β j) : (List.range (n + 1)).filter (fun j => β' j == b) = (List.range n).filter (fun j => β j == b) ++ (if β' n = b then [n] else []) := by
  rw [List.range_succ, List.filter_append]
  congr 1
  · apply List.filter_congr
    intro j hj
    rw [h j (List.mem_range.mp hj)]
  · by_cases e : β' n = b
    · simp [e]
    · simp [e]
theorem seg_out {β β' : Nat → Nat} {n a m : Nat} (h : ∀ j, j < n → β' j = β j) (hc : β' n < a ∨ a + m ≤ β' n) : seg β' (n + 1) a m = seg β n a m := by
  unfold seg
  rw [List.flatMap_def, List.flatMap_def]
  congr 1
  apply List.map_congr_left
  intro b hb
  have hb := List.mem_range'_1.mp hb
  rw [filt_succ h, if_neg (by omega), List.append_nil]
theorem seg_one (β : Nat → Nat) (n a : Nat) : seg β n a 1 = (List.range n).filter (fun j => β j == a) := by
  unfold seg; simp [List.range']
theorem seg_in {β β' : Nat → Nat} {n : Nat} (h : ∀ j, j < n → β' j = β j) : seg β' (n + 1) 0 (β' n + 1) = seg β n 0 (β' n + 1) ++ [n] := by
  rw [seg_app, seg_app β, Nat.zero_add, seg_one, seg_one, filt_succ h, if_pos rfl, seg_out h (Or.inr (by omega)), List.append_assoc]
theorem srt_ins {β β' : Nat → Nat} {n : Nat} (h : ∀ j, j < n → β' j = β j) (hc : β' n < 100) : srt β' (n + 1) = seg β n 0 (β' n + 1) ++ n :: seg β n (β' n + 1) (99 - β' n) := by
  rw [srt_split β' (n + 1) (β' n) hc, seg_in h, seg_out h (Or.inl (by omega)), List.append_assoc]
  rfl
theorem srt_len {β : Nat → Nat} : ∀ n, (∀ j, j < n → β j < 100) → (srt β n).length = n := by
  intro n
  induction n with
  | zero => intro _; rw [srt_0]; rfl
  | succ n ih =>
    intro h
    have h1 := ih (fun j hj => h j (by omega))
    rw [srt_split β n (β n) (h n (by omega))] at h1
    rw [srt_ins (β := β) (fun _ _ => rfl) (h n (by omega))]
    rw [List.length_append] at h1 ⊢
    rw [List.length_cons]
    omega
theorem srt_lt {β : Nat → Nat} {n j : Nat} (h : j ∈ srt β n) : j < n := by
  rw [srt_seg] at h
  exact (mem_seg.mp h).1
theorem filt_lt {m n : Nat} (h : m ≤ n) : (List.range n).filter (fun j => decide (j < m)) = List.range m := by
  induction n with
  | zero => rw [show m = 0 by omega]; rfl
  | succ n ih =>
    rw [List.range_succ, List.filter_append]
    by_cases e : m = n + 1
    · subst e
      rw [List.range_succ]
      congr 1
      · rw [List.filter_eq_self]
        intro j hj
        have := List.mem_range.mp hj
        simp; omega
      · simp
    · rw [ih (by omega)]
      have : ¬ n < m := by omega
      simp [this]
theorem srt_keep (β : Nat → Nat) {m n : Nat} (h : m ≤ n) : (srt β n).filter (fun j => decide (j < m)) = srt β m := by
  unfold srt
  rw [List.filter_flatMap]
  rw [List.flatMap_def, List.flatMap_def]
  congr 1
  apply List.map_congr_left
  intro b _
  rw [List.filter_filter]
  have : (fun a => decide (a < m) && (β a == b)) = (fun a => (β a == b) && decide (a < m)) := by funext a; rw [Bool.and_comm]
  rw [this, ← List.filter_filter, filt_lt h]
theorem srt_congr {β β' : Nat → Nat} {n : Nat} (h : ∀ j, j < n → β' j = β j) : srt β' n = srt β n := by
  unfold srt
  rw [List.flatMap_def, List.flatMap_def]
  congr 1
  apply List.map_congr_left
  intro b _
  apply List.filter_congr
  intro j hj
  rw [h j (List.mem_range.mp hj)]
-- ===== Script.newMove =====
/-- the row of moves while a place is made: the cells below p, those above shifted by one -/
def InsI (σ0 σ : St) (T : List Nat) (p : Nat) : Prop := σ.1 = σ0.1 ∧ σ.2.1 = σ0.2.1 ∧ (∀ t, t ≠ 3 → σ.2.2 t = σ0.2.2 t) ∧ (∀ i, i < p → σ.2.2 3 i = T[i]?) ∧ (∀ i, p < i → i < 60 → σ.2.2 3 i = T[i - 1]?)
theorem ins_loop {σ0 : St} {bd t1 nm c : Nat} {T A B : List Nat} (hT : T = A ++ B) (hl : T.length = nm) (hnm : nm < 60) (hc1 : c < 100) (hn : σ0.1 2 1 = nI nm) (hA : ∀ t, t ∈ A → ∃ b, b ≤ c ∧ σ0.1 t 1 = nI b) (hB : ∀ t, t ∈ B → ∃ b, c < b ∧ b < 100 ∧ σ0.1 t 1 = nI b) : ∀ (q p n : Nat) (σ : St), p = A.length + q → p ≤ nm → q < n → InsI σ0 σ T p → ∃ σ', fX4_newMove_L33 bd n σ (nI c) t1 (nI p) = some (some t1, σ') ∧ σ'.1 = (wI σ0 2 1 (nI (nm + 1))).1 ∧ σ'.2.1 = σ0.2.1 ∧ (∀ t, t ≠ 3 → σ'.2.2 t = σ0.2.2 t) ∧ ∀ i, i < 60 → σ'.2.2 3 i = (A ++ t1 :: B)[i]? := by
  intro q
  induction q with
  | zero =>
    intro p n σ hp hpn hq hI
    obtain ⟨n, rfl⟩ : ∃ z, n = z + 1 := ⟨n - 1, by omega⟩
    obtain ⟨i1, i2, i3, i4, i5⟩ := hI
    have fin : ∃ σ', fX4_newMove_b76 bd σ t1 (nI p) = some (some t1, σ') ∧ σ'.1 = (wI σ0 2 1 (nI (nm + 1))).1 ∧ σ'.2.1 = σ0.2.1 ∧ (∀ t, t ≠ 3 → σ'.2.2 t = σ0.2.2 t) ∧ ∀ i, i < 60 → σ'.2.2 3 i = (A ++ t1 :: B)[i]? := by
      unfold fX4_newMove_b76 fX4_newMove_b85 fX4_newMove_b95
      rw [grdN (by omega) (by decide), ixN (by omega)]
      refine ⟨_, rfl, ?_, ?_, ?_, ?_⟩
      · rw [rR1, i1, hn, nI_1]
        unfold wI; rw [rR1, i1]
      · show σ.2.1 = _; exact i2
      · intro t ht
        rw [rI3]
        funext j
        rw [rR, if_neg (fun e => ht e.1), i3 t ht]
      · intro i hi
        rw [rI3, rR]
        have hpA : p = A.length := by omega
        by_cases e : i = p
        · rw [if_pos ⟨rfl, e⟩, e, hpA]
          simp
        · rw [if_neg (fun z => e z.2)]
          by_cases e2 : i < p
          · rw [i4 i e2, hT, List.getElem?_append_left (by omega), List.getElem?_append_left (by omega)]
          · rw [i5 i (by omega) hi, hT, List.getElem?_append_right (by omega), List.getElem?_append_right (by omega)]
            rw [show i - A.length = (i - 1 - A.length) + 1 by omega, List.getElem?_cons_succ]
    rw [fX4_newMove_L33_s]
    by_cases h0 : p = 0
    · rw [h0, nI_0, if_pos (Int32.le_refl _)]
      rw [h0, nI_0] at fin
      exact fin
    · have h1 : ¬ nI p ≤ 0 := nI_nle (by omega) (by omega)
      have e1 : nI p - 1 = nI (p - 1) := by
        have := nI_pred (p - 1)
        rw [show p - 1 + 1 = p by omega] at this
        exact this
      rw [if_neg h1, e1, grdN (by omega) (by decide), app1_e, ixN (by omega), i4 (p - 1) (by omega)]
      obtain ⟨t, ht⟩ : ∃ t, T[p - 1]? = some t := ⟨T[p - 1]'(by omega), by simp⟩
      have hmem : t ∈ A := by
        rw [hT, List.getElem?_append_left (by omega)] at ht
        exact List.mem_of_getElem? ht
      obtain ⟨b, hb, hb2⟩ := hA t hmem
      rw [ht]
      have : fX4_isAfter σ (some t) (nI c) = 0 := by
        unfold fX4_isAfter
        rw [elim_some, i1, hb2, if_pos (by rw [nI_leI (by omega) (by omega)]; exact hb)]
      rw [if_pos this]
      exact fin
  | succ q ih =>
    intro p n σ hp hpn hq hI
    obtain ⟨n, rfl⟩ : ∃ z, n = z + 1 := ⟨n - 1, by omega⟩
    obtain ⟨i1, i2, i3, i4, i5⟩ := hI
    rw [fX4_newMove_L33_s]
    have h1 : ¬ nI p ≤ 0 := nI_nle (by omega) (by omega)
    have e1 : nI p - 1 = nI (p - 1) := by
      have := nI_pred (p - 1)
      rw [show p - 1 + 1 = p by omega] at this
      exact this
    have e2 : nI p + (-1 : Int32) = nI (p - 1) := by
      have := pk_m1 (p - 1)
      rw [show p - 1 + 1 = p by omega] at this
      exact this
    rw [if_neg h1, e1, grdN (by omega) (by decide), app1_e, ixN (by omega), i4 (p - 1) (by omega)]
    obtain ⟨t, ht⟩ : ∃ t, T[p - 1]? = some t := ⟨T[p - 1]'(by omega), by simp⟩
    have hmem : t ∈ B := by
      rw [hT, List.getElem?_append_right (by omega)] at ht
      exact List.mem_of_getElem? ht
    obtain ⟨b, hb, hb1, hb2⟩ := hB t hmem
    rw [ht]
    have : ¬ fX4_isAfter σ (some t) (nI c) = 0 := by
      unfold fX4_isAfter
      rw [elim_some, i1, hb2, if_neg (by rw [nI_leI (by omega) (by omega)]; omega)]
      decide
    rw [if_neg this, grdN (by omega) (by decide), app1_e, grdN (by omega) (by decide), ixN (by omega)]
    unfold fX4_newMove_b70
    rw [e2]
    refine ih (p - 1) n _ (by omega) (by omega) (by omega) ⟨by rw [rR1]; exact i1, by rw [rR2]; exact i2, fun z hz => ?_, fun i hi => ?_, fun i hi h60 => ?_⟩
    · funext j
      rw [rR, if_neg (fun e => hz e.1), i3 z hz]
    · rw [rR, if_neg (by omega), i4 i (by omega)]
    · rw [rR]
      by_cases e : i = p
      · rw [if_pos ⟨rfl, e⟩, e, ht]
      · rw [if_neg (fun z => e z.2), i5 i (by omega) h60]
-- ===== addTurn, addShift =====
theorem Mv.beat {σ τ : St} {t j nf : Nat} {lb : Nat → Nat} (h : Mv σ τ t j nf lb) : ∃ b, b < 100 ∧ τ.1 8 j = nI b ∧ bt τ j = b ∧ σ.1 t 1 = nI b := by
  obtain ⟨⟨-, h1, -, -⟩, ⟨b, hb, e⟩, -⟩ := h
  exact ⟨b, hb, e, by show ix (τ.1 8 j) = b; rw [e, ixN (by omega)], by rw [h1, e]⟩
/-- what addTurn and addShift do with the Move that Script.newMove has made -/
def Fill (K : Nat → St → Option (Int32 × St)) (u : Nat) (l a1 a2 a3 : Int32) (lf : Nat) : Prop := ∀ σ : St, ∃ σ', K u σ = some (σ.1 u 0, σ') ∧ (∀ t, t ≠ u → σ'.1 t = σ.1 t) ∧ σ'.2.1 = σ.2.1 ∧ σ'.2.2 = σ.2.2 ∧ (∀ j, j < 4 → σ'.1 u j = σ.1 u j) ∧ ((l = -1 ∧ (σ'.1 u 5 = a1 ∧ σ'.1 u 6 = a2 ∧ σ'.1 u 7 = a3) ∧ Bnd a1 (-50) 50 ∧ Bnd a2 (-50) 50 ∧ Bnd a3 (-100) 100) ∨ ∃ q, q < lf ∧ l = nI q ∧ σ'.1 u 4 = a1 ∧ Bnd a1 (-7) 7)
theorem move_step {σ τ : St} {bd D nf : Nat} {ft lb : Nat → Nat} {nm : Nat} {mt : Nat → Nat} {ns c f : Nat} {l a1 a2 a3 : Int32} (K : Nat → St → Option (Int32 × St)) (a : RD σ τ D) (b : RF σ τ nf ft lb bd) (cc : RM σ τ nm mt nf ft lb bd) (d : RS σ τ ns) (hc : c < 100) (hf : f < nf) (hK : Fill K bd l a1 a2 a3 (lb f)) :
    ∃ r σ' τ', bd2 (fX4_newMove bd σ (nI c) (nI f) l) (fun r s => Option.elim r (some ((-4 : Int32), s)) (fun u => K u s)) = some (r, σ') ∧ fX7_addMove τ (nI c) (nI f) l a1 a2 a3 = some (r, τ') ∧ Rel σ' τ' (bd + 28) := by
  have hbd := b.2.2.2.2.2
  obtain ⟨⟨m1, m2, m3⟩, m4, m5, m6, m7⟩ := id cc
  unfold fX4_newMove fX7_addMove
  rw [m1, m2]
  by_cases q1 : nm = 60
  · rw [q1, if_neg (by decide), if_pos (by decide)]
    exact ⟨_, σ, τ, rfl, rfl, D, nf, ft, lb, nm, mt, ns, a, b.mono (by omega), cc.mono (by omega), d⟩
  have q2 : nI nm < 60 := by rw [show (60 : Int32) = nI 60 from rfl, nI_ltI (by omega) (by decide)]; omega
  have q3 : ¬ nI nm = 60 := by rw [show (60 : Int32) = nI 60 from rfl, nI_eq (by omega) (by decide)]; omega
  rw [if_pos q2, if_neg q3, grdN (by omega) (by decide), ixN (by omega)]
  generalize hσp : wrow σ bd (mvR (nI nm) (nI c) (nI f) l) = σp
  have p1 : ∀ t, t < bd → σp.1 t = σ.1 t := fun t ht => by rw [← hσp, rW, if_neg (by omega)]
  have p2 : σp.2.2 = σ.2.2 := by rw [← hσp]; rfl
  have p3 : σp.1 bd 0 = nI nm ∧ σp.1 bd 1 = nI c ∧ σp.1 bd 2 = nI f ∧ σp.1 bd 3 = l := by
    rw [← hσp, rW, if_pos rfl]
    exact ⟨rfl, rfl, rfl, rfl⟩
  have ap : RD σp τ D := a.congr (by rw [p1 0 (by omega)]) rfl
  have bp : RF σp τ nf ft lb bd := b.congr (by rw [p1 0 (by omega)]) (by rw [p2]) (fun k i hk hi => p1 _ (by have := (b.2.2.2.1 k hk).2; omega)) rfl (fun _ _ _ => rfl)
  have cp : RM σp τ nm mt nf ft lb bd := cc.congr (by rw [p1 2 (by omega)]) (by rw [p2]) (fun j hj => p1 _ (m6 j hj).2) rfl (fun _ _ _ => rfl) (fun _ _ => Nat.le_refl _)
  have dp : RS σp τ ns := d.congr (by rw [p1 4 (by omega)]) (p1 5 (by omega)) (p1 6 (by omega)) rfl rfl
  -- the reference's side
  unfold fX7_addMove_b22 fX7_addMove_b32 fX7_addMove_b42 fX7_addMove_b53 fX7_addMove_b64 fX7_addMove_b75 fX7_addMove_b85
  simp only [rI, m2, ixN (show nm < 2 ^ 31 by omega), show ¬ ((0 : Nat) = 8) by decide, show ¬ ((0 : Nat) = 9) by decide, show ¬ ((0 : Nat) = 10) by decide, show ¬ ((0 : Nat) = 11) by decide, show ¬ ((0 : Nat) = 12) by decide, show ¬ ((0 : Nat) = 13) by decide, false_and, if_false, grdN (show nm < 60 by omega) (show 60 ≤ 2000 by decide), and_self, if_true, nI_1, nI_pred]
  generalize hτ : wI (wI (wI (wI (wI (wI (wI τ 8 nm (nI c)) 9 nm (nI f)) 10 nm l) 11 nm a1) 12 nm a2) 13 nm a3) 0 9 (nI (nm + 1)) = τ'
  have t0 : ∀ j, τ'.1 0 j = if j = 9 then nI (nm + 1) else τ.1 0 j := fun j => by
    rw [← hτ, rI]
    simp only [true_and, rI, show ¬ ((0 : Nat) = 8) by decide, show ¬ ((0 : Nat) = 9) by decide, show ¬ ((0 : Nat) = 10) by decide, show ¬ ((0 : Nat) = 11) by decide, show ¬ ((0 : Nat) = 12) by decide, show ¬ ((0 : Nat) = 13) by decide, false_and, if_false]
  have t1 : ∀ t j, t ≠ 0 → (t < 8 ∨ 13 < t ∨ j ≠ nm) → τ'.1 t j = τ.1 t j := fun t j h0 ht => by
    rw [← hτ]
    simp only [rI]
    rw [if_neg (by omega), if_neg (by omega), if_neg (by omega), if_neg (by omega), if_neg (by omega), if_neg (by omega), if_neg (by omega)]
  have t2 : τ'.1 8 nm = nI c ∧ τ'.1 9 nm = nI f ∧ τ'.1 10 nm = l ∧ τ'.1 11 nm = a1 ∧ τ'.1 12 nm = a2 ∧ τ'.1 13 nm = a3 := by
    rw [← hτ]
    simp [rI]
  -- the order
  have hbt : ∀ j, j < nm → bt τ' j = bt τ j := fun j hj => by show ix (τ'.1 8 j) = _; rw [t1 8 j (by decide) (by omega)]
  have hbn : bt τ' nm = c := by show ix (τ'.1 8 nm) = c; rw [t2.1, ixN (by omega)]
  have hb100 : ∀ j, j < nm → bt τ j < 100 := fun j hj => by
    obtain ⟨b, hb, -, e, -⟩ := (m5 j hj).beat
    rw [e]; exact hb
  have hS := srt_split (bt τ) nm c hc
  have hS' : srt (bt τ') (nm + 1) = seg (bt τ) nm 0 (c + 1) ++ nm :: seg (bt τ) nm (c + 1) (99 - c) := by
    have := srt_ins (β := bt τ) (β' := bt τ') (n := nm) hbt (by rw [hbn]; exact hc)
    rw [hbn] at this
    exact this
  have hlen : ((srt (bt τ) nm).map mt).length = nm := by rw [List.length_map, srt_len nm hb100]
  have key := ins_loop (σ0 := σp) (bd := bd) (t1 := bd) (nm := nm) (c := c) (T := (srt (bt τ) nm).map mt) (A := (seg (bt τ) nm 0 (c + 1)).map mt) (B := (seg (bt τ) nm (c + 1) (99 - c)).map mt) (by rw [hS, List.map_append]) hlen (by omega) hc (by rw [p1 2 (by omega)]; exact m1) (fun t ht => by
      obtain ⟨j, hj, rfl⟩ := List.mem_map.mp ht
      have hj := mem_seg.mp hj
      obtain ⟨b, hb, -, e, e2⟩ := (cp.2.2.1 j hj.1).beat
      exact ⟨b, by omega, e2⟩) (fun t ht => by
      obtain ⟨j, hj, rfl⟩ := List.mem_map.mp ht
      have hj := mem_seg.mp hj
      obtain ⟨b, hb, -, e, e2⟩ := (cp.2.2.1 j hj.1).beat
      exact ⟨b, by omega, hb, e2⟩) (nm - ((seg (bt τ) nm 0 (c + 1)).map mt).length) nm FU σp (by
      have : ((seg (bt τ) nm 0 (c + 1)).map mt).length ≤ nm := by
        have h9 := hlen
        rw [hS, List.map_append, List.length_append] at h9
        omega
      omega) (Nat.le_refl _) (by rw [FU_big]; omega) ⟨rfl, rfl, fun _ _ => rfl, fun i hi => by rw [p2]; exact m4 i (by omega), fun i hi h60 => by
        rw [p2, m4 i h60, List.getElem?_eq_none (by rw [hlen]; omega), List.getElem?_eq_none (by rw [hlen]; omega)]⟩
  obtain ⟨σ9, k1, k2, k3, k4, k5⟩ := key
  obtain ⟨σ', f1, f2, f3, f4, f5, f6⟩ := hK σ9
  have s9 : ∀ t, t ≠ 2 → σ9.1 t = σp.1 t := fun t ht => by rw [k2]; exact rIr _ _ _ _ _ ht
  have s0 : ∀ t, t ≠ 2 → t ≠ bd → σ'.1 t = σp.1 t := fun t ht hb => (f2 t hb).trans (s9 t ht)
  have s2 : σ'.1 2 1 = nI (nm + 1) := by rw [f2 2 (by omega), k2, rI]; simp
  have sb : ∀ j, j < 4 → σ'.1 bd j = σp.1 bd j := fun j hj => by rw [f5 j hj, s9 bd (by omega)]
  have hmt : ∀ L : List Nat, (∀ j, j ∈ L → j < nm) → L.map mt = L.map (fun j => if j = nm then bd else mt j) := fun L hL => by
    apply List.map_congr_left
    intro j hj
    rw [if_neg (by have := hL j hj; omega)]
  refine ⟨nI nm, σ', τ', ?_, rfl, D, nf, ft, lb, nm + 1, (fun j => if j = nm then bd else mt j), ns, ?_, ?_, ?_, ?_⟩
  · unfold fX4_newMove_b25
    rw [p1 2 (by omega), m1, k1, bd2_some, elim_some, f1, s9 bd (by omega), p3.1]
  · exact ap.congr (by rw [s0 0 (by decide) (by omega)]) (by rw [t0]; simp)
  · refine (bp.congr (by rw [s0 0 (by decide) (by omega)]) (by rw [f4]; exact k4 1 (by decide)) (fun k i hk hi => s0 _ (by have := (b.2.2.2.1 k hk).1; omega) (by have := (b.2.2.2.1 k hk).2; omega)) (by rw [t0]; simp) (fun q g1 g2 => by funext j; exact t1 q j (by omega) (by omega))).mono (by omega)
  · refine ⟨⟨s2, by rw [t0]; simp, by omega⟩, fun i hi => ?_, fun j hj => ?_, fun j hj => ?_, fun j k hj hk => ?_⟩
    · rw [f4, k5 i hi, hS', List.map_append, List.map_cons, if_pos rfl, hmt _ (fun j hj => (mem_seg.mp hj).1), hmt _ (fun j hj => (mem_seg.mp hj).1)]
    · dsimp only
      by_cases e : j = nm
      · subst e
        rw [if_pos rfl]
        obtain ⟨v1, v2, v3, v4, v5, v6⟩ := t2
        unfold Mv
        rw [sb 0 (by decide), sb 1 (by decide), sb 2 (by decide), sb 3 (by decide), v1, v2, v3, v4, v5, v6]
        exact ⟨p3, ⟨c, hc, rfl⟩, f, hf, rfl, f6⟩
      · rw [if_neg e]
        exact (cp.2.2.1 j (by omega)).congr (s0 _ (by have := m6 j (by omega); omega) (by have := m6 j (by omega); omega)) (fun q g1 g2 => t1 q j (by omega) (by omega)) (Nat.le_refl _) (fun _ _ => Nat.le_refl _)
    · dsimp only
      by_cases e : j = nm
      · rw [if_pos e]; omega
      · rw [if_neg e]
        have := m6 j (by omega)
        omega
    · dsimp only
      by_cases e : j = nm
      · rw [if_pos e]
        have := (b.2.2.2.1 k hk).2
        omega
      · rw [if_neg e]; exact m7 j k (by omega) hk
  · exact dp.congr (by rw [s0 4 (by decide) (by omega)]) (s0 5 (by decide) (by omega)) (s0 6 (by decide) (by omega)) (by rw [t0]; simp) (by funext j; exact t1 21 j (by decide) (by omega))
theorem bd2_id {α γ : Type} (o : Option (α × γ)) : bd2 o (fun r s => some (r, s)) = o := by
  cases o with
  | none => rfl
  | some p => rfl
theorem beat_of {x : Int32} (h : ¬ fX7_isBeat x = 0) : ∃ c, c < 100 ∧ x = nI c := by
  rw [isBeat_0] at h
  have h := Classical.not_not.mp h
  exact toN h.1 (by omega) (by decide)
theorem s_addTurn (x1 x2 x3 x4 : Int32) : StA Rel (fun b σ => fX6_addTurn b σ x1 x2 x3 x4) (fun τ => fX7_addTurn τ x1 x2 x3 x4) := by
  intro σ τ bd h
  show ∃ r σ' τ', fX6_addTurn bd σ x1 x2 x3 x4 = some (r, σ') ∧ fX7_addTurn τ x1 x2 x3 x4 = some (r, τ') ∧ Rel σ' τ' (bd + 28)
  obtain ⟨D, nf, ft, lb, nm, mt, ns, a, b, c, d⟩ := id h
  have n6 := b.1.2.2
  have hbd := b.2.2.2.2.2
  have h28 : Rel σ τ (bd + 28) := h.mono (by omega)
  unfold fX6_addTurn fX7_addTurn
  rw [figAt b, noFig b, bd_some]
  by_cases hx : 0 ≤ x2.toInt ∧ x2.toInt < nf
  · rw [if_pos hx, if_pos hx, if_pos rfl, elim_some]
    obtain ⟨k, hk, rfl⟩ := toN hx.1 hx.2 (by omega)
    rw [ixN (by omega), noLimb_eq b hk, bd_some]
    by_cases q2 : 0 ≤ x3.toInt ∧ x3.toInt < lb k
    · rw [if_neg (fun z => ((hasLimb_0 b hk x3).mp z) q2), if_pos q2, if_pos rfl, isB, inR]
      by_cases q3 : fX7_isBeat x1 = 0
      · rw [if_pos q3, if_pos q3]; exact ⟨_, σ, τ, rfl, rfl, h28⟩
      rw [if_neg q3, if_neg q3]
      by_cases q4 : fX7_in x4 (-7) 7 = 0
      · rw [if_pos q4, if_pos q4]; exact ⟨_, σ, τ, rfl, rfl, h28⟩
      rw [if_neg q4, if_neg q4]
      by_cases q5 : x4 = 0
      · rw [if_pos q5, if_pos q5]; exact ⟨_, σ, τ, rfl, rfl, h28⟩
      rw [if_neg q5, if_neg q5]
      rw [bd2_id]
      obtain ⟨be, hbe, rfl⟩ := beat_of q3
      have g8 := (b.2.2.1 k hk).2.2.1
      obtain ⟨lm, hlm, rfl⟩ := toN q2.1 q2.2 (by omega)
      refine move_step (fun u s => fX6_addTurn_b80 bd (wI s u 4 x4) u) a b c d hbe hk (fun s => ⟨wI s bd 4 x4, ?_, fun t ht => rIr _ _ _ _ _ ht, rfl, rfl, fun j hj => ?_, Or.inr ⟨lm, hlm, rfl, ?_, bnd_of q4⟩⟩)
      · show some ((wI s bd 4 x4).1 bd 0, wI s bd 4 x4) = _
        rw [rI, if_neg (by omega)]
      · rw [rI, if_neg (by omega)]
      · rw [rI, if_pos ⟨rfl, rfl⟩]
    · rw [if_pos ((hasLimb_0 b hk x3).mpr q2), if_neg q2, if_neg (by decide)]
      exact ⟨_, σ, τ, rfl, rfl, h28⟩
  · rw [if_neg hx, if_neg hx, elim_none, if_neg (show ¬ (1 : Int32) = 0 by decide)]
    exact ⟨_, σ, τ, rfl, rfl, h28⟩
theorem s_addShift (x1 x2 x3 x4 x5 : Int32) : StA Rel (fun b σ => fX6_addShift b σ x1 x2 x3 x4 x5) (fun τ => fX7_addShift τ x1 x2 x3 x4 x5) := by
  intro σ τ bd h
  show ∃ r σ' τ', fX6_addShift bd σ x1 x2 x3 x4 x5 = some (r, σ') ∧ fX7_addShift τ x1 x2 x3 x4 x5 = some (r, τ') ∧ Rel σ' τ' (bd + 28)
  obtain ⟨D, nf, ft, lb, nm, mt, ns, a, b, c, d⟩ := id h
  have n6 := b.1.2.2
  have hbd := b.2.2.2.2.2
  have h28 : Rel σ τ (bd + 28) := h.mono (by omega)
  unfold fX6_addShift fX7_addShift
  rw [figAt b, noFig b, bd_some]
  by_cases hx : 0 ≤ x2.toInt ∧ x2.toInt < nf
  · rw [if_pos hx, if_pos hx, if_pos rfl, elim_some]
    obtain ⟨k, hk, rfl⟩ := toN hx.1 hx.2 (by omega)
    rw [isB]
    simp only [inR]
    by_cases q3 : fX7_isBeat x1 = 0
    · rw [if_pos q3, if_pos q3]; exact ⟨_, σ, τ, rfl, rfl, h28⟩
    rw [if_neg q3, if_neg q3]
    by_cases q4 : fX7_in x3 (-50) 50 = 0
    · rw [if_pos q4, if_pos q4]; exact ⟨_, σ, τ, rfl, rfl, h28⟩
    rw [if_neg q4, if_neg q4]
    by_cases q5 : fX7_in x4 (-50) 50 = 0
    · rw [if_pos q5, if_pos q5]; exact ⟨_, σ, τ, rfl, rfl, h28⟩
    rw [if_neg q5, if_neg q5]
    by_cases q6 : fX7_in x5 (-100) 100 = 0
    · rw [if_pos q6, if_pos q6]; exact ⟨_, σ, τ, rfl, rfl, h28⟩
    rw [if_neg q6, if_neg q6]
    rw [bd2_id]
    obtain ⟨be, hbe, rfl⟩ := beat_of q3
    refine move_step (fun u s => fX6_addShift_b81 bd (wI s u 5 x3) x4 x5 u) a b c d hbe hk (fun s => ⟨wI (wI (wI s bd 5 x3) bd 6 x4) bd 7 x5, ?_, fun t ht => ?_, rfl, rfl, fun j hj => ?_, Or.inl ⟨rfl, ⟨?_, ?_, ?_⟩, bnd_of q4, bnd_of q5, bnd_of q6⟩⟩)
    · show some ((wI (wI (wI s bd 5 x3) bd 6 x4) bd 7 x5).1 bd 0, wI (wI (wI s bd 5 x3) bd 6 x4) bd 7 x5) = _
      rw [rI, if_neg (by omega), rI, if_neg (by omega), rI, if_neg (by omega)]
    · rw [rIr _ _ _ _ _ ht, rIr _ _ _ _ _ ht, rIr _ _ _ _ _ ht]
    · rw [rI, if_neg (by omega), rI, if_neg (by omega), rI, if_neg (by omega)]
    · simp [rI]
    · simp [rI]
    · simp [rI]
  · rw [if_neg hx, if_neg hx, elim_none, if_neg (show ¬ (1 : Int32) = 0 by decide)]
    exact ⟨_, σ, τ, rfl, rfl, h28⟩
-- ===== removeMoves =====
/-- the row of moves while Script.keepFirst goes over it: i seen, those with numbers below m kept at the front -/
def KeepI (σ0 σ : St) (S : List Nat) (mt : Nat → Nat) (m i : Nat) : Prop := σ.1 = σ0.1 ∧ σ.2.1 = σ0.2.1 ∧ (∀ t, t ≠ 3 → σ.2.2 t = σ0.2.2 t) ∧ (∀ j, j < 60 → σ.2.2 3 j = if j < i then (((S.take i).filter (fun z => decide (z < m))).map mt)[j]? else (S.map mt)[j]?)
theorem keep_loop {σ0 : St} {nm m : Nat} {S : List Nat} {mt : Nat → Nat} (hl : S.length = nm) (hnm : nm ≤ 60) (hm : m ≤ 60) (hn : σ0.1 2 1 = nI nm) (hS : ∀ z, z ∈ S → z < 60 ∧ σ0.1 (mt z) 0 = nI z) : ∀ (q i n : Nat) (σ : St), i + q = nm → q < n → KeepI σ0 σ S mt m i → ∃ σ', fX4_keepFirst_L4 n σ (nI m) (nI ((S.take i).filter (fun z => decide (z < m))).length) (nI i) = some σ' ∧ σ'.1 = (wI σ0 2 1 (nI (S.filter (fun z => decide (z < m))).length)).1 ∧ σ'.2.1 = σ0.2.1 ∧ (∀ t, t ≠ 3 → σ'.2.2 t = σ0.2.2 t) ∧ ∀ j, j < 60 → σ'.2.2 3 j = ((S.filter (fun z => decide (z < m))).map mt)[j]? := by
  intro q
  induction q with
  | zero =>
    intro i n σ hi hq hI
    obtain ⟨n, rfl⟩ : ∃ z, n = z + 1 := ⟨n - 1, by omega⟩
    obtain ⟨i1, i2, i3, i4⟩ := hI
    have ei : i = nm := by omega
    rw [fX4_keepFirst_L4_s, i1, hn, ei, if_pos (Int32.le_refl _)]
    rw [ei] at i4
    rw [List.take_of_length_le (by omega)] at i4 ⊢
    refine ⟨_, rfl, ?_, i2, i3, fun j hj => ?_⟩
    · unfold wI; rw [i1]
    · rw [rI3, i4 j hj]
      by_cases e : j < nm
      · rw [if_pos e]
      · rw [if_neg e, List.getElem?_eq_none (by rw [List.length_map]; omega), List.getElem?_eq_none]
        rw [List.length_map]
        have := List.length_filter_le (fun z => decide (z < m)) S
        omega
  | succ q ih =>
    intro i n σ hi hq hI
    obtain ⟨n, rfl⟩ : ∃ z, n = z + 1 := ⟨n - 1, by omega⟩
    obtain ⟨i1, i2, i3, i4⟩ := hI
    have hlt : ¬ nI nm ≤ nI i := by rw [nI_leI (by omega) (by omega)]; omega
    have hle : ((S.take i).filter (fun z => decide (z < m))).length ≤ i := by
      have h1 := List.length_filter_le (fun z => decide (z < m)) (S.take i)
      rw [List.length_take] at h1
      omega
    rw [fX4_keepFirst_L4_s, i1, hn, if_neg hlt, grdN (by omega) (by decide), app1_e, grdN (by omega) (by decide), ixN (by omega), i4 i (by omega), if_neg (Nat.lt_irrefl i)]
    obtain ⟨z, hz⟩ : ∃ z, S[i]? = some z := ⟨S[i]'(by omega), by simp⟩
    rw [List.getElem?_map, hz]
    have hzm := hS z (List.mem_of_getElem? hz)
    have htake : S.take (i + 1) = S.take i ++ [z] := by rw [List.take_add_one, hz]; rfl
    show ∃ σ', fX4_keepFirst_b27 (fX4_keepFirst_L4 n) (wR σ 3 i none) (nI m) _ (nI i) (some (mt z)) = some σ' ∧ _
    unfold fX4_keepFirst_b27
    rw [elim_some, rR1, i1, hzm.2]
    by_cases hk : m ≤ z
    · rw [if_pos (by rw [nI_leI (by omega) (by omega)]; exact hk)]
      unfold fX4_keepFirst_b52
      rw [nI_1]
      have e1 : (S.take (i + 1)).filter (fun z => decide (z < m)) = (S.take i).filter (fun z => decide (z < m)) := by
        rw [htake, List.filter_append]
        simp [show ¬ z < m by omega]
      rw [← e1]
      refine ih (i + 1) n _ (by omega) (by omega) ⟨by rw [rR1]; exact i1, by rw [rR2]; exact i2, fun t ht => by funext j; rw [rR, if_neg (fun e => ht e.1), i3 t ht], fun j hj => ?_⟩
      rw [rR, e1]
      by_cases ej : j = i
      · rw [if_pos ⟨rfl, ej⟩, if_pos (by omega), List.getElem?_eq_none (by rw [List.length_map]; omega)]
      · rw [if_neg (fun e => ej e.2), i4 j hj]
        by_cases e2 : j < i
        · rw [if_pos e2, if_pos (by omega)]
        · rw [if_neg e2, if_neg (by omega)]
    · rw [if_neg (by rw [nI_leI (by omega) (by omega)]; exact hk), grdN (by omega) (by decide), ixN (by omega)]
      unfold fX4_keepFirst_b49 fX4_keepFirst_b52
      rw [nI_1, nI_1]
      have e1 : (S.take (i + 1)).filter (fun z => decide (z < m)) = (S.take i).filter (fun z => decide (z < m)) ++ [z] := by
        rw [htake, List.filter_append]
        simp [show z < m by omega]
      have e2 : ((S.take (i + 1)).filter (fun z => decide (z < m))).length = ((S.take i).filter (fun z => decide (z < m))).length + 1 := by rw [e1]; simp
      rw [← e2]
      refine ih (i + 1) n _ (by omega) (by omega) ⟨by rw [rR1, rR1]; exact i1, by rw [rR2, rR2]; exact i2, fun t ht => by funext j; rw [rR, if_neg (fun e => ht e.1), rR, if_neg (fun e => ht e.1), i3 t ht], fun j hj => ?_⟩
      rw [rR, rR, e1, List.map_append]
      by_cases ej : j = ((S.take i).filter (fun z => decide (z < m))).length
      · rw [if_pos ⟨rfl, ej⟩, if_pos (by omega), ej, List.getElem?_append_right (by rw [List.length_map]; exact Nat.le_refl _)]
        simp
      · rw [if_neg (fun e => ej e.2)]
        by_cases e3 : j = i
        · rw [if_pos ⟨rfl, e3⟩, if_pos (by omega), List.getElem?_eq_none]
          rw [List.length_append, List.length_map]
          simp only [List.map_cons, List.map_nil, List.length_cons, List.length_nil]
          omega
        · rw [if_neg (fun e => e3 e.2), i4 j hj]
          by_cases e4 : j < i
          · rw [if_pos e4, if_pos (by omega)]
            by_cases e5 : j < ((S.take i).filter (fun z => decide (z < m))).length
            · rw [List.getElem?_append_left (by rw [List.length_map]; exact e5)]
            · rw [List.getElem?_eq_none (by rw [List.length_map]; omega), List.getElem?_eq_none]
              rw [List.length_append, List.length_map]
              simp only [List.map_cons, List.map_nil, List.length_cons, List.length_nil]
              omega
          · rw [if_neg e4, if_neg (by omega)]
theorem s_removeMoves (x1 : Int32) : StS Rel (fun σ => fX6_removeMoves σ x1) (fun τ => fX7_removeMoves τ x1) := by
  intro σ τ bd h
  show ∃ r σ' τ', fX6_removeMoves σ x1 = some (r, σ') ∧ fX7_removeMoves τ x1 = some (r, τ') ∧ Rel σ' τ' bd
  obtain ⟨D, nf, ft, lb, nm, mt, ns, a, b, c, d⟩ := id h
  obtain ⟨⟨m1, m2, m3⟩, m4, m5, m6, m7⟩ := id c
  have hbd := b.2.2.2.2.2
  unfold fX6_removeMoves fX7_removeMoves
  rw [inR, m1, m2]
  by_cases q1 : fX7_in x1 0 (nI nm) = 0
  · rw [if_pos q1, if_pos q1]; exact ⟨_, σ, τ, rfl, rfl, h⟩
  rw [if_neg q1, if_neg q1]
  have p1 := bnd_of q1
  rw [nI_toInt (by omega)] at p1
  have p1 : (0 : Int) ≤ x1.toInt ∧ x1.toInt ≤ nm := p1
  obtain ⟨k, hk, rfl⟩ := toN (x := x1) (n := nm + 1) p1.1 (by omega) (by omega)
  rw [pk_sub (by omega)]
  have hb100 : ∀ j, j < nm → bt τ j < 100 := fun j hj => by
    obtain ⟨b, hb, -, e, -⟩ := (m5 j hj).beat
    rw [e]; exact hb
  have hlen := srt_len nm hb100
  obtain ⟨σ', k1, k2, k3, k4, k5⟩ := keep_loop (σ0 := σ) (nm := nm) (m := nm - k) (S := srt (bt τ) nm) (mt := mt) hlen m3 (by omega) m1 (fun z hz => ⟨by have := srt_lt hz; omega, (m5 z (srt_lt hz)).1.1⟩) nm 0 FU σ (by omega) (by rw [FU_big]; omega) ⟨rfl, rfl, fun _ _ => rfl, fun j hj => by rw [if_neg (Nat.not_lt_zero j)]; exact m4 j hj⟩
  rw [srt_keep (bt τ) (show nm - k ≤ nm by omega)] at k2 k5
  rw [srt_len (nm - k) (fun j hj => hb100 j (by omega))] at k2
  unfold fX4_keepFirst
  have k1 : fX4_keepFirst_L4 FU σ (nI (nm - k)) 0 0 = some σ' := k1
  rw [k1, bd_some]
  unfold fX7_removeMoves_b25
  have s0 : ∀ t, t ≠ 2 → σ'.1 t = σ.1 t := fun t ht => by rw [k2]; exact rIr _ _ _ _ _ ht
  have s2 : σ'.1 2 1 = nI (nm - k) := by rw [k2, rI]; simp
  have t1 : ∀ t, t ≠ 0 → (wI τ 0 9 (nI (nm - k))).1 t = τ.1 t := fun t ht => rIr _ _ _ _ _ ht
  refine ⟨nI (nm - k), σ', wI τ 0 9 (nI (nm - k)), by rw [s2], by simp [rI], D, nf, ft, lb, nm - k, mt, ns, ?_, ?_, ?_, ?_⟩
  · exact a.congr (by rw [s0 0 (by decide)]) (by simp [rI])
  · exact b.congr (by rw [s0 0 (by decide)]) (k4 1 (by decide)) (fun k i hk hi => s0 _ (by have := (b.2.2.2.1 k hk).1; omega)) (by simp [rI]) (fun q g1 g2 => t1 q (by omega))
  · refine ⟨⟨s2, by simp [rI], by omega⟩, fun i hi => ?_, fun j hj => ?_, fun j hj => m6 j (by omega), fun j q hj hq => m7 j q (by omega) hq⟩
    · rw [k5 i hi]; rw [show bt (wI τ 0 9 (nI (nm - k))) = bt τ from by funext j; show ix ((wI τ 0 9 (nI (nm - k))).1 8 j) = _; rw [t1 8 (by decide)]]
    · exact (m5 j (by omega)).congr (s0 _ (by have := m6 j (by omega); omega)) (fun q g1 g2 => by rw [t1 q (by omega)]) (Nat.le_refl _) (fun _ _ => Nat.le_refl _)
  · exact d.congr (by rw [s0 4 (by decide)]) (s0 5 (by decide)) (s0 6 (by decide)) (by simp [rI]) (t1 21 (by decide))
