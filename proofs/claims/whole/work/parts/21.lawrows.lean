def JL (X : Cx) (w v : Wp) (σ τ : St) (pc : Nat) (lv : List (Nat × Value)) (st : List Value) : Prop :=
  ∀ (H : Heap) (locs : List Loc) (ls : Array Slot), Wd w σ H → Wd v τ H → Dis w v → va_S (AL X) (xs X).heap H locs → lv_has ls 4 lv → W (xp X) (xl X) (xe X) (xR X) (xs X) (xm X) (xa X) (xb X) (xM X) (xc X) H locs (xcl X) (xsl X) (xQ X) (F0 (xm X) pc ls st)
section LROWS
variable {X : Cx} {w v : Wp} {σ τ σ' τ' : St} {b L : Nat} {xs' : Nat → Int32} {pc : Nat} {lv lv' : List (Nat × Value)} {rest st As : List Value}
theorem l_iconst (hX : OL X w v b L xs') {n : Int} {z : Int32} (hdg : decode cL_law pc = .ok (.iconst n, 1)) (hv : Int32.ofInt n = z) (k : JL X w v σ τ (pc + 1) lv (.int z :: rest)) : JL X w v σ τ pc lv rest := fun H locs ls a d hd s c => lv_iconst hX.1 hX.2.1 hdg hv (k H locs ls a d hd s c)
theorem l_bipush (hX : OL X w v b L xs') {n : Int} {z : Int32} (hdg : decode cL_law pc = .ok (.bipush n, 2)) (hv : (Int8.ofInt n).toInt32 = z) (k : JL X w v σ τ (pc + 2) lv (.int z :: rest)) : JL X w v σ τ pc lv rest := fun H locs ls a d hd s c => lv_bipush hX.1 hX.2.1 hdg hv (k H locs ls a d hd s c)
theorem l_iload (hX : OL X w v b L xs') {k : Fin 4} {i : Nat} {x : Int32} (hdg : decode cL_law pc = .ok (.iload_n k, 1)) (hi : (k : Nat) = i) (j : Nat) (hj : lv[j]? = some (i, .int x)) (kk : JL X w v σ τ (pc + 1) lv (.int x :: rest)) : JL X w v σ τ pc lv rest := fun H locs ls a d hd s c => lv_iload_n hX.1 hX.2.1 hdg hi (lv_at c j hj) (kk H locs ls a d hd s c)
theorem l_aload (hX : OL X w v b L xs') {k : Fin 4} {i q : Nat} (hdg : decode cL_law pc = .ok (.aload_n k, 1)) (hi : (k : Nat) = i) (j : Nat) (hj : lv[j]? = some (i, .ref q)) (kk : JL X w v σ τ (pc + 1) lv (.ref q :: rest)) : JL X w v σ τ pc lv rest := fun H locs ls a d hd s c => lv_aload_n hX.1 hX.2.1 hdg hi (lv_at c j hj) (kk H locs ls a d hd s c)
theorem l_iadd (hX : OL X w v b L xs') {x y : Int32} (hdg : decode cL_law pc = .ok (.iadd, 1)) (k : JL X w v σ τ (pc + 1) lv (.int (x + y) :: rest)) : JL X w v σ τ pc lv (.int y :: .int x :: rest) := fun H locs ls a d hd s c => lv_iadd hX.1 hX.2.1 hdg (k H locs ls a d hd s c)
theorem l_isub (hX : OL X w v b L xs') {x y : Int32} (hdg : decode cL_law pc = .ok (.isub, 1)) (k : JL X w v σ τ (pc + 1) lv (.int (x - y) :: rest)) : JL X w v σ τ pc lv (.int y :: .int x :: rest) := fun H locs ls a d hd s c => lv_isub hX.1 hX.2.1 hdg (k H locs ls a d hd s c)
theorem l_iand (hX : OL X w v b L xs') {x y : Int32} (hdg : decode cL_law pc = .ok (.iand, 1)) (k : JL X w v σ τ (pc + 1) lv (.int (x &&& y) :: rest)) : JL X w v σ τ pc lv (.int y :: .int x :: rest) := fun H locs ls a d hd s c => lv_iand hX.1 hX.2.1 hdg (k H locs ls a d hd s c)
/-- a place of the script -/
theorem l_sld (hX : OL X w v b L xs') {i z : Int32} (hin : vp_in i L) (hz : xs' (ix i) = z) (hdg : decode cL_law pc = .ok (.iaload, 1)) (k : JL X w v σ τ (pc + 1) lv (.int z :: rest)) : JL X w v σ τ pc lv (.int i :: .ref b :: rest) := fun H locs ls a d hd s c => by
  subst hz
  obtain ⟨g1, g2, -, -, -, -, -, -, -, -, g3, g4, -⟩ := hX
  exact va_sld (A := AL X) g1 g2 g3 g4 (Nat.not_le.mpr g4) s hin hdg (k H locs ls a d hd s c)
theorem l_slen (hX : OL X w v b L xs') (hdg : decode cL_law pc = .ok (.arraylength, 1)) (k : JL X w v σ τ (pc + 1) lv (.int (Int32.ofNat L) :: rest)) : JL X w v σ τ pc lv (.ref b :: rest) := fun H locs ls a d hd s c => by
  obtain ⟨g1, g2, -, -, -, -, -, -, -, -, g3, g4, -⟩ := hX
  exact va_slen (A := AL X) g1 g2 g3 g4 (Nat.not_le.mpr g4) s hdg (k H locs ls a d hd s c)
theorem l_icmp_gt (hX : OL X w v b L xs') {x y : Int32} {off : Int} {tgt : Nat} (hdg : decode cL_law pc = .ok (.if_icmp .gt off, 3)) (ht : (pc : Int) + off = (tgt : Int)) (kt : y < x → JL X w v σ τ tgt lv rest) (kf : ¬ y < x → JL X w v σ τ (pc + 3) lv rest) : JL X w v σ τ pc lv (.int y :: .int x :: rest) := fun H locs ls a d hd s c => lv_icmp_gt hX.1 hX.2.1 hdg ht (fun h => kt h H locs ls a d hd s c) (fun h => kf h H locs ls a d hd s c)
/-- both answers are the same -/
theorem l_same (hX : OL X w v b L xs') {x : Int32} {off : Int} {tgt : Nat} (hdg : decode cL_law pc = .ok (.if_icmp .eq off, 3)) (ht : (pc : Int) + off = (tgt : Int)) (kt : JL X w v σ τ tgt lv rest) : JL X w v σ τ pc lv (.int x :: .int x :: rest) := fun H locs ls a d hd s c => lv_icmp_eq hX.1 hX.2.1 hdg ht (fun _ => kt H locs ls a d hd s c) (fun h => absurd rfl h)
theorem l_sameL (hX : OL X w v b L xs') {x : Int64} {off : Int} {tgt : Nat} (hd0 : decode cL_law pc = .ok (.lcmp, 1)) (hdg : decode cL_law (pc + 1) = .ok (.ifCond .eq off, 3)) (ht : ((pc + 1 : Nat) : Int) + off = (tgt : Int)) (kt : JL X w v σ τ tgt lv rest) : JL X w v σ τ pc lv (.long x :: .long x :: rest) := fun H locs ls a d hd s c => W.lcmp hX.1 hX.2.1 hd0 (lv_if_eq hX.1 hX.2.1 hdg ht (fun _ => kt H locs ls a d hd s c) (fun h => absurd ((lg_cmp_eq x x).mpr rfl) h))
theorem l_tabOut (hX : OL X w v b L xs') {dflt lo hi : Int} {offs : Array Int} {len : Nat} {x : Int32} {tgt : Nat} (hdg : decode cL_law pc = .ok (.tableswitch dflt lo hi offs, len)) (h : x.toInt < lo ∨ hi < x.toInt) (ht : (pc : Int) + dflt = (tgt : Int)) (k : JL X w v σ τ tgt lv rest) : JL X w v σ τ pc lv (.int x :: rest) := fun H locs ls a d hd s c => lv_tableOut hX.1 hX.2.1 hdg h ht (k H locs ls a d hd s c)
theorem l_tabIn (hX : OL X w v b L xs') {dflt lo hi : Int} {offs : Array Int} {len : Nat} {x : Int32} {off : Int} {tgt : Nat} (hdg : decode cL_law pc = .ok (.tableswitch dflt lo hi offs, len)) (h1 : ¬ x.toInt < lo) (h2 : ¬ hi < x.toInt) (ho : offs[(x.toInt - lo).toNat]? = some off) (ht : (pc : Int) + off = (tgt : Int)) (k : JL X w v σ τ tgt lv rest) : JL X w v σ τ pc lv (.int x :: rest) := fun H locs ls a d hd s c => lv_tableIn hX.1 hX.2.1 hdg h1 h2 ho ht (k H locs ls a d hd s c)
theorem l_goto (hX : OL X w v b L xs') {off : Int} {tgt : Nat} (hdg : decode cL_law pc = .ok (.goto off, 3)) (ht : (pc : Int) + off = (tgt : Int)) (k : JL X w v σ τ tgt lv rest) : JL X w v σ τ pc lv rest := fun H locs ls a d hd s c => lv_goto hX.1 hX.2.1 hdg ht (k H locs ls a d hd s c)
theorem l_iinc (hX : OL X w v b L xs') {i : Nat} {n : Int} {x z : Int32} (hdg : decode cL_law pc = .ok (.iinc i n, 3)) (j : Nat) (hj : lv[j]? = some (i, .int x)) (hv : x + Int32.ofInt n = z) (hn : i < 4) (hl : (i, Value.int z) :: lv.filter (fun q => !(q.1 == i) && !(q.1 + 1 == i && q.2.category == 2)) = lv') (kk : JL X w v σ τ (pc + 3) lv' rest) : JL X w v σ τ pc lv rest := fun H locs _ a d hd s c => lv_iinc hX.1 hX.2.1 hdg c hj hv hn hl (fun ls' h' => kk H locs ls' a d hd s h')
theorem JL.sub (ks : List Nat) (h : lv_pick lv ks = lv') (k : JL X w v σ τ pc lv' rest) : JL X w v σ τ pc lv rest := fun H locs ls a d hd s c => k H locs ls a d hd s (lv_sub c ks h)
theorem Dis.symm (h : Dis w v) : Dis v w := fun t t' ht ht' e => h t' t ht' ht e.symm
variable {y : MethodName} {bb : ByteArray} {n np index fr lo : Nat}
theorem l_callCi (hX : OL X w v b L xs') (hm : MI y bb n (some .int) np) (hW : CW w) {r : Int32} (hM : ∀ u : Wp, CW u → CM (xl X) u y bb n (some .int) (rmz fr lo) (rf u 0 :: As) σ (Qi u σ' r)) (hyc : CI 6 y.cls TX6 9) (hl : Cond.methodLink RL index y ∈ GT) (hi : Cond.instanceMethod y ∈ GT) (hsel : Cond.selects y.cls y y ∈ GT) (hR : fr + 1 ≤ 9 ∧ 8 + (n + 11) + lo ≤ 362) (hdg : decode cL_law pc = .ok (.invokevirtual index, 3)) (hn : As.length = np) (hst : st = As.reverse ++ rf w 0 :: rest) (hcat : (rest.map fun v => v.category).sum ≤ 8) (kk : JL X w v σ' τ (pc + 3) lv (.int r :: rest)) : JL X w v σ τ pc lv st := fun H locs ls a d hd s c =>
  va_calli (runL (rm := rmz fr lo) (Or.inl hX) hm a s c (hM (setA w (ownA w H.size)) hW) hl hi hsel hyc (CK0 hW) (by decide) (ce7 (CK0 hW)) hR ⟨Nat.zero_le _, Nat.zero_le _⟩ hdg hn hst hcat) s (fun q _ h => own_sub a hX.2.2.2.2.2.2.2.1 s q h) (own_sub a hX.2.2.2.2.2.2.2.1 s) (fun r' u t H1 locs1 ht _ hp hB _ hk hS1 => by
    subst hp
    have hB : Wd (setA w (ownA w H.size)) σ' t.heap := hB
    rw [ht] at hB
    exact kk H1 locs1 ls ⟨fun t ht => ⟨(hB.1 t ht).1, (a.1 t ht).2⟩, hB.2⟩ (law_after (A := AL X) a d hd hk) hd hS1 c)
theorem l_callCl (hX : OL X w v b L xs') (hm : MI y bb n (some .long) np) (hW : CW w) {r : Int64} (hM : ∀ u : Wp, CW u → CM (xl X) u y bb n (some .long) (rmz fr lo) (rf u 0 :: As) σ (Ql u σ' r)) (hyc : CI 6 y.cls TX6 9) (hl : Cond.methodLink RL index y ∈ GT) (hi : Cond.instanceMethod y ∈ GT) (hsel : Cond.selects y.cls y y ∈ GT) (hR : fr + 1 ≤ 9 ∧ 8 + (n + 11) + lo ≤ 362) (hdg : decode cL_law pc = .ok (.invokevirtual index, 3)) (hn : As.length = np) (hst : st = As.reverse ++ rf w 0 :: rest) (hcat : (rest.map fun v => v.category).sum ≤ 8) (kk : JL X w v σ' τ (pc + 3) lv (.long r :: rest)) : JL X w v σ τ pc lv st := fun H locs ls a d hd s c =>
  va_calll (runL (rm := rmz fr lo) (Or.inl hX) hm a s c (hM (setA w (ownA w H.size)) hW) hl hi hsel hyc (CK0 hW) (by decide) (ce7 (CK0 hW)) hR ⟨Nat.zero_le _, Nat.zero_le _⟩ hdg hn hst hcat) s (fun q _ h => own_sub a hX.2.2.2.2.2.2.2.1 s q h) (own_sub a hX.2.2.2.2.2.2.2.1 s) (fun r' u t H1 locs1 ht _ hp hB _ hk hS1 => by
    subst hp
    have hB : Wd (setA w (ownA w H.size)) σ' t.heap := hB
    rw [ht] at hB
    exact kk H1 locs1 ls ⟨fun t ht => ⟨(hB.1 t ht).1, (a.1 t ht).2⟩, hB.2⟩ (law_after (A := AL X) a d hd hk) hd hS1 c)
theorem l_callMi (hX : OL X w v b L xs') (hm : MI y bb n (some .int) np) (hW : MW v) {r : Int32} (hM : ∀ u : Wp, MW u → CM (xl X) u y bb n (some .int) (rmz fr lo) (rf u 0 :: As) τ (Qi u τ' r)) (hyc : CI 7 y.cls TX7 27) (hl : Cond.methodLink RL index y ∈ GT) (hi : Cond.instanceMethod y ∈ GT) (hsel : Cond.selects y.cls y y ∈ GT) (hR : fr + 1 ≤ 9 ∧ 8 + (n + 11) + lo ≤ 362) (hdg : decode cL_law pc = .ok (.invokevirtual index, 3)) (hn : As.length = np) (hst : st = As.reverse ++ rf v 0 :: rest) (hcat : (rest.map fun v => v.category).sum ≤ 8) (kk : JL X w v σ τ' (pc + 3) lv (.int r :: rest)) : JL X w v σ τ pc lv st := fun H locs ls a d hd s c =>
  va_calli (runL (rm := rmz fr lo) (Or.inr hX) hm d s c (hM (setA v (ownA v H.size)) hW) hl hi hsel hyc (MK0 hW) (by decide) (ce8 (MK0 hW)) hR ⟨Nat.zero_le _, Nat.zero_le _⟩ hdg hn hst hcat) s (fun q _ h => own_sub d hX.2.2.2.2.2.2.2.2.1 s q h) (own_sub d hX.2.2.2.2.2.2.2.2.1 s) (fun r' u t H1 locs1 ht _ hp hB _ hk hS1 => by
    subst hp
    have hB : Wd (setA v (ownA v H.size)) τ' t.heap := hB
    rw [ht] at hB
    exact kk H1 locs1 ls (law_after (A := AL X) d a hd.symm hk) ⟨fun t ht => ⟨(hB.1 t ht).1, (d.1 t ht).2⟩, hB.2⟩ hd hS1 c)
theorem l_callMl (hX : OL X w v b L xs') (hm : MI y bb n (some .long) np) (hW : MW v) {r : Int64} (hM : ∀ u : Wp, MW u → CM (xl X) u y bb n (some .long) (rmz fr lo) (rf u 0 :: As) τ (Ql u τ' r)) (hyc : CI 7 y.cls TX7 27) (hl : Cond.methodLink RL index y ∈ GT) (hi : Cond.instanceMethod y ∈ GT) (hsel : Cond.selects y.cls y y ∈ GT) (hR : fr + 1 ≤ 9 ∧ 8 + (n + 11) + lo ≤ 362) (hdg : decode cL_law pc = .ok (.invokevirtual index, 3)) (hn : As.length = np) (hst : st = As.reverse ++ rf v 0 :: rest) (hcat : (rest.map fun v => v.category).sum ≤ 8) (kk : JL X w v σ τ' (pc + 3) lv (.long r :: rest)) : JL X w v σ τ pc lv st := fun H locs ls a d hd s c =>
  va_calll (runL (rm := rmz fr lo) (Or.inr hX) hm d s c (hM (setA v (ownA v H.size)) hW) hl hi hsel hyc (MK0 hW) (by decide) (ce8 (MK0 hW)) hR ⟨Nat.zero_le _, Nat.zero_le _⟩ hdg hn hst hcat) s (fun q _ h => own_sub d hX.2.2.2.2.2.2.2.2.1 s q h) (own_sub d hX.2.2.2.2.2.2.2.2.1 s) (fun r' u t H1 locs1 ht _ hp hB _ hk hS1 => by
    subst hp
    have hB : Wd (setA v (ownA v H.size)) τ' t.heap := hB
    rw [ht] at hB
    exact kk H1 locs1 ls (law_after (A := AL X) d a hd.symm hk) ⟨fun t ht => ⟨(hB.1 t ht).1, (d.1 t ht).2⟩, hB.2⟩ hd hS1 c)
/-- a call that may make cells: the class's world grows -/
theorem l_callE {bd mc ms : Nat} (hX : OL X w v b L xs') (hm : MI y bb n (some .int) np) (hW : CW w) (hF : Fre w bd) {r : Int32} (hM : ∀ u : Wp, CW u → Fre u bd → CM (xl X) u y bb n (some .int) { frames := fr, cells := mc, slots := ms, locals := lo } (rf u 0 :: As) σ (QE u bd σ' r)) (hyc : CI 6 y.cls TX6 9) (hl : Cond.methodLink RL index y ∈ GT) (hi : Cond.instanceMethod y ∈ GT) (hsel : Cond.selects y.cls y y ∈ GT) (hR : fr + 1 ≤ 9 ∧ 8 + (n + 11) + lo ≤ 362) (hc4 : mc ≤ 4 ∧ ms ≤ 32) (hdg : decode cL_law pc = .ok (.invokevirtual index, 3)) (hn : As.length = np) (hst : st = As.reverse ++ rf w 0 :: rest) (hcat : (rest.map fun v => v.category).sum ≤ 8) (hcap : xcl X + 104 ≤ 600000 ∧ xsl X + 3032 ≤ 7302249)
    (kk : ∀ w' : Wp, OL (addX X mc ms) w' v b L xs' → CW w' → Fre w' (bd + 28) → wa w' 0 = wa w 0 → JL (addX X mc ms) w' v σ' τ (pc + 3) lv (.int r :: rest)) : JL X w v σ τ pc lv st := fun H locs ls a d hd s c =>
  va_calli (runL (rm := { frames := fr, cells := mc, slots := ms, locals := lo }) (Or.inl hX) hm a s c (hM (setA w (ownA w H.size)) hW hF) hl hi hsel hyc (CK0 hW) (by decide) (ce7 (CK0 hW)) hR hc4 hdg hn hst hcat) s (fun q _ h => own_sub a hX.2.2.2.2.2.2.2.1 s q h) (own_sub a hX.2.2.2.2.2.2.2.1 s) (fun r' u t H1 locs1 ht _ hp hB _ hk hS1 => by
    obtain ⟨hp, hE, hCW⟩ := hp
    subst hp
    have hB : Wd u σ' t.heap := hB
    rw [ht] at hB
    obtain ⟨eA, eD, e1, e2, e3, e4⟩ := hE.1
    have hown := own_sub a hX.2.2.2.2.2.2.2.1 s
    have hu : ∀ c, wK u c ≠ 0 → ownA w H.size (wa u c) := fun c hc => by have h := (hB.1 c hc).2; rw [eA] at h; exact h
    have hB2 : Wd (setA u (AL X)) σ' H1 := ⟨fun c hc => ⟨(hB.1 c hc).1, hown _ (hu c hc)⟩, hB.2⟩
    have hT : TYS u = TYS w := by
      show [(wcI u, _), (wcJ u, _), (wcF u, _), (wcM u, _)] = _
      rw [e1, e2, e3, e4]; rfl
    have hKL : KL (setA u (AL X)) (xs X) := by
      obtain ⟨k1, k2, k3⟩ := hX.2.2.2.2.2.1
      refine ⟨?_, k2, ?_⟩
      · show va_K (wD u) vwCl (TYS u) (xs X)
        rw [hT, eD]; exact k1
      · obtain ⟨x1, x2, h1, h2, h3, h4⟩ := k3
        rw [hX.2.2.2.2.2.2.2.1] at h1 h2 h3 h4
        exact ⟨x1, x2, h1, h2, h3, h4⟩
    have hz0 : wK w 0 ≠ 0 := by rw [CK0 hW]; decide
    have hFu : Fre (setA u (AL X)) (bd + 28) := fun c hc => by
      rcases hE.2.2 c hc with q | q
      · have := hF c q; omega
      · omega
    have hdis : Dis (setA u (AL X)) v := fun c c' hc hc' e => by
      rcases hu c hc with ⟨x, hx, e2⟩ | h
      · exact hd x c' hx hc' (e2.symm.trans e)
      · have h2 := d.lt hc'
        have h3 : wa u c = wa v c' := e
        omega
    refine kk (setA u (AL X)) ?_ hCW hFu (hE.2.1 0 hz0).1 H1 locs1 ls hB2 (law_after (A := AL X) a d hd hk) hdis hS1 c
    obtain ⟨g1, g2, g3, g4, g5, g6, g7, g8, g9, g10, g11, g12, g13⟩ := hX
    exact ⟨g1, g2, g3, g4, g5, hKL, g7, rfl, g9, g10, g11, g12, by show xcl X + mc + 100 ≤ 600000 ∧ xsl X + ms + 3000 ≤ 7302249; omega⟩)
end LROWS
