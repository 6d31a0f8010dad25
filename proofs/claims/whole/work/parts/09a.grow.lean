-- ===== a method that makes a cell and answers with it, and the call of one =====
section GROW
variable {X : Cx} {w w0 : Wp} {cc : ByteArray} {nL : Nat} {own : String} {ret : Option FieldType} {rm : Room} {Q : QI} {σ : St} {pc b : Nat}
/-- a reference or null, in a world that may have grown -/
def QEq (w0 : Wp) (b : Nat) (σ : St) (kd : Nat) (r : Option Nat) : QI := va_Qq (fun r' (w' : Wp) => r' = r.map (wa w') ∧ (∀ t, r = some t → wK w' t = kd) ∧ Ext w0 w' b ∧ CW w') (fun w' t => Wd w' σ t.heap) (wA w0)
theorem r_aretE {r : Option Nat} {kd : Nat} {cn : String} {lv : List (Nat × Value)} (hX : OK X w cc nL own (some (.object cn)) rm (QEq w0 b σ kd r)) (ht : ∀ t, r = some t → wK w t = kd) (hE : Ext w0 w b) (hW : CW w) (hdg : decode cc pc = .ok (.areturn, 1)) : J X w nL σ pc lv [rv w r] := fun H locs ls a b c => by
  obtain ⟨h1, h2, -, -, -, -, h3, h4, -, h5, h6, h7⟩ := hX
  rw [h5]
  refine W.widen h6 h7 ?_
  exact W.aret h1 h2 h3 (Or.inl ⟨_, rfl⟩) (va_rf_or _) (fun t he _ => ⟨⟨_, w, rfl, ⟨rfl, ht, hE, hW⟩, by show Wd w σ t.heap; rw [he]; exact a⟩, by have := b.F he; rw [hE.1.1] at this; exact this⟩) b.2.2 hdg h4
/-- what a body knows, in a world that has grown -/
theorem OK.ext {w' : Wp} {k n : Nat} (hX : OK X w cc nL own ret rm Q) (hE : Ext w w' b) (hc : xcl X + k ≤ rm.cells ∧ xsl X + n ≤ rm.slots) : OK (addX X k n) w' cc nL own ret rm Q := by
  obtain ⟨eA, eD, e1, e2, e3, e4⟩ := hE.1
  obtain ⟨g1, g2, g3, g4, g5, ⟨k1, k2, k3, k4⟩, g7, g8, g9, g10, g11, g12⟩ := hX
  have hT : TYS w' = TYS w := by
    show [(wcI w', _), (wcJ w', _), (wcF w', _), (wcM w', _)] = _
    rw [e1, e2, e3, e4]
  refine ⟨g1, g2, g3, g4, g5, ⟨?_, k2, ?_, fun q hq => ?_⟩, g7, g8, g9, ?_, hc.1, hc.2⟩
  · show va_K (wD w') vwCl (TYS w') (xs X)
    rw [hT, eD]; exact k1
  · obtain ⟨x1, x2, h1, h2, h3, h4⟩ := k3
    exact ⟨x1, x2, by rw [eA]; exact h1, by rw [eA]; exact h2, by rw [eA]; exact h3, by rw [eA]; exact h4⟩
  · rw [eA]; exact k4 q hq
  · show xQ X = MQ (xb X) Q (xa X) (xs X) rm.cells rm.slots (wA w')
    rw [eA]; exact g10
variable {y : MethodName} {bb : ByteArray} {n np index : Nat} {rt : Option FieldType} {rc : Room} {Qc : QI} {lv : List (Nat × Value)} {rest st As : List Value}
/-- a virtual call of a method that may make cells -/
theorem runVE (hX : OK X w cc nL own ret rm Q) (hm : MI y bb n rt np) {t kd ci N : Nat} {T : u_T} {fs : List Value} (hM : CM (xl X) w y bb n rt rc (rf w t :: As) σ Qc) (hl : Cond.methodLink own index y ∈ GT) (hi : Cond.instanceMethod y ∈ GT) (hsel : Cond.selects y.cls y y ∈ GT) (hC : CI ci y.cls T N) (hk : wK w t = kd) (h0 : kd ≠ 0) (hce : ceS w t σ = .inr (ci, fs)) (hR : rc.frames + 1 ≤ rm.frames ∧ 8 + (n + 11) + rc.locals ≤ rm.locals) (hcap : xcl X + rc.cells ≤ rm.cells ∧ xsl X + rc.slots ≤ rm.slots) (hdg : decode cc pc = .ok (.invokevirtual index, 3)) (hn : As.length = np) (hst : st = As.reverse ++ rf w t :: rest) (hcat : (rest.map fun v => v.category).sum ≤ 8)
    {H : Heap} {locs : List Loc} {ls : Array Slot} (a : Wd w σ H) (bS : va_S (wA w) (xs X).heap H locs) (c : lv_has ls nL lv) : va_Run (xp X) (xl X) (xe X) (xR X) (xs X) (xm X) (xa X) (xb X) (xM X) (xc X) H locs (xcl X) (xsl X) rc.cells rc.slots (F0 (xm X) pc ls st) rest (Qc (rf w t :: As).toArray) (wA w) := by
  have hP := a.at (t := t) (by rw [hk]; exact h0)
  rw [hce] at hP
  exact va_runV (callfix hX) hM ⟨callB_of (Ts := GT) np hX.2.2.2.2.1 (good_code hm.1) rfl rfl rfl (hX.2.2.2.2.1 _ hm.2.2.1) (hX.2.2.2.2.1 _ hl) hm.2.1 (by rw [hX.2.2.2.2.2.2.2.2.1]; exact hR), hX.2.2.2.2.1 _ hi, hX.2.2.2.2.1 _ hsel⟩ ⟨Pre.blind, va_recv (q0 := 0) hX.2.2.2.2.2.1.1 hP hC.2.1 rfl, fun U hU hW => ⟨rfl, by rw [hU]; exact a, hX.2.2.2.2.2.1.at bS hU hW⟩⟩ rfl hn c.1 hst (lv_room hcat) hdg (by rw [hX.2.2.2.2.2.2.2.2.1]; exact hcap)
/-- a call that answers with a cell that it may have made: the world grows -/
theorem r_callqE {σ' : St} {k2 : Nat} {r : Option Nat} (hX : OK X w cc nL own ret rm Q) (hm : MI y bb n rt np) {t kd ci N : Nat} {T : u_T} {fs : List Value} (hM : CM (xl X) w y bb n rt rc (rf w t :: As) σ (QEq w b σ' k2 r)) (hl : Cond.methodLink own index y ∈ GT) (hi : Cond.instanceMethod y ∈ GT) (hsel : Cond.selects y.cls y y ∈ GT) (hC : CI ci y.cls T N) (hk : wK w t = kd) (h0 : kd ≠ 0) (hce : ceS w t σ = .inr (ci, fs)) (hR : rc.frames + 1 ≤ rm.frames ∧ 8 + (n + 11) + rc.locals ≤ rm.locals) (hcap : xcl X + rc.cells ≤ rm.cells ∧ xsl X + rc.slots ≤ rm.slots) (hdg : decode cc pc = .ok (.invokevirtual index, 3)) (hn : As.length = np) (lvf : Wp → List (Nat × Value)) (stf : Wp → List Value) (hst : st = As.reverse ++ rf w t :: stf w) (hcat : ((stf w).map fun v => v.category).sum ≤ 8) (hlv : ∀ w' : Wp, (∀ c, wK w c ≠ 0 → wa w' c = wa w c) → lvf w = lvf w' ∧ stf w = stf w')
    (kk : ∀ (X' : Cx) (w' : Wp), OK X' w' cc nL own ret rm Q → CW w' → Ext w w' b → (∀ t, r = some t → wK w' t = k2) → J X' w' nL σ' (pc + 3) (lvf w') (rv w' r :: stf w')) : J X w nL σ pc (lvf w) st := fun H locs ls a bS c =>
  va_callq (runVE (lv := lvf w) (rest := stf w) hX hm hM hl hi hsel hC hk h0 hce hR hcap hdg hn hst hcat a bS c) bS (fun _ _ h => h) (fun _ h => h) (fun r' u t H1 locs1 ht _ hp hB _ _ hS1 => by
    obtain ⟨hp, hz, hE, hCW⟩ := hp
    subst hp
    have hB : Wd u σ' t.heap := hB
    rw [ht] at hB
    obtain ⟨el, es⟩ := hlv u (fun c hc => (hE.2.1 c hc).1)
    rw [el] at c
    rw [es]
    have hS2 : va_S (wA u) (xs X).heap H1 locs1 := by rw [hE.1.1]; exact hS1
    exact kk (addX X rc.cells rc.slots) u (hX.ext hE hcap) hCW hE hz H1 locs1 ls hB hS2 c)
end GROW
