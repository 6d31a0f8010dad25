-- ===== the law's judgement: two worlds side by side =====
def setA (w : Wp) (A : Nat → Prop) : Wp := (A, w.2)
def ownA (w : Wp) (n : Nat) : Nat → Prop := fun q => (∃ t, wK w t ≠ 0 ∧ q = wa w t) ∨ n ≤ q
abbrev AL (X : Cx) : Nat → Prop := fun q => (xs X).heap.size ≤ q
def Dis (w v : Wp) : Prop := ∀ t t', wK w t ≠ 0 → wK v t' ≠ 0 → wa w t ≠ wa v t'
def KL (w : Wp) (U : State) : Prop := va_K (wD w) vwCl (TYS w) U ∧ NZ U ∧ SX w U U.heap
theorem Wd.setA {w : Wp} {σ : St} {H : Heap} {A : Nat → Prop} (h : Wd w σ H) (hA : ∀ t, wK w t ≠ 0 → A (wa w t)) : Wd (setA w A) σ H := ⟨fun t ht => ⟨(h.1 t ht).1, hA t ht⟩, h.2⟩
theorem SX.narrow {w : Wp} {A : Nat → Prop} {U : State} {H : Heap} (h : SX w U H) (hA : ∀ q, A q → wA w q) : SX (setA w A) U H := by
  obtain ⟨a, b, h1, h2, h3, h4⟩ := h
  exact ⟨a, b, h1.narrow hA, h2.narrow hA, h3.narrow hA, h4.narrow hA⟩
/-- what the law knows: the machine, the tables, the script -/
def OL (X : Cx) (w v : Wp) (b L : Nat) (xs' : Nat → Int32) : Prop :=
  (xp X).tables.exec = Jvm.exec ∧ (xc X).code = cL_law ∧ (xc X).maxLocals = 4 ∧ (xs X).vm.findClass RL = some (xm X).cls ∧ (∀ w ∈ GT, w.before (xa X) (xs X) = true) ∧ KL w (xs X) ∧ KL v (xs X) ∧ wA w = AL X ∧ wA v = AL X ∧ xR X = room_1 ∧ va_X b L xs' (xs X) (xs X).heap ∧ b < (xs X).heap.size ∧ (xcl X + 100 ≤ 600000 ∧ xsl X + 3000 ≤ 7302249)
section LCALL
variable {X : Cx} {w v : Wp} {σ τ σ' : St} {pc : Nat} {lv : List (Nat × Value)} {rest st As : List Value} {y : MethodName} {bb : ByteArray} {n np index fr lo : Nat} {H : Heap} {locs : List Loc} {ls : Array Slot}
theorem own_sub (a : Wd w σ H) (hA : wA w = AL X) (hS : va_S (AL X) (xs X).heap H locs) : ∀ q, ownA w H.size q → AL X q := fun q hq => by
  rcases hq with ⟨t, ht, e⟩ | h
  · rw [e, ← hA]; exact (a.1 t ht).2
  · exact Nat.le_trans hS.1 h
theorem Kx.law {U : State} (hK : KL w (xs X)) (hA : wA w = AL X) (a : Wd w σ H) (hS : va_S (AL X) (xs X).heap H locs) (hU : U.heap = H) (hW : (xs X).WarmedH U.vm) : Kx (setA w (ownA w H.size)) U := by
  have hsub := own_sub a hA hS
  refine ⟨va_K.moved hW.alike hK.1, hK.2.1.warm hW, ?_, fun q hq => Or.inr (by rw [← hU]; exact hq)⟩
  rw [hU]
  have h1 : SX w U H := hK.2.2.kept (locs := locs) (by rw [hA]; exact hS) hW.alike
  exact h1.narrow (fun q h => by rw [hA]; exact hsub q h)
/-- behind a call on one world: that world as it is now, the other as it was -/
theorem law_after {H1 : Heap} {A : Nat → Prop} (a : Wd w σ H) (d : Wd v τ H) (hd : Dis w v) (hk : ∀ q : Nat, q < H.size → ¬ ownA w H.size q → H1[q]? = H[q]?) : Wd v τ H1 :=
  ⟨fun t ht => ⟨((d.1 t ht).1).kept (hk _ (d.lt ht) (fun q => by
    rcases q with ⟨c, hc, e⟩ | h
    · exact hd c t hc ht e.symm
    · have := d.lt ht; omega)), (d.1 t ht).2⟩, d.2⟩
theorem runL {rt : Option FieldType} {rm : Room} {Qc : QI} {vv : Wp} {b L : Nat} {xs' : Nat → Int32} (hX : OL X w vv b L xs' ∨ OL X vv w b L xs') (hm : MI y bb n rt np) {kd ci N : Nat} {T : u_T} {fs : List Value} (a : Wd w σ H) (bS : va_S (AL X) (xs X).heap H locs) (c : lv_has ls 4 lv) (hM : Met (xl X) y (.code y bb n rt :: GT) rm (Pre (setA w (ownA w H.size)) σ (rf w 0 :: As)) Qc rm.cells rm.slots (ownA w H.size)) (hl : Cond.methodLink RL index y ∈ GT) (hi : Cond.instanceMethod y ∈ GT) (hsel : Cond.selects y.cls y y ∈ GT) (hC : CI ci y.cls T N) (hk : wK w 0 = kd) (h0 : kd ≠ 0) (hce : ceS w 0 σ = .inr (ci, fs)) (hR : rm.frames + 1 ≤ 9 ∧ 8 + (n + 11) + rm.locals ≤ 362) (hcap : rm.cells ≤ 4 ∧ rm.slots ≤ 32) (hdg : decode cL_law pc = .ok (.invokevirtual index, 3)) (hn : As.length = np) (hst : st = As.reverse ++ rf w 0 :: rest) (hcat : (rest.map fun v => v.category).sum ≤ 8) :
    va_Run (xp X) (xl X) (xe X) (xR X) (xs X) (xm X) (xa X) (xb X) (xM X) (xc X) H locs (xcl X) (xsl X) rm.cells rm.slots (F0 (xm X) pc ls st) rest (Qc (rf w 0 :: As).toArray) (ownA w H.size) := by
  have hcommon : (xp X).tables.exec = Jvm.exec ∧ (xc X).code = cL_law ∧ (xc X).maxLocals = 4 ∧ (xs X).vm.findClass RL = some (xm X).cls ∧ (∀ w ∈ GT, w.before (xa X) (xs X) = true) ∧ KL w (xs X) ∧ wA w = AL X ∧ xR X = room_1 ∧ (xcl X + 100 ≤ 600000 ∧ xsl X + 3000 ≤ 7302249) := by
    rcases hX with h | h
    · exact ⟨h.1, h.2.1, h.2.2.1, h.2.2.2.1, h.2.2.2.2.1, h.2.2.2.2.2.1, h.2.2.2.2.2.2.2.1, h.2.2.2.2.2.2.2.2.2.1, h.2.2.2.2.2.2.2.2.2.2.2.2⟩
    · exact ⟨h.1, h.2.1, h.2.2.1, h.2.2.2.1, h.2.2.2.2.1, h.2.2.2.2.2.2.1, h.2.2.2.2.2.2.2.2.1, h.2.2.2.2.2.2.2.2.2.1, h.2.2.2.2.2.2.2.2.2.2.2.2⟩
  obtain ⟨g1, g2, g3, g4, g5, g6, g7, g8, g9⟩ := hcommon
  have hP := a.at (t := 0) (by rw [hk]; exact h0)
  rw [hce] at hP
  refine va_runV ⟨g1, g2, g3, g4, g5⟩ hM ⟨callB_of (Ts := GT) np g5 (good_code hm.1) rfl rfl rfl (g5 _ hm.2.2.1) (g5 _ hl) hm.2.1 (by rw [g8]; exact hR), g5 _ hi, g5 _ hsel⟩ ⟨Pre.blind, va_recv (q0 := 0) g6.1 hP hC.2.1 rfl, fun U hU hW => ⟨rfl, ?_, Kx.law g6 g7 a bS hU hW⟩⟩ rfl hn c.1 hst (lv_room hcat) hdg ?_
  · rw [hU]; exact a.setA (fun t ht => Or.inl ⟨t, ht, rfl⟩)
  · rw [g8]
    show xcl X + rm.cells ≤ 600000 ∧ xsl X + rm.slots ≤ 7302249
    omega
end LCALL
