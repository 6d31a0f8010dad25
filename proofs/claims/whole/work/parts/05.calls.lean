-- ===== calls =====
/-- what the tables say of a method -/
def MI (y : MethodName) (b : ByteArray) (n : Nat) (ret : Option FieldType) (np : Nat) : Prop := Cond.code y b n ret ∈ GT ∧ (y.cls ≠ "java/lang/invoke/MethodHandle" ∧ y.cls ≠ "java/lang/invoke/VarHandle" ∧ (parseMethodDescriptor y.desc).map (fun d => d.parameters.length) = some np) ∧ Cond.initialized y.cls ∈ GT ∧ plainFor y = true
theorem SX.kept {w : Wp} {s U : State} {H : Heap} {locs : List Loc} (h : SX w s s.heap) (hS : va_S (wA w) s.heap H locs) (hv : s.vm.Alike U.vm) : SX w U H := by
  obtain ⟨a, b, h1, h2, h3, h4⟩ := h
  exact ⟨a, b, (h1.moved hv).kept hS.2.1, (h2.moved hv).kept hS.2.1, (h3.moved hv).kept hS.2.1, (h4.moved hv).kept hS.2.1⟩
theorem Kx.at {w : Wp} {s U : State} {H : Heap} {locs : List Loc} (h : Kx w s) (hS : va_S (wA w) s.heap H locs) (hU : U.heap = H) (hW : s.WarmedH U.vm) : Kx w U :=
  ⟨va_K.moved hW.alike h.1, h.2.1.warm hW, by rw [hU]; exact h.2.2.1.kept hS hW.alike, fun q hq => h.2.2.2 q (Nat.le_trans hS.1 (by rw [← hU]; exact hq))⟩
theorem Kx.calling {w : Wp} {U : State} {g : JFrame} {mk : MethodId} {a : Array Value} (h : Kx w U) : Kx w (U.calling g mk a) :=
  ⟨va_K.moved (u := U) (U := U.calling g mk a) (Vm.Alike.refl U.vm) h.1, h.2.1.same rfl, by
    obtain ⟨x, y, h1, h2, h3, h4⟩ := h.2.2.1
    exact ⟨x, y, h1.moved (Vm.Alike.refl U.vm), h2.moved (Vm.Alike.refl U.vm), h3.moved (Vm.Alike.refl U.vm), h4.moved (Vm.Alike.refl U.vm)⟩, h.2.2.2⟩
theorem Pre.blind {w : Wp} {σ : St} {av : List Value} : FrameBlind (Pre w σ av) := fun a U g mk h => ⟨h.1, h.2.1, h.2.2.calling⟩
section CALLS
variable {X : Cx} {w : Wp} {cc : ByteArray} {nL : Nat} {own : String} {ret : Option FieldType} {rm : Room} {Q : QI} {σ σ' : St} {pc : Nat} {lv : List (Nat × Value)} {rest st As : List Value}
variable {y : MethodName} {b : ByteArray} {n np index : Nat} {rt : Option FieldType} {fr' lo' : Nat} {Qc : QI}
theorem cb_of (hX : OK X w cc nL own ret rm Q) (hm : MI y b n rt np) (hl : Cond.methodLink own index y ∈ GT) (hR : fr' + 1 ≤ rm.frames ∧ 8 + (n + 11) + lo' ≤ rm.locals) : CallB (xR X) (xs X) (xa X) own index y b n rt (.code y b n rt :: GT) (rmz fr' lo') 0 0 np := by
  refine callB_of (Ts := GT) np hX.2.2.2.2.1 (fun w hw => ?_) rfl rfl rfl (hX.2.2.2.2.1 _ hm.2.2.1) (hX.2.2.2.2.1 _ hl) hm.2.1 ?_
  · rcases List.mem_cons.mp hw with e | e
    · rw [e]; exact gt_in _ hm.1
    · exact gt_in _ e
  · rw [hX.2.2.2.2.2.2.2.2.1]; exact hR
theorem callfix (hX : OK X w cc nL own ret rm Q) : CallFix (xp X) (xm X) (xc X) cc nL (xs X) (xa X) GT own := ⟨hX.1, hX.2.1, hX.2.2.1, hX.2.2.2.1, hX.2.2.2.2.1⟩
theorem OK.cap (hX : OK X w cc nL own ret rm Q) : xcl X + 0 ≤ (xR X).cells ∧ xsl X + 0 ≤ (xR X).slots := by
  obtain ⟨-, -, -, -, -, -, -, -, h, -, h1, h2⟩ := hX
  rw [h]
  exact ⟨h1, h2⟩
/-- a static call -/
theorem runS (hX : OK X w cc nL own ret rm Q) (hm : MI y b n rt np) (hM : CM (xl X) w y b n rt (rmz fr' lo') As σ Qc) (hl : Cond.methodLink own index y ∈ GT) (hs : Cond.static y ∈ GT) (hR : fr' + 1 ≤ rm.frames ∧ 8 + (n + 11) + lo' ≤ rm.locals) (hdg : decode cc pc = .ok (.invokestatic index, 3)) (hn : As.length = np) (hst : st = As.reverse ++ rest) (hcat : (rest.map fun v => v.category).sum ≤ 8)
    {H : Heap} {locs : List Loc} {ls : Array Slot} (a : Wd w σ H) (bS : va_S (wA w) (xs X).heap H locs) (c : lv_has ls nL lv) : va_Run (xp X) (xl X) (xe X) (xR X) (xs X) (xm X) (xa X) (xb X) (xM X) (xc X) H locs (xcl X) (xsl X) 0 0 (F0 (xm X) pc ls st) rest (Qc As.toArray) (wA w) :=
  va_runS (callfix hX) hM ⟨cb_of hX hm hl hR, hX.2.2.2.2.1 _ hs⟩ ⟨Pre.blind, fun U hU hW => ⟨rfl, by rw [hU]; exact a, hX.2.2.2.2.2.1.at bS hU hW⟩⟩ rfl hn c.1 hst (lv_room hcat) hdg (hX.cap)
/-- a virtual call (private ones too) on an object of the class itself -/
theorem runV (hX : OK X w cc nL own ret rm Q) (hm : MI y b n rt np) {t kd ci N : Nat} {T : u_T} {fs : List Value} (hM : CM (xl X) w y b n rt (rmz fr' lo') (rf w t :: As) σ Qc) (hl : Cond.methodLink own index y ∈ GT) (hi : Cond.instanceMethod y ∈ GT) (hsel : Cond.selects y.cls y y ∈ GT) (hC : CI ci y.cls T N) (hk : wK w t = kd) (h0 : kd ≠ 0) (hce : ceS w t σ = .inr (ci, fs)) (hR : fr' + 1 ≤ rm.frames ∧ 8 + (n + 11) + lo' ≤ rm.locals) (hdg : decode cc pc = .ok (.invokevirtual index, 3)) (hn : As.length = np) (hst : st = As.reverse ++ rf w t :: rest) (hcat : (rest.map fun v => v.category).sum ≤ 8)
    {H : Heap} {locs : List Loc} {ls : Array Slot} (a : Wd w σ H) (bS : va_S (wA w) (xs X).heap H locs) (c : lv_has ls nL lv) : va_Run (xp X) (xl X) (xe X) (xR X) (xs X) (xm X) (xa X) (xb X) (xM X) (xc X) H locs (xcl X) (xsl X) 0 0 (F0 (xm X) pc ls st) rest (Qc (rf w t :: As).toArray) (wA w) := by
  have hP := a.at (t := t) (by rw [hk]; exact h0)
  rw [hce] at hP
  exact va_runV (callfix hX) hM ⟨cb_of hX hm hl hR, hX.2.2.2.2.1 _ hi, hX.2.2.2.2.1 _ hsel⟩ ⟨Pre.blind, va_recv (q0 := 0) hX.2.2.2.2.2.1.1 hP hC.2.1 rfl, fun U hU hW => ⟨rfl, by rw [hU]; exact a, hX.2.2.2.2.2.1.at bS hU hW⟩⟩ rfl hn c.1 hst (lv_room hcat) hdg (hX.cap)
/-- the one static call to a nest mate: Figure.hasLimb calls inRange -/
theorem runSN {host : String} (hX : OK X w cc nL own ret rm Q) (hm : MI y b n rt np) (hM : CM (xl X) w y b n rt (rmz fr' lo') As σ Qc) (hl : va_Nw (.methodLinkNest own index y host) (xs X)) (hs : Cond.static y ∈ GT) (hR : fr' + 1 ≤ rm.frames ∧ 8 + (n + 11) + lo' ≤ rm.locals) (hdg : decode cc pc = .ok (.invokestatic index, 3)) (hn : As.length = np) (hst : st = As.reverse ++ rest) (hcat : (rest.map fun v => v.category).sum ≤ 8)
    {H : Heap} {locs : List Loc} {ls : Array Slot} (a : Wd w σ H) (bS : va_S (wA w) (xs X).heap H locs) (c : lv_has ls nL lv) : va_Run (xp X) (xl X) (xe X) (xR X) (xs X) (xm X) (xa X) (xb X) (xM X) (xc X) H locs (xcl X) (xsl X) 0 0 (F0 (xm X) pc ls st) rest (Qc As.toArray) (wA w) := by
  refine va_runSN (callfix hX) hM ⟨va_cnB (Ts := GT) np hX.2.2.2.2.1 (fun w hw => ?_) rfl rfl rfl hl (hX.2.2.2.2.1 _ hm.2.2.1) hm.2.1 ?_, hX.2.2.2.2.1 _ hs, trivial⟩ ⟨Pre.blind, fun U hU hW => ⟨rfl, by rw [hU]; exact a, hX.2.2.2.2.2.1.at bS hU hW⟩⟩ rfl hn c.1 hst (lv_room hcat) hdg (hX.cap)
  · rcases List.mem_cons.mp hw with e | e
    · rw [e]; exact gt_in _ hm.1
    · exact gt_in _ e
  · rw [hX.2.2.2.2.2.2.2.2.1]; exact hR
-- what goes on behind a call
theorem J.calli {r : Int32} {av : Array Value} (hr : ∀ (H : Heap) (locs : List Loc) (ls : Array Slot), Wd w σ H → va_S (wA w) (xs X).heap H locs → lv_has ls nL lv → va_Run (xp X) (xl X) (xe X) (xR X) (xs X) (xm X) (xa X) (xb X) (xM X) (xc X) H locs (xcl X) (xsl X) 0 0 (F0 (xm X) pc ls st) rest (Qi w σ' r av) (wA w)) (kk : J X w nL σ' (pc + 3) lv (.int r :: rest)) : J X w nL σ pc lv st := fun H locs ls a b c =>
  va_calli (hr H locs ls a b c) b (fun _ _ h => h) (fun _ h => h) (fun r' u t H1 locs1 ht _ hp hB _ _ hS1 => by
    subst hp
    have hB : Wd w σ' t.heap := hB
    rw [ht] at hB
    exact kk H1 locs1 ls hB hS1 c)
theorem J.callz {r : Int32} {av : Array Value} (hr : ∀ (H : Heap) (locs : List Loc) (ls : Array Slot), Wd w σ H → va_S (wA w) (xs X).heap H locs → lv_has ls nL lv → va_Run (xp X) (xl X) (xe X) (xR X) (xs X) (xm X) (xa X) (xb X) (xM X) (xc X) H locs (xcl X) (xsl X) 0 0 (F0 (xm X) pc ls st) rest (Qz w σ' r av) (wA w)) (kk : Bz r → J X w nL σ' (pc + 3) lv (.int r :: rest)) : J X w nL σ pc lv st := fun H locs ls a b c =>
  va_calli (hr H locs ls a b c) b (fun _ _ h => h) (fun _ h => h) (fun r' u t H1 locs1 ht _ hp hB _ _ hS1 => by
    obtain ⟨hp, hz⟩ := hp
    subst hp
    have hB : Wd w σ' t.heap := hB
    rw [ht] at hB
    exact kk hz H1 locs1 ls hB hS1 c)
theorem J.calll {r : Int64} {av : Array Value} (hr : ∀ (H : Heap) (locs : List Loc) (ls : Array Slot), Wd w σ H → va_S (wA w) (xs X).heap H locs → lv_has ls nL lv → va_Run (xp X) (xl X) (xe X) (xR X) (xs X) (xm X) (xa X) (xb X) (xM X) (xc X) H locs (xcl X) (xsl X) 0 0 (F0 (xm X) pc ls st) rest (Ql w σ' r av) (wA w)) (kk : J X w nL σ' (pc + 3) lv (.long r :: rest)) : J X w nL σ pc lv st := fun H locs ls a b c =>
  va_calll (hr H locs ls a b c) b (fun _ _ h => h) (fun _ h => h) (fun r' u t H1 locs1 ht _ hp hB _ _ hS1 => by
    subst hp
    have hB : Wd w σ' t.heap := hB
    rw [ht] at hB
    exact kk H1 locs1 ls hB hS1 c)
theorem J.callv {av : Array Value} (hr : ∀ (H : Heap) (locs : List Loc) (ls : Array Slot), Wd w σ H → va_S (wA w) (xs X).heap H locs → lv_has ls nL lv → va_Run (xp X) (xl X) (xe X) (xR X) (xs X) (xm X) (xa X) (xb X) (xM X) (xc X) H locs (xcl X) (xsl X) 0 0 (F0 (xm X) pc ls st) rest (Qv w σ' av) (wA w)) (kk : J X w nL σ' (pc + 3) lv rest) : J X w nL σ pc lv st := fun H locs ls a b c =>
  va_callv (hr H locs ls a b c) b (fun _ _ h => h) (fun _ h => h) (fun u t H1 locs1 ht _ hp hB _ _ hS1 => by
    have hB : Wd w σ' t.heap := hB
    rw [ht] at hB
    exact kk H1 locs1 ls hB hS1 c)
theorem J.callq {kd : Nat} {r : Option Nat} {av : Array Value} (hr : ∀ (H : Heap) (locs : List Loc) (ls : Array Slot), Wd w σ H → va_S (wA w) (xs X).heap H locs → lv_has ls nL lv → va_Run (xp X) (xl X) (xe X) (xR X) (xs X) (xm X) (xa X) (xb X) (xM X) (xc X) H locs (xcl X) (xsl X) 0 0 (F0 (xm X) pc ls st) rest (Qq w σ' kd r av) (wA w)) (kk : (∀ t, r = some t → wK w t = kd) → J X w nL σ' (pc + 3) lv (rv w r :: rest)) : J X w nL σ pc lv st := fun H locs ls a b c =>
  va_callq (hr H locs ls a b c) b (fun _ _ h => h) (fun _ h => h) (fun r' u t H1 locs1 ht _ hp hB _ _ hS1 => by
    obtain ⟨hp, hz⟩ := hp
    subst hp
    have hB : Wd w σ' t.heap := hB
    rw [ht] at hB
    exact kk hz H1 locs1 ls hB hS1 c)
end CALLS
/-- System.arraycopy between two int arrays of the world -/
theorem r_copy {X : Cx} {w : Wp} {cc : ByteArray} {nL : Nat} {own : String} {ret : Option FieldType} {Q : QI} {σ : St} {pc : Nat} {lv : List (Nat × Value)} {rest : List Value} {rm : Room} {index t u n0 n1 : Nat} {sp dp n : Int32} (hX : OK X w cc nL own ret rm Q) (hl : Cond.methodLink own index arraycopyName ∈ GT) (hnat : Cond.native arraycopyName ∈ GT) (hsta : Cond.static arraycopyName ∈ GT) (hini : Cond.initialized "java/lang/System" ∈ GT)
    (hk0 : wK w t = 9) (hl0 : wl w t = n0) (hk1 : wK w u = 9) (hl1 : wl w u = n1) (hb : 0 ≤ sp.toInt ∧ 0 ≤ dp.toInt ∧ 0 ≤ n.toInt ∧ sp.toInt + n.toInt ≤ n0 ∧ dp.toInt + n.toInt ≤ n1) (hf : 1 ≤ rm.frames) (hlo : (rest.map fun v => v.category).sum + (nativeFrameWords "java/lang/System" "arraycopy" 5 + 11) ≤ rm.locals) (hdg : decode cc pc = .ok (.invokestatic index, 3))
    (kk : J X w nL (wC σ t u (ix sp) (ix dp) (ix n)) (pc + 3) lv rest) : J X w nL σ pc lv (.int n :: .int dp :: rf w u :: .int sp :: rf w t :: rest) := fun H locs ls a b c => by
  obtain ⟨b1, b2, b3, b4, b5⟩ := hb
  have neg : ∀ z : Int32, 0 ≤ z.toInt → ¬ z < 0 := fun z h q => by
    have := Int32.lt_iff_toInt_lt.mp q
    rw [Int32.toInt_zero] at this
    omega
  have nn : ∀ z : Int32, 0 ≤ z.toInt → z.toInt = (z.toNatClampNeg : Int) := fun z h => by
    show z.toInt = ((z.toInt.toNat : Nat) : Int)
    omega
  have e1 := nn sp b1
  have e2 := nn dp b2
  have e3 := nn n b3
  have hku : wK w u ≠ 0 := by rw [hk1]; decide
  have hc0 := (a.1 t (by rw [hk0]; decide)).1
  rw [show ceS w t σ = _ from ce9 hk0, hl0] at hc0
  have hc1 := (a.1 u hku).1
  rw [show ceS w u σ = _ from ce9 hk1, hl1] at hc1
  have hc0 : H[wa w t]? = some (vp_cell (wcI w) (n0, .inl (σ.1 t))) := hc0
  have hc1 : H[wa w u]? = some (vp_cell (wcI w) (n1, .inl (σ.1 u))) := hc1
  have hK := hX.2.2.2.2.2.1.1
  obtain ⟨-, k0, hq0, cm0, hkk0⟩ := (hK.2 0 _ rfl).1 n0 (fun j => .int (σ.1 t j))
  obtain ⟨-, k1, hq1, cm1, hkk1⟩ := (hK.2 0 _ rfl).1 n1 (fun j => .int (σ.1 u j))
  intro T hT S
  obtain ⟨vm', X', step⟩ := S.arraycopy hX.1 hX.2.2.2.1 (hX.2.2.2.2.1 _ hl) (hX.2.2.2.2.1 _ hnat) (hX.2.2.2.2.1 _ hsta) (hX.2.2.2.2.1 _ hini) (src := wa w t) (dst := wa w u) (cs := vp_cell (wcI w) (n0, .inl (σ.1 t))) (cd := vp_cell (wcI w) (n1, .inl (σ.1 u))) (srcPos := sp) (destPos := dp) (n := n) (by rw [hT]; exact hc0) (by rw [hT]; exact hc1)
    (fun _ h => by cases h) (fun _ h => by cases h) (fun h => by cases h) (fun h => by cases h) hq0 hq1 hkk0 hkk1 (by simp [refKind]) (neg sp b1) (neg dp b2) (neg n b3)
    (by show ¬ _ > ((arrV (wcI w) n0 (fun j => .int (σ.1 t j))).slots.size : Int); rw [arrV_size]; omega)
    (by show ¬ _ > ((arrV (wcI w) n1 (fun j => .int (σ.1 u j))).slots.size : Int); rw [arrV_size]; omega)
    (fun vm₁ _ i hi => by
      have e : (vp_cell (wcI w) (n0, .inl (σ.1 t))).slots.getD (sp.toNatClampNeg + i) .null = .int (σ.1 t (sp.toNatClampNeg + i)) := by
        show (arrV (wcI w) n0 (fun j => .int (σ.1 t j))).slots.getD _ _ = _
        rw [Array.getD_eq_getD_getElem?, arrV_read _ _ (by omega)]
        rfl
      refine ⟨?_, ?_⟩
      · rw [e]; rfl
      · rw [e]; exact trivial)
    (g := F0 (xm X) pc ls (.int n :: .int dp :: .ref (wa w u) :: .int sp :: .ref (wa w t) :: rest)) rfl (by show ls.size = (xc X).maxLocals; rw [c.1, hX.2.2.1]) (rest := rest) rfl (by rw [hX.2.1]; exact hdg) (by rw [hX.2.2.2.2.2.2.2.2.1]; exact hf) (by rw [hX.2.2.2.2.2.2.2.2.1]; show 2 * 0 + _ + _ ≤ rm.locals; omega)
  have e1 : copied (vp_cell (wcI w) (n0, .inl (σ.1 t))) (vp_cell (wcI w) (n1, .inl (σ.1 u))) sp dp n = vp_cell (wcI w) (n1, .inl (va_cpy (σ.1 t) (σ.1 u) sp.toNatClampNeg dp.toNatClampNeg n.toNatClampNeg)) := va_copied (fun z => .int z) (wcI w) (wcI w) (σ.1 t) (σ.1 u) (by omega)
  rw [e1] at X' step
  have hlt : wa w u < H.size := (Array.getElem?_eq_some_iff.mp hc1).1
  have hheap : ((T.setVm vm').setCell (wa w u) (vp_cell (wcI w) (n1, .inl (va_cpy (σ.1 t) (σ.1 u) sp.toNatClampNeg dp.toNatClampNeg n.toNatClampNeg)))).heap = H.setIfInBounds (wa w u) (vp_cell (wcI w) (n1, .inl (va_cpy (σ.1 t) (σ.1 u) sp.toNatClampNeg dp.toNatClampNeg n.toNatClampNeg))) := by rw [← hT]; rfl
  have oq : ∀ q : Nat, q ≠ wa w u → (H.setIfInBounds (wa w u) (vp_cell (wcI w) (n1, .inl (va_cpy (σ.1 t) (σ.1 u) sp.toNatClampNeg dp.toNatClampNeg n.toNatClampNeg))))[q]? = H[q]? := fun q hq => by simp [Array.getElem?_setIfInBounds, Ne.symm hq]
  obtain ⟨t2, a1, b1⟩ := kk _ _ ls (a.put (t := u) hku (σ' := wC σ t u (ix sp) (ix dp) (ix n)) a.2 (fun q h => by
      show ce w q ((wC σ t u (ix sp) (ix dp) (ix n)).1 q) _ _ = _
      rw [show (wC σ t u (ix sp) (ix dp) (ix n)).1 q = σ.1 q from if_neg h]; rfl) (by
      rw [show ceS w u (wC σ t u (ix sp) (ix dp) (ix n)) = _ from ce9 hk1, hl1, show (wC σ t u (ix sp) (ix dp) (ix n)).1 u = va_cpy (σ.1 t) (σ.1 u) (ix sp) (ix dp) (ix n) from if_pos rfl]
      show (H.setIfInBounds (wa w u) _)[wa w u]? = some _
      simp [Array.getElem?_setIfInBounds, hlt]) oq) ⟨by simp; exact b.1, fun q g1 g2 => by
      rw [oq q (fun e => g2 (by rw [e]; exact (a.1 u hku).2))]
      exact b.2.1 q g1 g2, fun q hq => by
      rcases List.mem_append.mp hq with h | h
      · exact b.2.2 q h
      · obtain ⟨z, -, hz⟩ := List.mem_map.mp h
        rw [← hz]
        exact (a.1 u hku).2⟩ c _ hheap X'
  exact ⟨t2, step t2 a1, b1⟩
