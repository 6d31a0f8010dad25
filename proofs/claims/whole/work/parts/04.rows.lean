-- ===== fields, arrays, calls, returns =====
/-- what the tables say of a class -/
def CI (ci : Nat) (C : String) (T : u_T) (N : Nat) : Prop := (∀ wd ∈ u_ws C T N, wd ∈ GT) ∧ vwCl[ci]? = some (C, T, N) ∧ (∃ ty : Nat → FieldType, ∀ k, k < N → parseFieldDescriptor (T k).2.2.1 = some (ty k)) ∧ ∀ a, a < N → ∀ b, b < N → a ≠ b → (T a).2.1 ≠ (T b).2.1
section WORLD
variable {w : Wp} {σ : St} {H H1 : Heap} {t : Nat}
theorem Wd.at (h : Wd w σ H) (hk : wK w t ≠ 0) : va_P (wD w) vwCl [(wa w t, ceS w t σ)] H := fun k q hq => by
  cases k with
  | zero => cases hq; exact (h.1 t hk).1
  | succ k => cases hq
theorem Wd.dis (h : Wd w σ H) (hk : wK w t ≠ 0) (e : va_E) : va_D (wA w) [(wa w t, e)] := by
  refine ⟨fun i j p q hp hq _ => ?_, fun k q hq => ?_⟩
  · have a : i < 1 := (List.getElem?_eq_some_iff.mp hp).1
    have b : j < 1 := (List.getElem?_eq_some_iff.mp hq).1
    omega
  · cases k with
    | zero => cases hq; exact (h.1 t hk).2
    | succ k => cases hq
/-- one cell is written, the others stay -/
theorem Wd.put (h : Wd w σ H) (ht : wK w t ≠ 0) {σ' : St} (hT : WT w σ') (hs : ∀ a, a ≠ t → ceS w a σ' = ceS w a σ) (he : va_at (wD w) vwCl (wa w t, ceS w t σ') H1) (oq : ∀ q : Nat, q ≠ wa w t → H1[q]? = H[q]?) : Wd w σ' H1 := by
  refine ⟨fun a ha => ⟨?_, (h.1 a ha).2⟩, hT⟩
  by_cases e : a = t
  · subst e; exact he
  · rw [hs a e]
    exact ((h.1 a ha).1).kept (oq _ (fun q => e (h.2.2.2 a t ha ht q)))
theorem wI_ne {k : Nat} {v : Int32} {a : Nat} (h : a ≠ t) : ceS w a (wI σ t k v) = ceS w a σ := by
  show ce w a ((wI σ t k v).1 a) _ _ = _
  rw [show (wI σ t k v).1 a = σ.1 a from if_neg h]; rfl
theorem wL_ne {k : Nat} {v : Int64} {a : Nat} (h : a ≠ t) : ceS w a (wL σ t k v) = ceS w a σ := by
  show ce w a _ ((wL σ t k v).2.1 a) _ = _
  rw [show (wL σ t k v).2.1 a = σ.2.1 a from if_neg h]; rfl
theorem wR_ne {k : Nat} {v : Option Nat} {a : Nat} (h : a ≠ t) : ceS w a (wR σ t k v) = ceS w a σ := by
  show ce w a _ _ ((wR σ t k v).2.2 a) = _
  rw [show (wR σ t k v).2.2 a = σ.2.2 a from if_neg h]; rfl
theorem wI_eq {k : Nat} {v : Int32} : (wI σ t k v).1 t = upd (σ.1 t) k v := if_pos rfl
theorem wL_eq {k : Nat} {v : Int64} : (wL σ t k v).2.1 t = vp_updL (σ.2.1 t) k v := if_pos rfl
theorem wR_eq {k : Nat} {v : Option Nat} : (wR σ t k v).2.2 t = va_up (σ.2.2 t) k v := if_pos rfl
theorem wR_WT {k : Nat} {v : Option Nat} (h : WT w σ) (hv : ∀ t', v = some t' → (wK w t = 11 → wK w t' = 1) ∧ (wK w t = 12 → wK w t' = 2)) : WT w (wR σ t k v) := by
  have key : ∀ a j t', (wR σ t k v).2.2 a j = some t' → σ.2.2 a j = some t' ∨ (a = t ∧ v = some t') := by
    intro a j t' h1
    by_cases e : a = t
    · subst e
      rw [wR_eq] at h1
      unfold va_up at h1
      split at h1
      · exact Or.inr ⟨rfl, h1⟩
      · exact Or.inl h1
    · rw [show (wR σ t k v).2.2 a = σ.2.2 a from if_neg e] at h1
      exact Or.inl h1
  refine ⟨fun a j t' h1 h2 => ?_, fun a j t' h1 h2 => ?_, h.2.2⟩
  · rcases key a j t' h2 with q | ⟨rfl, q⟩
    · exact h.1 a j t' h1 q
    · exact (hv t' q).1 h1
  · rcases key a j t' h2 with q | ⟨rfl, q⟩
    · exact h.2.1 a j t' h1 q
    · exact (hv t' q).2 h1
end WORLD
section ROWS2
variable {X : Cx} {w : Wp} {cc : ByteArray} {nL : Nat} {own : String} {ret : Option FieldType} {rm : Room} {Q : QI} {σ : St} {pc : Nat} {lv lv' : List (Nat × Value)} {rest : List Value}
/-- getfield -/
theorem r_get (hX : OK X w cc nL own ret rm Q) {t kd ci N index : Nat} {C ref : String} {T : u_T} {fs : List Value} (hC : CI ci C T N) (hk : wK w t = kd) (h0 : kd ≠ 0) (hce : ceS w t σ = .inr (ci, fs)) (k : Nat) (hkN : k < N) (hl : Cond.fieldLink own index ref (T k).2.1 (T k).2.2.1 ∈ GT) (hr : (T k).1 = ref) (hdg : decode cc pc = .ok (.getfield index, 3)) (v : Value) (hv : fs[k]? = some v) (kk : J X w nL σ (pc + 3) lv (v :: rest)) : J X w nL σ pc lv (rf w t :: rest) := fun H locs ls a b c => by
  have hP := a.at (t := t) (by rw [hk]; exact h0)
  rw [hce] at hP
  exact va_get hX.1 hX.2.1 hX.2.2.2.2.1 hC.1 hX.2.2.2.1 hX.2.2.2.2.2.1.1 hP 0 rfl hC.2.1 k hkN (hX.2.2.2.2.1 _ hl) (fun x h => by rw [hr] at h; exact h) hv hdg (kk H locs ls a b c)
/-- putfield, from the world's cell to the world's cell -/
theorem r_putG (hX : OK X w cc nL own ret rm Q) {t kd ci N index : Nat} {C ref : String} {T : u_T} {fs : List Value} {σ' : St} (hC : CI ci C T N) (hk : wK w t = kd) (h0 : kd ≠ 0) (hce : ceS w t σ = .inr (ci, fs)) (k : Nat) (hkN : k < N) (hl : Cond.fieldLink own index ref (T k).2.1 (T k).2.2.1 ∈ GT) (hr : (T k).1 = ref) (hfin : (T k).2.2.2 = false) {ty : FieldType} {v : Value} (hd : parseFieldDescriptor (T k).2.2.1 = some ty) (hn : narrow ty v = v) (hfit : fits ty v = true) (hlen : k < fs.length) (hdg : decode cc pc = .ok (.putfield index, 3))
    (hce' : ceS w t σ' = .inr (ci, fs.set k v)) (hT : WT w σ → WT w σ') (hs : ∀ a, a ≠ t → ceS w a σ' = ceS w a σ) (kk : J X w nL σ' (pc + 3) lv rest) : J X w nL σ pc lv (v :: rf w t :: rest) := fun H locs ls a b c => by
  have hk0 : wK w t ≠ 0 := by rw [hk]; exact h0
  have hP := a.at (t := t) hk0
  rw [hce] at hP
  obtain ⟨ty0, hty⟩ := hC.2.2.1
  have hap := va_apart (own := own) hX.2.2.2.2.1 hC.1 ty0 hty hC.2.2.2 hX.2.2.2.2.2.1.1 hC.2.1
  obtain ⟨r, h1, cell, q1, q2, q3, q4⟩ := hP 0 _ rfl
  have hr1 : r = (C, T, N) := Option.some.inj (h1.symm.trans hC.2.1)
  subst hr1
  obtain ⟨hS, hfc, kC, hkC, hkind⟩ := hX.2.2.2.2.2.1.1.1 ci _ hC.2.1
  obtain ⟨cf, kf, fi, f, hi, hsl⟩ := hS k hkN
  have hlay := hX.2.2.2.2.1 _ (hC.1 _ (u_in_lay hkN))
  unfold u_lay at hlay
  rw [if_neg (by rw [hfin]; decide)] at hlay
  have hst := (u_facts hfc hkC (u_lays hX.2.2.2.2.1 hC.1 hkN) hi).1
  have h6 := u_store hfc hkC hkind hlay hi hd hn hfit
  refine W.putK hX.1 hX.2.1 (f := f) ⟨hX.2.2.2.1, hX.2.2.2.2.1 _ hl, ⟨_, _, _, by rw [hr] at hi; exact hi⟩, hst⟩ (by rw [q2]; exact h6) q1 q3 (by rw [hsl]; exact k2_hasslot (q4 k hkN)) rfl rfl hdg fun H' e1 e2 e3 => ?_
  rw [hsl] at e1 ⊢
  refine kk H' _ ls (a.put (t := t) hk0 (hT a.2) hs ?_ e3) (b.put e2 e3 (a.1 t hk0).2) c
  rw [hce']
  exact ⟨_, hC.2.1, t_OB.to (V := updV (vp_V fs) k v) ⟨_, e1, q2, q3, t_set q4 hap hkN v⟩ (fun j _ => vp_updV_set hlen v j)⟩
theorem r_putI (hX : OK X w cc nL own ret rm Q) {t kd ci N index : Nat} {C ref : String} {T : u_T} {fs : Wp → Nat → (Nat → Int32) → (Nat → Int64) → List Value} (hC : CI ci C T N) (hk : wK w t = kd) (h0 : kd ≠ 0) (hce : ∀ i l r, ce w t i l r = .inr (ci, fs w t i l)) (k : Nat) (hkN : k < N) (hl : Cond.fieldLink own index ref (T k).2.1 (T k).2.2.1 ∈ GT) (hr : (T k).1 = ref) (hfin : (T k).2.2.2 = false) {v : Int32} (hd : parseFieldDescriptor (T k).2.2.1 = some .int) (hlen : ∀ i l, k < (fs w t i l).length) (hdg : decode cc pc = .ok (.putfield index, 3))
    (hs : ∀ i l, fs w t (upd i k v) l = (fs w t i l).set k (.int v)) (kk : J X w nL (wI σ t k v) (pc + 3) lv rest) : J X w nL σ pc lv (.int v :: rf w t :: rest) :=
  r_putG (σ' := wI σ t k v) hX hC hk h0 (hce _ _ _) k hkN hl hr hfin hd rfl rfl (hlen _ _) hdg (by show ce w t ((wI σ t k v).1 t) _ _ = _; rw [hce, wI_eq, hs]; rfl) (fun h => h) (fun a h => wI_ne h) kk
theorem r_putL (hX : OK X w cc nL own ret rm Q) {t kd ci N index : Nat} {C ref : String} {T : u_T} {fs : Wp → Nat → (Nat → Int32) → (Nat → Int64) → List Value} (hC : CI ci C T N) (hk : wK w t = kd) (h0 : kd ≠ 0) (hce : ∀ i l r, ce w t i l r = .inr (ci, fs w t i l)) (k : Nat) (hkN : k < N) (hl : Cond.fieldLink own index ref (T k).2.1 (T k).2.2.1 ∈ GT) (hr : (T k).1 = ref) (hfin : (T k).2.2.2 = false) {v : Int64} (hd : parseFieldDescriptor (T k).2.2.1 = some .long) (hlen : ∀ i l, k < (fs w t i l).length) (hdg : decode cc pc = .ok (.putfield index, 3))
    (hs : ∀ i l, fs w t i (vp_updL l k v) = (fs w t i l).set k (.long v)) (kk : J X w nL (wL σ t k v) (pc + 3) lv rest) : J X w nL σ pc lv (.long v :: rf w t :: rest) :=
  r_putG (σ' := wL σ t k v) hX hC hk h0 (hce _ _ _) k hkN hl hr hfin hd rfl rfl (hlen _ _) hdg (by show ce w t _ ((wL σ t k v).2.1 t) _ = _; rw [hce, wL_eq, hs]; rfl) (fun h => h) (fun a h => wL_ne h) kk
/-- int arrays -/
theorem r_iald (hX : OK X w cc nL own ret rm Q) {t n : Nat} {i : Int32} (hk : wK w t = 9) (hn : wl w t = n) (hin : vp_in i n) (hdg : decode cc pc = .ok (.iaload, 1)) (kk : J X w nL σ (pc + 1) lv (.int (σ.1 t (ix i)) :: rest)) : J X w nL σ pc lv (.int i :: rf w t :: rest) := fun H locs ls a b c => by
  have hP := a.at (t := t) (by rw [hk]; decide)
  rw [show ceS w t σ = _ from ce9 hk, hn] at hP
  exact va_iald hX.1 hX.2.1 hX.2.2.2.2.2.1.1 hP 0 0 rfl rfl hin hdg (kk H locs ls a b c)
theorem r_lald (hX : OK X w cc nL own ret rm Q) {t n : Nat} {i : Int32} (hk : wK w t = 10) (hn : wl w t = n) (hin : vp_in i n) (hdg : decode cc pc = .ok (.laload, 1)) (kk : J X w nL σ (pc + 1) lv (.long (σ.2.1 t (ix i)) :: rest)) : J X w nL σ pc lv (.int i :: rf w t :: rest) := fun H locs ls a b c => by
  have hP := a.at (t := t) (by rw [hk]; decide)
  rw [show ceS w t σ = _ from ce10 hk, hn] at hP
  exact va_lald hX.1 hX.2.1 hX.2.2.2.2.2.1.1 hP 0 1 rfl rfl hin hdg (kk H locs ls a b c)
theorem r_iast (hX : OK X w cc nL own ret rm Q) {t n : Nat} {i x : Int32} (hk : wK w t = 9) (hn : wl w t = n) (hin : vp_in i n) (hdg : decode cc pc = .ok (.iastore, 1)) (kk : J X w nL (wI σ t (ix i) x) (pc + 1) lv rest) : J X w nL σ pc lv (.int x :: .int i :: rf w t :: rest) := fun H locs ls a b c => by
  have hk0 : wK w t ≠ 0 := by rw [hk]; decide
  have hP := (a.1 t hk0).1
  rw [show ceS w t σ = _ from ce9 hk, hn] at hP
  refine W.iast hX.1 hX.2.1 hP ((hX.2.2.2.2.2.1.1.2 0 _ rfl).1 n (fun j => .int (σ.1 t j))) (fun q => by cases q) (by show ¬ (i < 0 ∨ (arrV _ _ _).slots.size ≤ _); rw [arrV_size]; exact hin) rfl rfl hdg fun H1 e z oq => ?_
  refine kk H1 _ ls (a.put (t := t) hk0 a.2 (fun a h => wI_ne h) ?_ oq) (b.put z oq (a.1 t hk0).2) c
  rw [show ceS w t (wI σ t (ix i) x) = _ from ce9 hk, hn, wI_eq]
  show H1[wa w t]? = some (vp_cell _ _)
  rw [e, vp_cell_i, vp_cell_i, arrV_store]
  congr 2
  funext q
  by_cases hq : q = i.toNatClampNeg
  · subst hq
    simp [updV, upd]
  · simp [updV, upd, hq]
theorem r_last (hX : OK X w cc nL own ret rm Q) {t n : Nat} {i : Int32} {x : Int64} (hk : wK w t = 10) (hn : wl w t = n) (hin : vp_in i n) (hdg : decode cc pc = .ok (.lastore, 1)) (kk : J X w nL (wL σ t (ix i) x) (pc + 1) lv rest) : J X w nL σ pc lv (.long x :: .int i :: rf w t :: rest) := fun H locs ls a b c => by
  have hk0 : wK w t ≠ 0 := by rw [hk]; decide
  have hP := (a.1 t hk0).1
  rw [show ceS w t σ = _ from ce10 hk, hn] at hP
  refine W.last hX.1 hX.2.1 hP ((hX.2.2.2.2.2.1.1.2 1 _ rfl).1 n (fun j => .long (σ.2.1 t j))) (fun q => by cases q) (by show ¬ (i < 0 ∨ (arrV _ _ _).slots.size ≤ _); rw [arrV_size]; exact hin) rfl rfl hdg fun H1 e z oq => ?_
  refine kk H1 _ ls (a.put (t := t) hk0 a.2 (fun a h => wL_ne h) ?_ oq) (b.put z oq (a.1 t hk0).2) c
  rw [show ceS w t (wL σ t (ix i) x) = _ from ce10 hk, hn, wL_eq]
  show H1[wa w t]? = some (vp_cell _ _)
  rw [e, vp_cell_l, vp_cell_l, arrV_store]
  congr 2
  funext q
  by_cases hq : q = i.toNatClampNeg
  · subst hq
    simp [updV, vp_updL]
  · simp [updV, vp_updL, hq]
/-- arrays of references -/
theorem r_aldF (hX : OK X w cc nL own ret rm Q) {t n : Nat} {i : Int32} (hk : wK w t = 11) (hn : wl w t = n) (hin : vp_in i n) (hdg : decode cc pc = .ok (.aaload, 1)) (kk : ∀ o, o = σ.2.2 t (ix i) → (∀ t', o = some t' → wK w t' = 1) → J X w nL σ (pc + 1) lv (rv w o :: rest)) : J X w nL σ pc lv (.int i :: rf w t :: rest) := fun H locs ls a b c => by
  have hP := a.at (t := t) (by rw [hk]; decide)
  rw [show ceS w t σ = _ from ce11 hk, hn] at hP
  exact va_aldq hX.1 hX.2.1 hX.2.2.2.2.2.1.1 hP 0 2 rfl rfl hin hdg (kk _ rfl (fun t' h => a.2.1 t _ t' hk h) H locs ls a b c)
theorem r_aldM (hX : OK X w cc nL own ret rm Q) {t n : Nat} {i : Int32} (hk : wK w t = 12) (hn : wl w t = n) (hin : vp_in i n) (hdg : decode cc pc = .ok (.aaload, 1)) (kk : ∀ o, o = σ.2.2 t (ix i) → (∀ t', o = some t' → wK w t' = 2) → J X w nL σ (pc + 1) lv (rv w o :: rest)) : J X w nL σ pc lv (.int i :: rf w t :: rest) := fun H locs ls a b c => by
  have hP := a.at (t := t) (by rw [hk]; decide)
  rw [show ceS w t σ = _ from ce12 hk, hn] at hP
  exact va_aldq hX.1 hX.2.1 hX.2.2.2.2.2.1.1 hP 0 3 rfl rfl hin hdg (kk _ rfl (fun t' h => a.2.2.1 t _ t' hk h) H locs ls a b c)
theorem cellq (w : Wp) (f : Nat → Option Nat) (cA : ClassId) (n j : Nat) (o : Option Nat) : (arrV cA n (fun q => va_rf ((f q).map (wa w)))).setSlot j (va_rf (o.map (wa w))) = arrV cA n (fun q => va_rf ((va_up f j o q).map (wa w))) := by
  rw [arrV_store]
  congr 1
  funext q
  by_cases hq : q = j
  · subst hq
    simp [updV, va_up]
  · simp [updV, va_up, hq]
theorem r_astM (hX : OK X w cc nL own ret rm Q) {t n : Nat} {i : Int32} {o : Option Nat} (hk : wK w t = 12) (hn : wl w t = n) (hin : vp_in i n) (ho : ∀ t', o = some t' → wK w t' = 2) (hdg : decode cc pc = .ok (.aastore, 1)) (kk : J X w nL (wR σ t (ix i) o) (pc + 1) lv rest) : J X w nL σ pc lv (rv w o :: .int i :: rf w t :: rest) := fun H locs ls a b c => by
  have hk0 : wK w t ≠ 0 := by rw [hk]; decide
  have hK := hX.2.2.2.2.2.1.1
  have hP := (a.1 t hk0).1
  rw [show ceS w t σ = _ from ce12 hk, hn] at hP
  have hlt : i.toNatClampNeg < n := Nat.not_le.mp fun q => hin (Or.inr q)
  have h0 : ¬ i < 0 := fun q => hin (Or.inl q)
  have hWT : WT w (wR σ t (ix i) o) := wR_WT a.2 (fun t' h => ⟨fun q => absurd (hk.symm.trans q) (by decide), fun _ => ho t' h⟩)
  have fin : ∀ (H1 : Heap) (locs1 : List Loc), H1[wa w t]? = some ((vp_cell (wcM w) (n, .inr (.inr (.inr (.inr (fun j => (σ.2.2 t j).map (wa w))))))).setSlot (ix i) (rv w o)) → (∀ q : Nat, q ≠ wa w t → H1[q]? = H[q]?) → va_S (wA w) (xs X).heap H1 locs1 → W (xp X) (xl X) (xe X) (xR X) (xs X) (xm X) (xa X) (xb X) (xM X) (xc X) H1 locs1 (xcl X) (xsl X) (xQ X) (F0 (xm X) (pc + 1) ls rest) := by
    intro H1 locs1 e oq hS1
    refine kk H1 locs1 ls (a.put (t := t) hk0 hWT (fun a h => wR_ne h) ?_ oq) hS1 c
    rw [show ceS w t (wR σ t (ix i) o) = _ from ce12 hk, hn, wR_eq]
    show H1[wa w t]? = some (vp_cell _ _)
    rw [e, vp_cell_q, vp_cell_q]
    exact congrArg some (cellq w _ _ n _ o)
  cases o with
  | none =>
    exact va_WaastN (C := "JointedShadows$Move") hX.1 hX.2.1 hP ((hK.2 3 _ rfl).1 n (fun j => va_rf ((σ.2.2 t j).map (wa w)))) (fun h => by cases h) (by show ¬ (i < 0 ∨ (arrV _ _ _).slots.size ≤ _); rw [arrV_size]; exact hin) rfl rfl hdg fun H1 e z oq => fin H1 _ e oq (b.put z oq (a.1 t hk0).2)
  | some v =>
    have hkv := ho v rfl
    have hPv := (a.1 v (by rw [hkv]; decide)).1
    rw [show ceS w v σ = _ from ce2 hkv] at hPv
    obtain ⟨r', hr', cellV, g1, g2, g3, -⟩ := hPv
    have hcls := (hK.1 1 _ rfl).2
    obtain ⟨kA, comp, k1, k2, k3, -⟩ := (hK.2 3 _ rfl).2
    have hcomp : comp = (wD w).1 1 := Option.some.inj (k3.symm.trans hcls.1)
    subst hcomp
    obtain ⟨kC, hkC, hkk⟩ := hcls.2
    refine W.aast hX.1 hX.2.1 hP (fun q h => by cases h) (fun h => by cases h) k1 k2 rfl hkC ⟨h0, by show _ < (arrV _ _ _).slots.size; rw [arrV_size]; exact hlt⟩ g1 (fun q h => by rw [g3] at h; cases h) (by rw [g2]; exact hkC) (by rw [g2]; exact va_assign hcls) rfl rfl hdg fun H1 e z oq => ?_
    exact fin H1 _ e oq (b.put z oq (a.1 t hk0).2)
theorem r_astF (hX : OK X w cc nL own ret rm Q) {t n : Nat} {i : Int32} {o : Option Nat} (hk : wK w t = 11) (hn : wl w t = n) (hin : vp_in i n) (ho : ∀ t', o = some t' → wK w t' = 1) (hdg : decode cc pc = .ok (.aastore, 1)) (kk : J X w nL (wR σ t (ix i) o) (pc + 1) lv rest) : J X w nL σ pc lv (rv w o :: .int i :: rf w t :: rest) := fun H locs ls a b c => by
  have hk0 : wK w t ≠ 0 := by rw [hk]; decide
  have hK := hX.2.2.2.2.2.1.1
  have hP := (a.1 t hk0).1
  rw [show ceS w t σ = _ from ce11 hk, hn] at hP
  have hlt : i.toNatClampNeg < n := Nat.not_le.mp fun q => hin (Or.inr q)
  have h0 : ¬ i < 0 := fun q => hin (Or.inl q)
  have hWT : WT w (wR σ t (ix i) o) := wR_WT a.2 (fun t' h => ⟨fun _ => ho t' h, fun q => absurd (hk.symm.trans q) (by decide)⟩)
  have fin : ∀ (H1 : Heap) (locs1 : List Loc), H1[wa w t]? = some ((vp_cell (wcF w) (n, .inr (.inr (.inr (.inr (fun j => (σ.2.2 t j).map (wa w))))))).setSlot (ix i) (rv w o)) → (∀ q : Nat, q ≠ wa w t → H1[q]? = H[q]?) → va_S (wA w) (xs X).heap H1 locs1 → W (xp X) (xl X) (xe X) (xR X) (xs X) (xm X) (xa X) (xb X) (xM X) (xc X) H1 locs1 (xcl X) (xsl X) (xQ X) (F0 (xm X) (pc + 1) ls rest) := by
    intro H1 locs1 e oq hS1
    refine kk H1 locs1 ls (a.put (t := t) hk0 hWT (fun a h => wR_ne h) ?_ oq) hS1 c
    rw [show ceS w t (wR σ t (ix i) o) = _ from ce11 hk, hn, wR_eq]
    show H1[wa w t]? = some (vp_cell _ _)
    rw [e, vp_cell_q, vp_cell_q]
    exact congrArg some (cellq w _ _ n _ o)
  cases o with
  | none =>
    exact va_WaastN (C := "JointedShadows$Figure") hX.1 hX.2.1 hP ((hK.2 2 _ rfl).1 n (fun j => va_rf ((σ.2.2 t j).map (wa w)))) (fun h => by cases h) (by show ¬ (i < 0 ∨ (arrV _ _ _).slots.size ≤ _); rw [arrV_size]; exact hin) rfl rfl hdg fun H1 e z oq => fin H1 _ e oq (b.put z oq (a.1 t hk0).2)
  | some v =>
    have hkv := ho v rfl
    have hPv := (a.1 v (by rw [hkv]; decide)).1
    rw [show ceS w v σ = _ from ce1 hkv] at hPv
    obtain ⟨r', hr', cellV, g1, g2, g3, -⟩ := hPv
    have hcls := (hK.1 0 _ rfl).2
    obtain ⟨kA, comp, k1, k2, k3, -⟩ := (hK.2 2 _ rfl).2
    have hcomp : comp = (wD w).1 0 := Option.some.inj (k3.symm.trans hcls.1)
    subst hcomp
    obtain ⟨kC, hkC, hkk⟩ := hcls.2
    refine W.aast hX.1 hX.2.1 hP (fun q h => by cases h) (fun h => by cases h) k1 k2 rfl hkC ⟨h0, by show _ < (arrV _ _ _).slots.size; rw [arrV_size]; exact hlt⟩ g1 (fun q h => by rw [g3] at h; cases h) (by rw [g2]; exact hkC) (by rw [g2]; exact va_assign hcls) rfl rfl hdg fun H1 e z oq => ?_
    exact fin H1 _ e oq (b.put z oq (a.1 t hk0).2)
theorem r_alen (hX : OK X w cc nL own ret rm Q) {t n t0 : Nat} {cA : ClassId} {x : vp_A} {ty : FieldType} (hk : wK w t ≠ 0) (hce : ceS w t σ = .inl (cA, x)) (ht : (TYS w)[t0]? = some (cA, ty)) (hn : x.1 = n) {v : Int32} (hv : Int32.ofNat n = v) (hdg : decode cc pc = .ok (.arraylength, 1)) (kk : J X w nL σ (pc + 1) lv (.int v :: rest)) : J X w nL σ pc lv (rf w t :: rest) := fun H locs ls a b c => by
  have hP := a.at (t := t) hk
  rw [hce] at hP
  exact va_alen hX.1 hX.2.1 hX.2.2.2.2.2.1.1 hP 0 t0 rfl ht (by rw [hn]; exact hv) hdg (kk H locs ls a b c)
/-- the two static tables -/
theorem r_stepX (hX : OK X w cc nL "JointedShadows$Pose" ret rm Q) (hdg : decode cc pc = .ok (.getstatic 124, 3)) (kk : ∀ a, va_T .int a 8 (fun j => .int (stX j)) (wA w) (xs X) (xs X).heap → J X w nL σ (pc + 3) lv (.ref a :: rest)) : J X w nL σ pc lv rest := fun H locs ls a b c => by
  obtain ⟨x, y, h1, h2, -, -⟩ := hX.2.2.2.2.2.1.2.2.1
  exact va_getsN hX.1 hX.2.1 h1 b hX.2.2.2.1 (va_Nw.use rfl hX.2.2.2.2.2.1.2.1.2.1) (fun _ h => h) hdg (kk x h2 H locs ls a b c)
theorem r_stepY (hX : OK X w cc nL "JointedShadows$Pose" ret rm Q) (hdg : decode cc pc = .ok (.getstatic 127, 3)) (kk : ∀ a, va_T .int a 8 (fun j => .int (stY j)) (wA w) (xs X) (xs X).heap → J X w nL σ (pc + 3) lv (.ref a :: rest)) : J X w nL σ pc lv rest := fun H locs ls a b c => by
  obtain ⟨x, y, -, -, h1, h2⟩ := hX.2.2.2.2.2.1.2.2.1
  exact va_getsN hX.1 hX.2.1 h1 b hX.2.2.2.1 (va_Nw.use rfl hX.2.2.2.2.2.1.2.1.2.2) (fun _ h => h) hdg (kk y h2 H locs ls a b c)
theorem r_tald (hX : OK X w cc nL own ret rm Q) {q : Nat} {f : Nat → Int32} (hT : va_T .int q 8 (fun j => .int (f j)) (wA w) (xs X) (xs X).heap) {i : Int32} (hin : vp_in i 8) (hdg : decode cc pc = .ok (.iaload, 1)) (kk : J X w nL σ (pc + 1) lv (.int (f (ix i)) :: rest)) : J X w nL σ pc lv (.int i :: .ref q :: rest) := fun H locs ls a b c =>
  va_ti hX.1 hX.2.1 hT b hin rfl hdg (kk H locs ls a b c)
/-- returns -/
theorem r_iret {r : Int32} (hX : OK X w cc nL own (some .int) rm (Qi w σ r)) (hdg : decode cc pc = .ok (.ireturn, 1)) : J X w nL σ pc lv [.int r] := fun H locs ls a b c => by
  obtain ⟨h1, h2, -, -, -, -, h3, h4, -, h5, h6, h7⟩ := hX
  rw [h5]
  refine W.widen h6 h7 ?_
  exact W.iret h1 h2 h3 (fun t ht _ => ⟨⟨_, (), rfl, rfl, by show Wd w σ t.heap; rw [ht]; exact a⟩, b.F ht⟩) b.2.2 hdg h4
theorem r_zret {r : Int32} (hX : OK X w cc nL own (some .boolean) rm (Qz w σ r)) (hz : Bz r) (hdg : decode cc pc = .ok (.ireturn, 1)) : J X w nL σ pc lv [.int r] := fun H locs ls a b c => by
  obtain ⟨h1, h2, -, -, -, -, h3, h4, -, h5, h6, h7⟩ := hX
  rw [h5]
  refine W.widen h6 h7 ?_
  exact W.zret h1 h2 h3 hz (fun t ht _ => ⟨⟨_, (), rfl, ⟨rfl, hz⟩, by show Wd w σ t.heap; rw [ht]; exact a⟩, b.F ht⟩) b.2.2 hdg h4
theorem r_lret {r : Int64} (hX : OK X w cc nL own (some .long) rm (Ql w σ r)) (hdg : decode cc pc = .ok (.lreturn, 1)) : J X w nL σ pc lv [.long r] := fun H locs ls a b c => by
  obtain ⟨h1, h2, -, -, -, -, h3, h4, -, h5, h6, h7⟩ := hX
  rw [h5]
  refine W.widen h6 h7 ?_
  exact W.lret h1 h2 h3 (fun t ht _ => ⟨⟨_, (), rfl, rfl, by show Wd w σ t.heap; rw [ht]; exact a⟩, b.F ht⟩) b.2.2 hdg (hlocks := h4)
theorem r_vret (hX : OK X w cc nL own none rm (Qv w σ)) (hdg : decode cc pc = .ok (.return_, 1)) : J X w nL σ pc lv [] := fun H locs ls a b c => by
  obtain ⟨h1, h2, -, -, -, -, h3, h4, -, h5, h6, h7⟩ := hX
  rw [h5]
  refine W.widen h6 h7 ?_
  exact W.vret h1 h2 h3 (fun t ht _ => ⟨⟨(), rfl, trivial, by show Wd w σ t.heap; rw [ht]; exact a⟩, b.F ht⟩) b.2.2 hdg h4
theorem r_aret {r : Option Nat} {kd : Nat} {cn : String} (hX : OK X w cc nL own (some (.object cn)) rm (Qq w σ kd r)) (ht : ∀ t, r = some t → wK w t = kd) (hdg : decode cc pc = .ok (.areturn, 1)) : J X w nL σ pc lv [rv w r] := fun H locs ls a b c => by
  obtain ⟨h1, h2, -, -, -, -, h3, h4, -, h5, h6, h7⟩ := hX
  rw [h5]
  refine W.widen h6 h7 ?_
  exact W.aret h1 h2 h3 (Or.inl ⟨_, rfl⟩) (va_rf_or _) (fun t he _ => ⟨⟨_, (), rfl, ⟨rfl, ht⟩, by show Wd w σ t.heap; rw [he]; exact a⟩, b.F he⟩) b.2.2 hdg h4
end ROWS2
