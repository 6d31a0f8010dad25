-- ===== what is made on the way: a Figure with its three rows, a Move =====
def wrow (σ : St) (t : Nat) (f : Nat → Int32) : St := (va_up σ.1 t f, σ.2)
def Ext (w0 w : Wp) (b : Nat) : Prop := (wA w = wA w0 ∧ wD w = wD w0 ∧ wcI w = wcI w0 ∧ wcJ w = wcJ w0 ∧ wcF w = wcF w0 ∧ wcM w = wcM w0) ∧ (∀ c, wK w0 c ≠ 0 → wa w c = wa w0 c ∧ wK w c = wK w0 c ∧ wl w c = wl w0 c) ∧ ∀ c, wK w c ≠ 0 → wK w0 c ≠ 0 ∨ (b ≤ c ∧ c < b + 4)
theorem Ext.refl (w : Wp) (b : Nat) : Ext w w b := ⟨⟨rfl, rfl, rfl, rfl, rfl, rfl⟩, fun _ _ => ⟨rfl, rfl, rfl⟩, fun _ h => Or.inl h⟩
/-- an answer in a world that has grown -/
def QE (w0 : Wp) (b : Nat) (σ : St) (r : Int32) : QI := va_Qi (fun r' (w' : Wp) => r' = r ∧ Ext w0 w' b ∧ CW w') (fun w' t => Wd w' σ t.heap) (wA w0)
/-- a world in which the tag t has another kind, length and address -/
def setw (w : Wp) (t k n q : Nat) : Wp := (wA w, va_up (wa w) t q, va_up (wK w) t k, va_up (wl w) t n, wD w, wcI w, wcJ w, wcF w, wcM w)
theorem up_keep {f : Nat → Nat} {c t k v : Nat} (h : f c = k) (hk : k ≠ 0) (ht : f t = 0) : va_up f t v c = k := by
  rw [va_up_ne]
  · exact h
  · intro e; subst e; omega
theorem up_keepl {f g : Nat → Nat} {c t k n v : Nat} (h : f c = k) (hk : k ≠ 0) (ht : f t = 0) (hg : g c = n) : va_up g t v c = n := by
  rw [va_up_ne]
  · exact hg
  · intro e; subst e; omega
theorem CW.fresh {w : Wp} {t k n q : Nat} (h : CW w) (ht : wK w t = 0) (h1 : k ≠ 1) (h3 : k ≠ 3) : CW (setw w t k n q) := by
  have key : ∀ c m, wK w c = m → m ≠ 0 → va_up (wK w) t k c = m := fun c m a b => up_keep a b ht
  have keyl : ∀ c m i, wK w c = m → m ≠ 0 → wl w c = i → va_up (wl w) t n c = i := fun c m i a b e => up_keepl a b ht e
  refine ⟨up_keep (CK0 h) (by decide) ht, up_keep (CK1 h) (by decide) ht, up_keepl (CK1 h) (by decide) ht (CL1 h), up_keep (CK2 h) (by decide) ht, up_keep (CK3 h) (by decide) ht, up_keepl (CK3 h) (by decide) ht (CL3 h), up_keep (CK4 h) (by decide) ht, up_keep (CK5 h) (by decide) ht, up_keepl (CK5 h) (by decide) ht (CL5 h), up_keep (CK6 h) (by decide) ht, up_keepl (CK6 h) (by decide) ht (CL6 h), up_keep (CK7 h) (by decide) ht, up_keep (CK8 h) (by decide) ht, up_keepl (CK8 h) (by decide) ht (CL8 h), up_keep (CK9 h) (by decide) ht, up_keepl (CK9 h) (by decide) ht (CL9 h), up_keep (CK10 h) (by decide) ht, up_keepl (CK10 h) (by decide) ht (CL10 h), up_keep (CK11 h) (by decide) ht, up_keepl (CK11 h) (by decide) ht (CL11 h), up_keep (CK12 h) (by decide) ht, up_keep (CK13 h) (by decide) ht, up_keepl (CK13 h) (by decide) ht (CL13 h), up_keep (CK14 h) (by decide) ht, up_keepl (CK14 h) (by decide) ht (CL14 h), up_keep (CK15 h) (by decide) ht, up_keepl (CK15 h) (by decide) ht (CL15 h), up_keep (CK16 h) (by decide) ht, up_keepl (CK16 h) (by decide) ht (CL16 h), up_keep (CK17 h) (by decide) ht, up_keep (CK18 h) (by decide) ht, fun c hc => ?_, fun c hc => ?_⟩
  · have hc : va_up (wK w) t k c = 1 := hc
    have e : c ≠ t := fun e => by rw [e, va_up_self] at hc; exact h1 hc
    rw [va_up_ne _ _ e] at hc
    exact ⟨key _ 9 (CFk1 h hc) (by decide), keyl _ 9 8 (CFk1 h hc) (by decide) (CFl1 h hc), key _ 9 (CFk2 h hc) (by decide), keyl _ 9 8 (CFk2 h hc) (by decide) (CFl2 h hc), key _ 9 (CFk3 h hc) (by decide), keyl _ 9 8 (CFk3 h hc) (by decide) (CFl3 h hc)⟩
  · have hc : va_up (wK w) t k c = 3 := hc
    have e : c ≠ t := fun e => by rw [e, va_up_self] at hc; exact h3 hc
    rw [va_up_ne _ _ e] at hc
    exact ⟨key _ 9 (CPk1 h hc) (by decide), keyl _ 9 8 (CPk1 h hc) (by decide) (CPl1 h hc), key _ 9 (CPk2 h hc) (by decide), keyl _ 9 9 (CPk2 h hc) (by decide) (CPl2 h hc), key _ 9 (CPk3 h hc) (by decide), keyl _ 9 9 (CPk3 h hc) (by decide) (CPl3 h hc), key _ 9 (CPk4 h hc) (by decide), keyl _ 9 9 (CPk4 h hc) (by decide) (CPl4 h hc)⟩
/-- a cell looks the same in a world that differs only from b on -/
theorem ce_ext {w w' : Wp} {c b : Nat} {i : Nat → Int32} {l : Nat → Int64} {r : Nat → Option Nat} (hc : c + 24 ≤ b) (ha : ∀ x, x < b → wa w' x = wa w x) (hK : wK w' c = wK w c) (hl : wl w' c = wl w c) (h1 : wcI w' = wcI w) (h2 : wcJ w' = wcJ w) (h3 : wcF w' = wcF w) (h4 : wcM w' = wcM w) (hr : wK w c = 11 ∨ wK w c = 12 → ∀ j t', r j = some t' → t' < b) : ce w' c i l r = ce w c i l r := by
  have e : ∀ k, k < 24 → rf w' (c + k) = rf w (c + k) := fun k hk => congrArg Value.ref (ha _ (by omega))
  have er : (wK w c = 11 ∨ wK w c = 12) → (fun j => (r j).map (wa w')) = (fun j => (r j).map (wa w)) := fun h => by
    funext j
    cases hj : r j with
    | none => rfl
    | some t' => simp only [Option.map_some]; rw [ha t' (hr h j t' hj)]
  unfold ce
  rw [hK, hl, h1, h2, h3, h4]
  unfold fs0 fs1 fs2 fs3 fs4 fs5 fs6 fs7
  rw [e 1 (by decide), e 2 (by decide), e 3 (by decide), e 4 (by decide), e 5 (by decide), e 6 (by decide), e 7 (by decide), e 8 (by decide), e 9 (by decide), e 10 (by decide), e 11 (by decide), e 12 (by decide), e 13 (by decide), e 14 (by decide), e 15 (by decide), e 16 (by decide), e 17 (by decide), e 18 (by decide), e 19 (by decide), e 20 (by decide), e 21 (by decide), e 22 (by decide), e 23 (by decide)]
  split <;> first | rfl | skip
  · rw [er (Or.inl (by assumption))]
  · rw [er (Or.inr (by assumption))]
/-- the tags from b on are free -/
def Fre (w : Wp) (b : Nat) : Prop := ∀ c, wK w c ≠ 0 → c + 24 ≤ b
theorem Fre.z {w : Wp} {b c : Nat} (h : Fre w b) (hc : b ≤ c) : wK w c = 0 := Classical.byContradiction fun e => by have := h c e; omega
theorem Wd.lt {w : Wp} {σ : St} {H : Heap} (h : Wd w σ H) {c : Nat} (hc : wK w c ≠ 0) : wa w c < H.size := ((h.1 c hc).1).lt
/-- a world that differs from b on -/
theorem Wd.grow {w w' : Wp} {σ σ' : St} {H H1 : Heap} (b : Nat) (h : Wd w σ H) (hs : wA w' = wA w ∧ wD w' = wD w ∧ wcI w' = wcI w ∧ wcJ w' = wcJ w ∧ wcF w' = wcF w ∧ wcM w' = wcM w) (hkb : wK w b ≠ 1 ∧ wK w b ≠ 2) (hold : ∀ c, wK w c ≠ 0 → c ≠ b → c + 24 ≤ b) (hsm : ∀ c, c < b → wK w' c = wK w c ∧ wl w' c = wl w c ∧ wa w' c = wa w c ∧ σ'.1 c = σ.1 c ∧ σ'.2.1 c = σ.2.1 c ∧ σ'.2.2 c = σ.2.2 c)
    (hnew : ∀ c, b ≤ c → wK w' c ≠ 0 → va_at (wD w') vwCl (wa w' c, ceS w' c σ') H1 ∧ wA w' (wa w' c) ∧ wK w' c ≠ 11 ∧ wK w' c ≠ 12) (ho : ∀ c, wK w c ≠ 0 → c ≠ b → H1[wa w c]? = H[wa w c]?) (hinj : ∀ t t', wK w' t ≠ 0 → wK w' t' ≠ 0 → b ≤ t → wa w' t = wa w' t' → t = t') : Wd w' σ' H1 := by
  obtain ⟨sA, sD, s1, s2, s3, s4⟩ := hs
  have old : ∀ c, c < b → wK w' c ≠ 0 → wK w c ≠ 0 ∧ c ≠ b := fun c hc hk => ⟨by rw [← (hsm c hc).1]; exact hk, by omega⟩
  have typ : ∀ t', wK w t' = 1 ∨ wK w t' = 2 → t' < b := fun t' ht => by
    have h0 : wK w t' ≠ 0 := by rcases ht with ht | ht <;> rw [ht] <;> decide
    have h1 : t' ≠ b := fun e => by subst e; rcases ht with ht | ht; exact hkb.1 ht; exact hkb.2 ht
    have := hold t' h0 h1
    omega
  refine ⟨fun c hc => ?_, ?_, ?_, ?_⟩
  · by_cases e : c < b
    · obtain ⟨k1, k2⟩ := old c e hc
      obtain ⟨g1, g2, g3, g4, g5, g6⟩ := hsm c e
      have q := h.1 c k1
      have ec : ceS w' c σ' = ceS w c σ := by
        show ce w' c (σ'.1 c) (σ'.2.1 c) (σ'.2.2 c) = _
        rw [g4, g5, g6]
        refine ce_ext (b := b) (hold c k1 k2) (fun x hx => (hsm x hx).2.2.1) g1 g2 s1 s2 s3 s4 (fun hh j t' hj => typ t' ?_)
        rcases hh with hh | hh
        · exact Or.inl (h.2.1 c j t' hh hj)
        · exact Or.inr (h.2.2.1 c j t' hh hj)
      rw [ec, g3, sD, sA]
      exact ⟨q.1.kept (ho c k1 k2), q.2⟩
    · obtain ⟨a1, a2, -⟩ := hnew c (by omega) hc
      exact ⟨a1, a2⟩
  · intro c j t' h2 h3
    have e : c < b := Nat.not_le.mp fun e => (hnew c e (by rw [h2]; decide)).2.2.1 h2
    obtain ⟨g1, g2, g3, g4, g5, g6⟩ := hsm c e
    rw [g1] at h2
    rw [g6] at h3
    have h4 := h.2.1 c j t' h2 h3
    rw [(hsm t' (typ t' (Or.inl h4))).1]
    exact h4
  · intro c j t' h2 h3
    have e : c < b := Nat.not_le.mp fun e => (hnew c e (by rw [h2]; decide)).2.2.2 h2
    obtain ⟨g1, g2, g3, g4, g5, g6⟩ := hsm c e
    rw [g1] at h2
    rw [g6] at h3
    have h4 := h.2.2.1 c j t' h2 h3
    rw [(hsm t' (typ t' (Or.inr h4))).1]
    exact h4
  · intro c c' hc hc' e
    by_cases e1 : b ≤ c
    · exact hinj c c' hc hc' e1 e
    · by_cases e2 : b ≤ c'
      · exact (hinj c' c hc' hc e2 e.symm).symm
      · rw [(hsm c (by omega)).2.2.1, (hsm c' (by omega)).2.2.1] at e
        exact h.2.2.2 c c' (old c (by omega) hc).1 (old c' (by omega) hc').1 e
section ALLOC
variable {X : Cx} {w w0 : Wp} {cc : ByteArray} {nL : Nat} {own : String} {ret : Option FieldType} {rm : Room} {Q : QI} {σ : St} {pc b : Nat}
def addX (X : Cx) (k n : Nat) : Cx := (xp X, xl X, xe X, xR X, xs X, xm X, xa X, xb X, xM X, xc X, xQ X, xcl X + k, xsl X + n)
theorem J.conv {lv lv' : List (Nat × Value)} {st st' : List Value} (h1 : lv = lv') (h2 : st = st') (k : J X w nL σ pc lv' st') : J X w nL σ pc lv st := by rw [h1, h2]; exact k
/-- new: a raw object at the tag b (kind 13: a Figure, 14: a Move) -/
theorem r_new (hX : OK X w cc nL own ret rm Q) (hW : CW w) (hE : Ext w0 w b) (hF : Fre w b) {C : String} {T : u_T} {N ci kd index : Nat} {fs : List Value} (hC : CI ci C T N) (hk : kd = 13 ∧ ci = 0 ∨ kd = 14 ∧ ci = 1) (hce : ∀ w' i l r, wK w' b = kd → ce w' b i l r = .inr (ci, fs)) (ty : Nat → FieldType) (hty : ∀ k, k < N → parseFieldDescriptor (T k).2.2.1 = some (ty k)) (hfs : ∀ j, j < N → defaultValue (ty j) = vp_V fs j) (hl : Cond.classLink own index C ∈ GT) (hins : Cond.instantiable C N ∈ GT) (hini : Cond.initialized C ∈ GT) (h1 : xcl X + 1 ≤ rm.cells) (h2 : xsl X + N ≤ rm.slots) (hdg : decode cc pc = .ok (.new index, 3)) (lvf : Wp → List (Nat × Value)) (stf : Wp → List Value) (hlv : ∀ w' : Wp, (∀ c, wK w c ≠ 0 → wa w' c = wa w c) → lvf w = lvf w' ∧ stf w = stf w')
    (kk : ∀ (X' : Cx) (w' : Wp), (xcl X' = xcl X + 1 ∧ xsl X' = xsl X + N) → OK X' w' cc nL own ret rm Q → CW w' → Ext w0 w' b → wK w' b = kd → Fre w b → (∀ c, wK w' c ≠ 0 → c = b ∨ wK w c ≠ 0) → J X' w' nL σ (pc + 3) (lvf w') (rf w' b :: stf w')) : J X w nL σ pc (lvf w) (stf w) := fun H locs ls a bS c => by
  have hK := hX.2.2.2.2.2.1.1
  have hKn := hK.1 ci _ hC.2.1
  have hbz : wK w b = 0 := hF.z (Nat.le_refl _)
  refine W.newcK hX.1 hX.2.1 hX.2.2.2.1 (hX.2.2.2.2.1 _ hl) (hX.2.2.2.2.1 _ hins) (hX.2.2.2.2.1 _ hini) rfl hdg (by rw [hX.2.2.2.2.2.2.2.2.1]; exact h1) (by rw [hX.2.2.2.2.2.2.2.2.1]; exact h2) hKn.2.1 rfl fun H1 kC hkC e1 z1 o1 => ?_
  have hne : kd ≠ 0 ∧ kd ≠ 1 ∧ kd ≠ 3 ∧ kd ≠ 11 ∧ kd ≠ 12 := by rcases hk with ⟨e, -⟩ | ⟨e, -⟩ <;> rw [e] <;> decide
  have hKb : wK (setw w b kd 0 H.size) b = kd := va_up_self _ _ _
  have hoth : ∀ x, x ≠ b → wK (setw w b kd 0 H.size) x = wK w x := fun x e => va_up_ne _ _ e
  have hadr : ∀ x, x ≠ b → wa (setw w b kd 0 H.size) x = wa w x := fun x e => va_up_ne _ _ e
  have hab : wa (setw w b kd 0 H.size) b = H.size := va_up_self _ _ _
  have hnb : ∀ x, wK w x ≠ 0 → x ≠ b := fun x hx e => by rw [e] at hx; exact hx hbz
  have hlive : ∀ x, wK (setw w b kd 0 H.size) x ≠ 0 → x = b ∨ wK w x ≠ 0 := fun x hx => by
    by_cases e : x = b
    · exact Or.inl e
    · rw [hoth x e] at hx; exact Or.inr hx
  have hAq : wA w H.size := hX.2.2.2.2.2.1.2.2.2 _ bS.1
  have hat : va_at (wD w) vwCl (H.size, .inr (ci, fs)) H1 := ⟨_, hC.2.1, (u_born ty hX.2.2.2.2.1 hC.1 hKn hkC e1 hty).to hfs⟩
  have hWd : Wd (setw w b kd 0 H.size) σ H1 := by
    refine a.grow b ⟨rfl, rfl, rfl, rfl, rfl, rfl⟩ ⟨by rw [hbz]; decide, by rw [hbz]; decide⟩ (fun c h _ => hF c h) (fun c hc => ⟨hoth c (by omega), va_up_ne _ _ (by omega), hadr c (by omega), rfl, rfl, rfl⟩) (fun c hc h => ?_) (fun c h _ => o1 _ (a.lt h)) (fun t t' ht ht' hbt e => ?_)
    · have e : c = b := (hlive c h).elim id (fun q => by have := hF c q; omega)
      subst e
      rw [hab, show ceS (setw w c kd 0 H.size) c σ = _ from hce _ _ _ _ hKb, hKb]
      exact ⟨hat, hAq, hne.2.2.2⟩
    · have et : t = b := (hlive t ht).elim id (fun q => by have := hF t q; omega)
      subst et
      rcases hlive t' ht' with q | q
      · exact q.symm
      · rw [hab, hadr t' (hnb t' q)] at e
        have := a.lt q
        omega
  have hJ := kk (addX X 1 N) (setw w b kd 0 H.size) ⟨rfl, rfl⟩ (by
      obtain ⟨g1, g2, g3, g4, g5, g6, g7, g8, g9, g10, g11, g12⟩ := hX
      exact ⟨g1, g2, g3, g4, g5, g6, g7, g8, g9, g10, h1, h2⟩) (hW.fresh hbz hne.2.1 hne.2.2.1) ⟨hE.1, fun c hc => by
        obtain ⟨q1, q2, q3⟩ := hE.2.1 c hc
        have hcb : c ≠ b := hnb c (by rw [q2]; exact hc)
        exact ⟨(hadr c hcb).trans q1, (hoth c hcb).trans q2, (va_up_ne _ _ hcb).trans q3⟩, fun c hc => by
        rcases hlive c hc with e | q
        · exact Or.inr ⟨by omega, by omega⟩
        · exact hE.2.2 c q⟩ hKb hF hlive
  obtain ⟨el, es⟩ := hlv (setw w b kd 0 H.size) (fun c hc => hadr c (hnb c hc))
  rw [el] at c
  rw [es]
  have hab2 : (rf (setw w b kd 0 H.size) b) = .ref H.size := congrArg Value.ref hab
  rw [hab2] at hJ
  exact hJ H1 locs ls hWd ⟨Nat.le_trans bS.1 (by omega), fun x g1 g2 => (o1 x (Nat.lt_of_lt_of_le g1 bS.1)).trans (bS.2.1 x g1 g2), bS.2.2⟩ c
end ALLOC
