-- ===== what is made on the way: a Figure with its three rows, a Move =====
def wrow (σ : St) (t : Nat) (f : Nat → Int32) : St := (va_up σ.1 t f, σ.2)
def Ext (w0 w : Wp) (b : Nat) : Prop := (wA w = wA w0 ∧ wD w = wD w0 ∧ wcI w = wcI w0 ∧ wcJ w = wcJ w0 ∧ wcF w = wcF w0 ∧ wcM w = wcM w0) ∧ (∀ c, wK w0 c ≠ 0 → wa w c = wa w0 c ∧ wK w c = wK w0 c ∧ wl w c = wl w0 c) ∧ ∀ c, wK w c ≠ 0 → wK w0 c ≠ 0 ∨ (b ≤ c ∧ c < b + 4)
theorem Ext.refl (w : Wp) (b : Nat) : Ext w w b := ⟨⟨rfl, rfl, rfl, rfl, rfl, rfl⟩, fun _ _ => ⟨rfl, rfl, rfl⟩, fun _ h => Or.inl h⟩
/-- an answer in a world that has grown -/
def QE (w0 : Wp) (b : Nat) (σ : St) (r : Int32) : QI := va_Qi (fun r' (w' : Wp) => r' = r ∧ Ext w0 w' b ∧ CW w') (fun w' t => Wd w' σ t.heap) (wA w0)
/-- a world in which the tag t has another kind, length and address -/
def setw (w : Wp) (t k n q : Nat) : Wp := (wA w, va_up (wa w) t q, va_up (wK w) t k, va_up (wl w) t n, wD w, wcI w, wcJ w, wcF w, wcM w)
theorem up_keep {f : Nat → Nat} {c t k v : Nat} (h : f c = k) (hk : k ≠ 0 ∧ k ≠ 13 ∧ k ≠ 14) (ht : f t = 0 ∨ f t = 13 ∨ f t = 14) : va_up f t v c = k := by
  rw [va_up_ne]
  · exact h
  · intro e; subst e; omega
theorem up_keepl {f g : Nat → Nat} {c t k n v : Nat} (h : f c = k) (hk : k ≠ 0 ∧ k ≠ 13 ∧ k ≠ 14) (ht : f t = 0 ∨ f t = 13 ∨ f t = 14) (hg : g c = n) : va_up g t v c = n := by
  rw [va_up_ne]
  · exact hg
  · intro e; subst e; omega
theorem CW.fresh {w : Wp} {t k n q : Nat} (h : CW w) (ht : wK w t = 0 ∨ wK w t = 13 ∨ wK w t = 14) (h1 : k ≠ 1 ∨ (wK w (t + 1) = 9 ∧ wl w (t + 1) = 8 ∧ wK w (t + 2) = 9 ∧ wl w (t + 2) = 8 ∧ wK w (t + 3) = 9 ∧ wl w (t + 3) = 8)) (h3 : k ≠ 3) : CW (setw w t k n q) := by
  have key : ∀ c m, wK w c = m → m ≠ 0 ∧ m ≠ 13 ∧ m ≠ 14 → va_up (wK w) t k c = m := fun c m a b => up_keep a b ht
  have keyl : ∀ c m i, wK w c = m → m ≠ 0 ∧ m ≠ 13 ∧ m ≠ 14 → wl w c = i → va_up (wl w) t n c = i := fun c m i a b e => up_keepl a b ht e
  refine ⟨up_keep (CK0 h) (by decide) ht, up_keep (CK1 h) (by decide) ht, up_keepl (CK1 h) (by decide) ht (CL1 h), up_keep (CK2 h) (by decide) ht, up_keep (CK3 h) (by decide) ht, up_keepl (CK3 h) (by decide) ht (CL3 h), up_keep (CK4 h) (by decide) ht, up_keep (CK5 h) (by decide) ht, up_keepl (CK5 h) (by decide) ht (CL5 h), up_keep (CK6 h) (by decide) ht, up_keepl (CK6 h) (by decide) ht (CL6 h), up_keep (CK7 h) (by decide) ht, up_keep (CK8 h) (by decide) ht, up_keepl (CK8 h) (by decide) ht (CL8 h), up_keep (CK9 h) (by decide) ht, up_keepl (CK9 h) (by decide) ht (CL9 h), up_keep (CK10 h) (by decide) ht, up_keepl (CK10 h) (by decide) ht (CL10 h), up_keep (CK11 h) (by decide) ht, up_keepl (CK11 h) (by decide) ht (CL11 h), up_keep (CK12 h) (by decide) ht, up_keep (CK13 h) (by decide) ht, up_keepl (CK13 h) (by decide) ht (CL13 h), up_keep (CK14 h) (by decide) ht, up_keepl (CK14 h) (by decide) ht (CL14 h), up_keep (CK15 h) (by decide) ht, up_keepl (CK15 h) (by decide) ht (CL15 h), up_keep (CK16 h) (by decide) ht, up_keepl (CK16 h) (by decide) ht (CL16 h), up_keep (CK17 h) (by decide) ht, up_keep (CK18 h) (by decide) ht, fun c hc => ?_, fun c hc => ?_⟩
  · have hc : va_up (wK w) t k c = 1 := hc
    by_cases e : c = t
    · subst e
      rw [va_up_self] at hc
      rcases h1 with h1 | ⟨a1, a2, a3, a4, a5, a6⟩
      · exact absurd hc h1
      · exact ⟨key _ 9 a1 (by decide), keyl _ 9 8 a1 (by decide) a2, key _ 9 a3 (by decide), keyl _ 9 8 a3 (by decide) a4, key _ 9 a5 (by decide), keyl _ 9 8 a5 (by decide) a6⟩
    rw [va_up_ne _ _ e] at hc
    exact ⟨key _ 9 (CFk1 h hc) (by decide), keyl _ 9 8 (CFk1 h hc) (by decide) (CFl1 h hc), key _ 9 (CFk2 h hc) (by decide), keyl _ 9 8 (CFk2 h hc) (by decide) (CFl2 h hc), key _ 9 (CFk3 h hc) (by decide), keyl _ 9 8 (CFk3 h hc) (by decide) (CFl3 h hc)⟩
  · have hc : va_up (wK w) t k c = 3 := hc
    have e : c ≠ t := fun e => by rw [e, va_up_self] at hc; exact h3 hc
    rw [va_up_ne _ _ e] at hc
    exact ⟨key _ 9 (CPk1 h hc) (by decide), keyl _ 9 8 (CPk1 h hc) (by decide) (CPl1 h hc), key _ 9 (CPk2 h hc) (by decide), keyl _ 9 9 (CPk2 h hc) (by decide) (CPl2 h hc), key _ 9 (CPk3 h hc) (by decide), keyl _ 9 9 (CPk3 h hc) (by decide) (CPl3 h hc), key _ 9 (CPk4 h hc) (by decide), keyl _ 9 9 (CPk4 h hc) (by decide) (CPl4 h hc)⟩
/-- a cell looks the same in a world that differs only from b on -/
theorem ce_ext {w w' : Wp} {c b : Nat} {i : Nat → Int32} {l : Nat → Int64} {r : Nat → Option Nat} (hc : c + 24 ≤ b) (ha : ∀ x, x < b → wa w' x = wa w x) (hK : wK w' c = wK w c) (hl : wl w' c = wl w c) (h1 : wcI w' = wcI w) (h2 : wcJ w' = wcJ w) (h3 : wcF w' = wcF w) (h4 : wcM w' = wcM w) (hr : wK w c = 11 ∨ wK w c = 12 → ∀ j t', r j = some t' → t' < b) : ce w' c i l r = ce w c i l r := by
  have e : ∀ k, k < 24 → rf w' (c + k) = rf w (c + k) := fun k hk => congrArg Value.ref (ha _ (by omega))
  have er : (wK w c = 11 ∨ wK w c = 12) → (fun j => (r j).map (wa w')) = (fun j => (r j).map (wa w)) := fun h => by
    funext j
    cases hj : r j with
    | none => rfl
    | some t' => simp only [Option.map_some]; rw [ha t' (hr h j t' hj)]
  unfold ce
  rw [hK, hl, h1, h2, h3, h4]
  unfold fs0 fs1 fs2 fs3 fs4 fs5 fs6 fs7
  rw [e 1 (by decide), e 2 (by decide), e 3 (by decide), e 4 (by decide), e 5 (by decide), e 6 (by decide), e 7 (by decide), e 8 (by decide), e 9 (by decide), e 10 (by decide), e 11 (by decide), e 12 (by decide), e 13 (by decide), e 14 (by decide), e 15 (by decide), e 16 (by decide), e 17 (by decide), e 18 (by decide), e 19 (by decide), e 20 (by decide), e 21 (by decide), e 22 (by decide), e 23 (by decide)]
  split <;> first | rfl | skip
  · rw [er (Or.inl (by assumption))]
  · rw [er (Or.inr (by assumption))]
/-- the tags from b on are free -/
def Fre (w : Wp) (b : Nat) : Prop := ∀ c, wK w c ≠ 0 → c + 24 ≤ b
theorem Fre.z {w : Wp} {b c : Nat} (h : Fre w b) (hc : b ≤ c) : wK w c = 0 := Classical.byContradiction fun e => by have := h c e; omega
theorem Wd.lt {w : Wp} {σ : St} {H : Heap} (h : Wd w σ H) {c : Nat} (hc : wK w c ≠ 0) : wa w c < H.size := ((h.1 c hc).1).lt
/-- a world that differs from b on -/
theorem Wd.grow {w w' : Wp} {σ σ' : St} {H H1 : Heap} (b : Nat) (h : Wd w σ H) (hs : wA w' = wA w ∧ wD w' = wD w ∧ wcI w' = wcI w ∧ wcJ w' = wcJ w ∧ wcF w' = wcF w ∧ wcM w' = wcM w) (hkb : wK w b ≠ 1 ∧ wK w b ≠ 2) (hold : ∀ c, wK w c ≠ 0 → c ≠ b → c + 24 ≤ b) (hsm : ∀ c, c < b → wK w' c = wK w c ∧ wl w' c = wl w c ∧ wa w' c = wa w c ∧ σ'.1 c = σ.1 c ∧ σ'.2.1 c = σ.2.1 c ∧ σ'.2.2 c = σ.2.2 c)
    (hnew : ∀ c, b ≤ c → wK w' c ≠ 0 → va_at (wD w') vwCl (wa w' c, ceS w' c σ') H1 ∧ wA w' (wa w' c) ∧ wK w' c ≠ 11 ∧ wK w' c ≠ 12) (ho : ∀ c, wK w c ≠ 0 → c ≠ b → H1[wa w c]? = H[wa w c]?) (hinj : ∀ t t', wK w' t ≠ 0 → wK w' t' ≠ 0 → b ≤ t → wa w' t = wa w' t' → t = t') : Wd w' σ' H1 := by
  obtain ⟨sA, sD, s1, s2, s3, s4⟩ := hs
  have old : ∀ c, c < b → wK w' c ≠ 0 → wK w c ≠ 0 ∧ c ≠ b := fun c hc hk => ⟨by rw [← (hsm c hc).1]; exact hk, by omega⟩
  have typ : ∀ t', wK w t' = 1 ∨ wK w t' = 2 → t' < b := fun t' ht => by
    have h0 : wK w t' ≠ 0 := by rcases ht with ht | ht <;> rw [ht] <;> decide
    have h1 : t' ≠ b := fun e => by subst e; rcases ht with ht | ht; exact hkb.1 ht; exact hkb.2 ht
    have := hold t' h0 h1
    omega
  refine ⟨fun c hc => ?_, ?_, ?_, ?_⟩
  · by_cases e : c < b
    · obtain ⟨k1, k2⟩ := old c e hc
      obtain ⟨g1, g2, g3, g4, g5, g6⟩ := hsm c e
      have q := h.1 c k1
      have ec : ceS w' c σ' = ceS w c σ := by
        show ce w' c (σ'.1 c) (σ'.2.1 c) (σ'.2.2 c) = _
        rw [g4, g5, g6]
        refine ce_ext (b := b) (hold c k1 k2) (fun x hx => (hsm x hx).2.2.1) g1 g2 s1 s2 s3 s4 (fun hh j t' hj => typ t' ?_)
        rcases hh with hh | hh
        · exact Or.inl (h.2.1 c j t' hh hj)
        · exact Or.inr (h.2.2.1 c j t' hh hj)
      rw [ec, g3, sD, sA]
      exact ⟨q.1.kept (ho c k1 k2), q.2⟩
    · obtain ⟨a1, a2, -⟩ := hnew c (by omega) hc
      exact ⟨a1, a2⟩
  · intro c j t' h2 h3
    have e : c < b := Nat.not_le.mp fun e => (hnew c e (by rw [h2]; decide)).2.2.1 h2
    obtain ⟨g1, g2, g3, g4, g5, g6⟩ := hsm c e
    rw [g1] at h2
    rw [g6] at h3
    have h4 := h.2.1 c j t' h2 h3
    rw [(hsm t' (typ t' (Or.inl h4))).1]
    exact h4
  · intro c j t' h2 h3
    have e : c < b := Nat.not_le.mp fun e => (hnew c e (by rw [h2]; decide)).2.2.2 h2
    obtain ⟨g1, g2, g3, g4, g5, g6⟩ := hsm c e
    rw [g1] at h2
    rw [g6] at h3
    have h4 := h.2.2.1 c j t' h2 h3
    rw [(hsm t' (typ t' (Or.inr h4))).1]
    exact h4
  · intro c c' hc hc' e
    by_cases e1 : b ≤ c
    · exact hinj c c' hc hc' e1 e
    · by_cases e2 : b ≤ c'
      · exact (hinj c' c hc' hc e2 e.symm).symm
      · rw [(hsm c (by omega)).2.2.1, (hsm c' (by omega)).2.2.1] at e
        exact h.2.2.2 c c' (old c (by omega) hc).1 (old c' (by omega) hc').1 e
section ALLOC
variable {X : Cx} {w w0 : Wp} {cc : ByteArray} {nL : Nat} {own : String} {ret : Option FieldType} {rm : Room} {Q : QI} {σ : St} {pc b : Nat}
def addX (X : Cx) (k n : Nat) : Cx := (xp X, xl X, xe X, xR X, xs X, xm X, xa X, xb X, xM X, xc X, xQ X, xcl X + k, xsl X + n)
theorem J.conv {lv lv' : List (Nat × Value)} {st st' : List Value} (h1 : lv = lv') (h2 : st = st') (k : J X w nL σ pc lv' st') : J X w nL σ pc lv st := by rw [h1, h2]; exact k
/-- new: a raw object at the tag b (kind 13: a Figure, 14: a Move) -/
theorem r_new (hX : OK X w cc nL own ret rm Q) (hW : CW w) (hE : Ext w0 w b) (hF : Fre w b) {C : String} {T : u_T} {N ci kd index : Nat} {fs : List Value} (hC : CI ci C T N) (hk : kd = 13 ∧ ci = 0 ∨ kd = 14 ∧ ci = 1) (hce : ∀ w' i l r, wK w' b = kd → ce w' b i l r = .inr (ci, fs)) (ty : Nat → FieldType) (hty : ∀ k, k < N → parseFieldDescriptor (T k).2.2.1 = some (ty k)) (hfs : ∀ j, j < N → defaultValue (ty j) = vp_V fs j) (hl : Cond.classLink own index C ∈ GT) (hins : Cond.instantiable C N ∈ GT) (hini : Cond.initialized C ∈ GT) (h1 : xcl X + 1 ≤ rm.cells) (h2 : xsl X + N ≤ rm.slots) (hdg : decode cc pc = .ok (.new index, 3)) (lvf : Wp → List (Nat × Value)) (stf : Wp → List Value) (hlv : ∀ w' : Wp, (∀ c, wK w c ≠ 0 → wa w' c = wa w c) → lvf w = lvf w' ∧ stf w = stf w')
    (kk : ∀ (X' : Cx) (w' : Wp), (xcl X' = xcl X + 1 ∧ xsl X' = xsl X + N) → OK X' w' cc nL own ret rm Q → CW w' → Ext w0 w' b → wK w' b = kd → Fre w b → (∀ c, wK w' c ≠ 0 → c = b ∨ wK w c ≠ 0) → J X' w' nL σ (pc + 3) (lvf w') (rf w' b :: stf w')) : J X w nL σ pc (lvf w) (stf w) := fun H locs ls a bS c => by
  have hK := hX.2.2.2.2.2.1.1
  have hKn := hK.1 ci _ hC.2.1
  have hbz : wK w b = 0 := hF.z (Nat.le_refl _)
  refine W.newcK hX.1 hX.2.1 hX.2.2.2.1 (hX.2.2.2.2.1 _ hl) (hX.2.2.2.2.1 _ hins) (hX.2.2.2.2.1 _ hini) rfl hdg (by rw [hX.2.2.2.2.2.2.2.2.1]; exact h1) (by rw [hX.2.2.2.2.2.2.2.2.1]; exact h2) hKn.2.1 rfl fun H1 kC hkC e1 z1 o1 => ?_
  have hne : kd ≠ 0 ∧ kd ≠ 1 ∧ kd ≠ 3 ∧ kd ≠ 11 ∧ kd ≠ 12 := by rcases hk with ⟨e, -⟩ | ⟨e, -⟩ <;> rw [e] <;> decide
  have hKb : wK (setw w b kd 0 H.size) b = kd := va_up_self _ _ _
  have hoth : ∀ x, x ≠ b → wK (setw w b kd 0 H.size) x = wK w x := fun x e => va_up_ne _ _ e
  have hadr : ∀ x, x ≠ b → wa (setw w b kd 0 H.size) x = wa w x := fun x e => va_up_ne _ _ e
  have hab : wa (setw w b kd 0 H.size) b = H.size := va_up_self _ _ _
  have hnb : ∀ x, wK w x ≠ 0 → x ≠ b := fun x hx e => by rw [e] at hx; exact hx hbz
  have hlive : ∀ x, wK (setw w b kd 0 H.size) x ≠ 0 → x = b ∨ wK w x ≠ 0 := fun x hx => by
    by_cases e : x = b
    · exact Or.inl e
    · rw [hoth x e] at hx; exact Or.inr hx
  have hAq : wA w H.size := hX.2.2.2.2.2.1.2.2.2 _ bS.1
  have hat : va_at (wD w) vwCl (H.size, .inr (ci, fs)) H1 := ⟨_, hC.2.1, (u_born ty hX.2.2.2.2.1 hC.1 hKn hkC e1 hty).to hfs⟩
  have hWd : Wd (setw w b kd 0 H.size) σ H1 := by
    refine a.grow b ⟨rfl, rfl, rfl, rfl, rfl, rfl⟩ ⟨by rw [hbz]; decide, by rw [hbz]; decide⟩ (fun c h _ => hF c h) (fun c hc => ⟨hoth c (by omega), va_up_ne _ _ (by omega), hadr c (by omega), rfl, rfl, rfl⟩) (fun c hc h => ?_) (fun c h _ => o1 _ (a.lt h)) (fun t t' ht ht' hbt e => ?_)
    · have e : c = b := (hlive c h).elim id (fun q => by have := hF c q; omega)
      subst e
      rw [hab, show ceS (setw w c kd 0 H.size) c σ = _ from hce _ _ _ _ hKb, hKb]
      exact ⟨hat, hAq, hne.2.2.2⟩
    · have et : t = b := (hlive t ht).elim id (fun q => by have := hF t q; omega)
      subst et
      rcases hlive t' ht' with q | q
      · exact q.symm
      · rw [hab, hadr t' (hnb t' q)] at e
        have := a.lt q
        omega
  have hJ := kk (addX X 1 N) (setw w b kd 0 H.size) ⟨rfl, rfl⟩ (by
      obtain ⟨g1, g2, g3, g4, g5, g6, g7, g8, g9, g10, g11, g12⟩ := hX
      exact ⟨g1, g2, g3, g4, g5, g6, g7, g8, g9, g10, h1, h2⟩) (hW.fresh (Or.inl hbz) (Or.inl hne.2.1) hne.2.2.1) ⟨hE.1, fun c hc => by
        obtain ⟨q1, q2, q3⟩ := hE.2.1 c hc
        have hcb : c ≠ b := hnb c (by rw [q2]; exact hc)
        exact ⟨(hadr c hcb).trans q1, (hoth c hcb).trans q2, (va_up_ne _ _ hcb).trans q3⟩, fun c hc => by
        rcases hlive c hc with e | q
        · exact Or.inr ⟨by omega, by omega⟩
        · exact hE.2.2 c q⟩ hKb hF hlive
  obtain ⟨el, es⟩ := hlv (setw w b kd 0 H.size) (fun c hc => hadr c (hnb c hc))
  rw [el] at c
  rw [es]
  have hab2 : (rf (setw w b kd 0 H.size) b) = .ref H.size := congrArg Value.ref hab
  rw [hab2] at hJ
  exact hJ H1 locs ls hWd ⟨Nat.le_trans bS.1 (by omega), fun x g1 g2 => (o1 x (Nat.lt_of_lt_of_le g1 bS.1)).trans (bS.2.1 x g1 g2), bS.2.2⟩ c
def mvR (p1 p2 p3 p4 : Int32) : Nat → Int32 := fun k => [p1, p2, p3, p4].getD k 0
/-- Move(..) on the raw Move at b -/
theorem r_initM (hX : OK X w cc nL own ret rm Q) (hW : CW w) (hE : Ext w0 w b) (hF0 : Fre w0 b) (hkb : wK w b = 14) (hFr : ∀ c, wK w c ≠ 0 → c ≠ b → c + 24 ≤ b) {p1 p2 p3 p4 : Int32} {index : Nat} (hl : Cond.methodLink own index yX1_init ∈ GT) (hcode : Cond.code yX1_init cX1_init 5 none ∈ GT) (hini : Cond.initialized yX1_init.cls ∈ GT) (hinst : Cond.instanceMethod yX1_init ∈ GT) (hR : 1 + 1 ≤ rm.frames ∧ 8 + (5 + 11) + 12 ≤ rm.locals) (hdg : decode cc pc = .ok (.invokespecial index, 3)) (lvf : Wp → List (Nat × Value)) (stf : Wp → List Value) (hlv : ∀ w' : Wp, (∀ c, wK w c ≠ 0 → wa w' c = wa w c) → lvf w = lvf w' ∧ stf w = stf w') (hcat : ((stf w).map fun v => v.category).sum ≤ 8)
    (kk : ∀ w' : Wp, OK X w' cc nL own ret rm Q → CW w' → Ext w0 w' b → wK w' b = 2 → J X w' nL (wrow σ b (mvR p1 p2 p3 p4)) (pc + 3) (lvf w') (stf w')) : J X w nL σ pc (lvf w) (.int p4 :: .int p3 :: .int p2 :: .int p1 :: rf w b :: stf w) := fun H locs ls a bS c => by
  have hb0 : wK w b ≠ 0 := by rw [hkb]; decide
  have hP := a.at (t := b) hb0
  rw [show ceS w b σ = _ from ce14 hkb] at hP
  have hA1 : ∀ q, va_A [(wa w b, .inr (1, [.int 0, .int 0, .int 0, .int 0, .int 0, .int 0, .int 0, .int 0]))] H.size q → wA w q := fun q hq => by
    rcases hq with ⟨k, e, h⟩ | h
    · cases k with
      | zero => cases h; exact (a.1 b hb0).2
      | succ k => cases h
    · exact hX.2.2.2.2.2.1.2.2.2 q (Nat.le_trans bS.1 h)
  refine va_callv (va_runI (As := [.int p1, .int p2, .int p3, .int p4]) (rest := stf w) (callfix hX) (kX1_init (xl X) (wD w) (wcI w) (wcJ w) (wcF w) (wcM w) (wa w b) H.size p1 p2 p3 p4) (cwI 4 hX.2.2.2.2.1 (good_code hcode) rfl rfl rfl (hX.2.2.2.2.1 _ hini) (hX.2.2.2.2.1 _ hl) (hX.2.2.2.2.1 _ hinst) rfl (by decide +kernel) (by rw [hX.2.2.2.2.2.2.2.2.1]; exact hR)) ⟨fun a U g mk q => ⟨q.1, q.2.1, q.2.2.1, va_K.moved (u := U) (U := U.calling g mk a) (Vm.Alike.refl U.vm) q.2.2.2.1, q.2.2.2.2⟩, fun U hU hW => ⟨rfl, by rw [hU], by rw [hU]; exact hP, va_K.moved hW.alike hX.2.2.2.2.2.1.1, a.dis hb0 _ |>.weaken (fun _ _ _ _ => trivial)⟩⟩ rfl rfl c.1 rfl (lv_room hcat) hdg hX.cap) bS (fun q _ h => hA1 q h) hA1 (fun u t H1 locs1 ht hvm hw hB hz1 hk1 hS1 => ?_)
  obtain ⟨hP1, -⟩ := hB
  rw [ht] at hP1
  have hKb : wK (setw w b 2 0 (wa w b)) b = 2 := va_up_self _ _ _
  have hoth : ∀ x, x ≠ b → wK (setw w b 2 0 (wa w b)) x = wK w x := fun x e => va_up_ne _ _ e
  have hadr : ∀ x, wa (setw w b 2 0 (wa w b)) x = wa w x := fun x => by
    show va_up (wa w) b (wa w b) x = _
    unfold va_up
    split
    · rename_i e; rw [e]
    · rfl
  have hlive : ∀ x, wK (setw w b 2 0 (wa w b)) x ≠ 0 → wK w x ≠ 0 := fun x hx => by
    by_cases e : x = b
    · rw [e]; exact hb0
    · rw [hoth x e] at hx; exact hx
  have hkeep : ∀ x, wK w x ≠ 0 → x ≠ b → H1[wa w x]? = H[wa w x]? := fun x hx e => hk1 _ (a.lt hx) (fun q => by
    rcases q with ⟨k, e2, h⟩ | h
    · cases k with
      | zero =>
        have h3 : wa w x = wa w b := by injection h with h; exact (congrArg Prod.fst h).symm
        exact e (a.2.2.2 x b hx hb0 h3)
      | succ k => cases h
    · have := a.lt hx; omega)
  have hWd : Wd (setw w b 2 0 (wa w b)) (wrow σ b (mvR p1 p2 p3 p4)) H1 := by
    refine a.grow b ⟨rfl, rfl, rfl, rfl, rfl, rfl⟩ ⟨by rw [hkb]; decide, by rw [hkb]; decide⟩ hFr (fun c hc => ⟨hoth c (by omega), va_up_ne _ _ (by omega), hadr c, va_up_ne _ _ (by omega), rfl, rfl⟩) (fun c hc h => ?_) hkeep (fun t t' ht ht' _ e => ?_)
    · have e : c = b := Classical.byContradiction fun e => by have := hFr c (hlive c h) e; omega
      subst e
      rw [hadr, show ceS (setw w c 2 0 (wa w c)) c (wrow σ c (mvR p1 p2 p3 p4)) = _ from ce2 hKb, hKb]
      refine ⟨?_, (a.1 c hb0).2, by decide, by decide⟩
      have h4 := hP1 0 _ rfl
      rw [hw] at h4
      rw [show (wrow σ c (mvR p1 p2 p3 p4)).1 c = mvR p1 p2 p3 p4 from va_up_self _ _ _]
      exact h4
    · rw [hadr, hadr] at e
      exact a.2.2.2 t t' (hlive t ht) (hlive t' ht') e
  obtain ⟨el, es⟩ := hlv (setw w b 2 0 (wa w b)) (fun c _ => hadr c)
  rw [el] at c
  rw [es]
  exact kk (setw w b 2 0 (wa w b)) hX (hW.fresh (Or.inr (Or.inr hkb)) (Or.inl (by decide)) (by decide)) ⟨hE.1, fun x hx => by
      obtain ⟨q1, q2, q3⟩ := hE.2.1 x hx
      have hlt := hF0 x hx
      have e : x ≠ b := by omega
      exact ⟨(hadr x).trans q1, (hoth x e).trans q2, (va_up_ne _ _ e).trans q3⟩, fun x hx => hE.2.2 x (hlive x hx)⟩ hKb H1 locs1 ls hWd hS1 c
/-- the end of a method whose world may have grown -/
theorem r_iretE {r : Int32} {lv : List (Nat × Value)} (hX : OK X w cc nL own (some .int) rm (QE w0 b σ r)) (hE : Ext w0 w b) (hW : CW w) (hdg : decode cc pc = .ok (.ireturn, 1)) : J X w nL σ pc lv [.int r] := fun H locs ls a b c => by
  obtain ⟨h1, h2, -, -, -, -, h3, h4, -, h5, h6, h7⟩ := hX
  rw [h5]
  refine W.widen h6 h7 ?_
  exact W.iret h1 h2 h3 (fun t ht _ => ⟨⟨_, w, rfl, ⟨rfl, hE, hW⟩, by show Wd w σ t.heap; rw [ht]; exact a⟩, by have := b.F ht; rw [hE.1.1] at this; exact this⟩) b.2.2 hdg h4
/-- Figure(..) on the raw Figure at b: three rows come with it -/
theorem r_initF (hX : OK X w cc nL own ret rm Q) (hW : CW w) (hE : Ext w0 w b) (hF0 : Fre w0 b) (hkb : wK w b = 13) (hFr : ∀ c, wK w c ≠ 0 → c ≠ b → c + 24 ≤ b) {p1 p2 p3 p4 : Int32} {index : Nat} (hl : Cond.methodLink own index yX0_init ∈ GT) (hcode : Cond.code yX0_init cX0_init 5 none ∈ GT) (hini : Cond.initialized yX0_init.cls ∈ GT) (hinst : Cond.instanceMethod yX0_init ∈ GT) (hR : 1 + 1 ≤ rm.frames ∧ 8 + (5 + 11) + 12 ≤ rm.locals) (hc1 : xcl X + 3 ≤ rm.cells) (hc2 : xsl X + 24 ≤ rm.slots) (hdg : decode cc pc = .ok (.invokespecial index, 3)) (lvf : Wp → List (Nat × Value)) (stf : Wp → List Value) (hlv : ∀ w' : Wp, (∀ c, wK w c ≠ 0 → wa w' c = wa w c) → lvf w = lvf w' ∧ stf w = stf w') (hcat : ((stf w).map fun v => v.category).sum ≤ 8)
    (kk : ∀ (X' : Cx) (w' : Wp), OK X' w' cc nL own ret rm Q → CW w' → Ext w0 w' b → wK w' b = 1 → J X' w' nL (wrow (wrow (wrow (wrow σ (b + 1) (fun _ => 0)) (b + 2) (fun _ => 0)) (b + 3) (fun _ => 0)) b (mvR p1 p2 p3 p4)) (pc + 3) (lvf w') (stf w')) : J X w nL σ pc (lvf w) (.int p4 :: .int p3 :: .int p2 :: .int p1 :: rf w b :: stf w) := fun H locs ls a bS c => by
  have hb0 : wK w b ≠ 0 := by rw [hkb]; decide
  have hP := a.at (t := b) hb0
  rw [show ceS w b σ = _ from ce13 hkb] at hP
  have hA1 : ∀ q, va_A [(wa w b, .inr (0, [.int 0, .int 0, .int 0, .int 0, .null, .null, .null, .int 0]))] H.size q → wA w q := fun q hq => by
    rcases hq with ⟨k, e, h⟩ | h
    · cases k with
      | zero => cases h; exact (a.1 b hb0).2
      | succ k => cases h
    · exact hX.2.2.2.2.2.1.2.2.2 q (Nat.le_trans bS.1 h)
  refine va_callv (va_runI (As := [.int p1, .int p2, .int p3, .int p4]) (rest := stf w) (callfix hX) (kX0_init (xl X) (wD w) (wcI w) (wcJ w) (wcF w) (wcM w) (wa w b) H.size p1 p2 p3 p4) (cwI 4 hX.2.2.2.2.1 (good_code hcode) rfl rfl rfl (hX.2.2.2.2.1 _ hini) (hX.2.2.2.2.1 _ hl) (hX.2.2.2.2.1 _ hinst) rfl (by decide +kernel) (by rw [hX.2.2.2.2.2.2.2.2.1]; exact hR)) ⟨fun a U g mk q => ⟨q.1, q.2.1, q.2.2.1, va_K.moved (u := U) (U := U.calling g mk a) (Vm.Alike.refl U.vm) q.2.2.2.1, q.2.2.2.2⟩, fun U hU hW => ⟨rfl, by rw [hU], by rw [hU]; exact hP, va_K.moved hW.alike hX.2.2.2.2.2.1.1, a.dis hb0 _ |>.weaken (fun _ _ _ _ => trivial)⟩⟩ rfl rfl c.1 rfl (lv_room hcat) hdg (by rw [hX.2.2.2.2.2.2.2.2.1]; exact ⟨hc1, hc2⟩)) bS (fun q _ h => hA1 q h) hA1 (fun u t H1 locs1 ht hvm hw hB hz1 hk1 hS1 => ?_)
  obtain ⟨hP1, hD1⟩ := hB
  rw [ht] at hP1
  have a0 := hP1 0 _ rfl
  have a1 := hP1 1 _ rfl
  have a2 := hP1 2 _ rfl
  have a3 := hP1 3 _ rfl
  have hfresh : ∀ (k : Nat) (q : Nat × va_E), (lsX0_init (wcI w) (wcJ w) (wcF w) (wcM w) u p1 p2 p3 p4)[k]? = some q → k ≠ 0 → H.size ≤ q.1 := fun k q hq hk => by
    rcases hD1.2 k q hq with ⟨j, e, h⟩ | h
    · cases j with
      | zero =>
        have h3 : q.1 = u 0 := by rw [hw]; injection h with h; exact (congrArg Prod.fst h).symm
        exact absurd (hD1.1 k 0 q _ hq rfl h3) hk
      | succ j => cases h
    · exact h
  have f1 := hfresh 1 _ rfl (by decide)
  have f2 := hfresh 2 _ rfl (by decide)
  have f3 := hfresh 3 _ rfl (by decide)
  have d12 : u 1 ≠ u 2 := fun e => absurd (hD1.1 1 2 _ _ rfl rfl e) (by decide)
  have d13 : u 1 ≠ u 3 := fun e => absurd (hD1.1 1 3 _ _ rfl rfl e) (by decide)
  have d23 : u 2 ≠ u 3 := fun e => absurd (hD1.1 2 3 _ _ rfl rfl e) (by decide)
  dsimp only at f1 f2 f3
  have z1 : wK w (b + 1) = 0 := Classical.byContradiction fun e => by have := hFr _ e (by omega); omega
  have z2 : wK w (b + 2) = 0 := Classical.byContradiction fun e => by have := hFr _ e (by omega); omega
  have z3 : wK w (b + 3) = 0 := Classical.byContradiction fun e => by have := hFr _ e (by omega); omega
  generalize hw' : setw (setw (setw (setw w (b + 1) 9 8 (u 1)) (b + 2) 9 8 (u 2)) (b + 3) 9 8 (u 3)) b 1 0 (wa w b) = w'
  have hK' : ∀ x, wK w' x = if x = b then 1 else if x = b + 3 then 9 else if x = b + 2 then 9 else if x = b + 1 then 9 else wK w x := fun x => by rw [← hw']; rfl
  have hL' : ∀ x, wl w' x = if x = b then 0 else if x = b + 3 then 8 else if x = b + 2 then 8 else if x = b + 1 then 8 else wl w x := fun x => by rw [← hw']; rfl
  have hA' : ∀ x, wa w' x = if x = b then wa w b else if x = b + 3 then u 3 else if x = b + 2 then u 2 else if x = b + 1 then u 1 else wa w x := fun x => by rw [← hw']; rfl
  have hsame : wA w' = wA w ∧ wD w' = wD w ∧ wcI w' = wcI w ∧ wcJ w' = wcJ w ∧ wcF w' = wcF w ∧ wcM w' = wcM w := by rw [← hw']; exact ⟨rfl, rfl, rfl, rfl, rfl, rfl⟩
  have hKb : wK w' b = 1 := by rw [hK']; simp
  have hK1 : wK w' (b + 1) = 9 := by rw [hK']; simp
  have hK2 : wK w' (b + 2) = 9 := by rw [hK']; simp
  have hK3 : wK w' (b + 3) = 9 := by rw [hK']; simp
  have hold : ∀ x, x < b ∨ b + 4 ≤ x → wK w' x = wK w x ∧ wl w' x = wl w x ∧ wa w' x = wa w x := fun x hx => by
    rw [hK', hL', hA', if_neg (by omega), if_neg (by omega), if_neg (by omega), if_neg (by omega), if_neg (by omega), if_neg (by omega), if_neg (by omega), if_neg (by omega), if_neg (by omega), if_neg (by omega), if_neg (by omega), if_neg (by omega)]
    exact ⟨rfl, rfl, rfl⟩
  have hA0 : wa w' b = wa w b := by rw [hA']; simp
  have hAa : wa w' (b + 1) = u 1 := by rw [hA']; simp
  have hAb : wa w' (b + 2) = u 2 := by rw [hA']; simp
  have hAc : wa w' (b + 3) = u 3 := by rw [hA']; simp
  have hL1 : wl w' (b + 1) = 8 := by rw [hL']; simp
  have hL2 : wl w' (b + 2) = 8 := by rw [hL']; simp
  have hL3 : wl w' (b + 3) = 8 := by rw [hL']; simp
  have hlive : ∀ x, wK w' x ≠ 0 → b ≤ x → x = b ∨ x = b + 1 ∨ x = b + 2 ∨ x = b + 3 := fun x hx hb => Classical.byContradiction fun e => by
    have h4 : b + 4 ≤ x := by omega
    rw [(hold x (Or.inr h4)).1] at hx
    have := hFr x hx (by omega)
    omega
  have hkeep : ∀ x, wK w x ≠ 0 → x ≠ b → H1[wa w x]? = H[wa w x]? := fun x hx e => hk1 _ (a.lt hx) (fun q => by
    rcases q with ⟨k, e2, h⟩ | h
    · cases k with
      | zero =>
        have h3 : wa w x = wa w b := by injection h with h; exact (congrArg Prod.fst h).symm
        exact e (a.2.2.2 x b hx hb0 h3)
      | succ k => cases h
    · have := a.lt hx; omega)
  generalize hσ' : wrow (wrow (wrow (wrow σ (b + 1) (fun _ => 0)) (b + 2) (fun _ => 0)) (b + 3) (fun _ => 0)) b (mvR p1 p2 p3 p4) = σ' at kk
  have hI : ∀ x, σ'.1 x = if x = b then mvR p1 p2 p3 p4 else if x = b + 3 then (fun _ => 0) else if x = b + 2 then (fun _ => 0) else if x = b + 1 then (fun _ => 0) else σ.1 x := fun x => by rw [← hσ']; rfl
  have hI2 : σ'.2 = σ.2 := by rw [← hσ']; rfl
  have hAq : ∀ q, H.size ≤ q → wA w' q := fun q hq => by rw [hsame.1]; exact hX.2.2.2.2.2.1.2.2.2 q (Nat.le_trans bS.1 hq)
  have hWd : Wd w' σ' H1 := by
    refine a.grow b hsame ⟨by rw [hkb]; decide, by rw [hkb]; decide⟩ hFr (fun c hc => ?_) (fun c hc h => ?_) hkeep (fun t t' ht ht' hbt e => ?_)
    · obtain ⟨g1, g2, g3⟩ := hold c (Or.inl hc)
      refine ⟨g1, g2, g3, ?_, by rw [hI2], by rw [hI2]⟩
      rw [hI, if_neg (by omega), if_neg (by omega), if_neg (by omega), if_neg (by omega)]
    · rw [hsame.2.1]
      rcases hlive c h hc with e | e | e | e
      · subst e
        rw [hA0, hKb, show ceS w' c σ' = _ from ce1 hKb, hI, if_pos rfl]
        refine ⟨?_, by rw [hsame.1]; exact (a.1 c hb0).2, by decide, by decide⟩
        rw [hw] at a0
        show va_at (wD w) vwCl (wa w c, .inr (0, [_, _, _, _, .ref (wa w' (c + 1)), .ref (wa w' (c + 2)), .ref (wa w' (c + 3)), _])) H1
        rw [hAa, hAb, hAc]
        exact a0
      · subst e
        rw [hAa, hK1, show ceS w' (b + 1) σ' = _ from ce9 hK1, hL1, hsame.2.2.1, hI, if_neg (by omega), if_neg (by omega), if_neg (by omega), if_pos rfl]
        exact ⟨a1, hAq _ f1, by decide, by decide⟩
      · subst e
        rw [hAb, hK2, show ceS w' (b + 2) σ' = _ from ce9 hK2, hL2, hsame.2.2.1, hI, if_neg (by omega), if_neg (by omega), if_pos rfl]
        exact ⟨a2, hAq _ f2, by decide, by decide⟩
      · subst e
        rw [hAc, hK3, show ceS w' (b + 3) σ' = _ from ce9 hK3, hL3, hsame.2.2.1, hI, if_neg (by omega), if_pos rfl]
        exact ⟨a3, hAq _ f3, by decide, by decide⟩
    · have hb1 := a.lt hb0
      by_cases hlt : b ≤ t'
      · rcases hlive t ht hbt with q | q | q | q <;> rcases hlive t' ht' hlt with q2 | q2 | q2 | q2 <;> subst q <;> subst q2 <;> first | rfl | (simp only [hA0, hAa, hAb, hAc] at e; omega)
      · obtain ⟨g1, g2, g3⟩ := hold t' (Or.inl (by omega))
        have h5 : wK w t' ≠ 0 := by rw [← g1]; exact ht'
        have h6 := a.lt h5
        rw [g3] at e
        rcases hlive t ht hbt with q | q | q | q
        · subst q
          rw [hA0] at e
          exact a.2.2.2 _ _ hb0 h5 e
        · subst q
          rw [hAa] at e; omega
        · subst q
          rw [hAb] at e; omega
        · subst q
          rw [hAc] at e; omega
  have hagr : ∀ x, wK w x ≠ 0 → wa w' x = wa w x := fun x hx => by
    by_cases e : x = b
    · subst e; exact hA0
    · exact (hold x (Or.inl (by have := hFr x hx e; omega))).2.2
  obtain ⟨el, es⟩ := hlv w' hagr
  rw [el] at c
  rw [es]
  have c1 : CW (setw w (b + 1) 9 8 (u 1)) := hW.fresh (Or.inl z1) (Or.inl (by decide)) (by decide)
  have c2 : CW (setw (setw w (b + 1) 9 8 (u 1)) (b + 2) 9 8 (u 2)) := c1.fresh (Or.inl ((va_up_ne _ _ (by omega)).trans z2)) (Or.inl (by decide)) (by decide)
  have c3 : CW (setw (setw (setw w (b + 1) 9 8 (u 1)) (b + 2) 9 8 (u 2)) (b + 3) 9 8 (u 3)) := c2.fresh (Or.inl ((va_up_ne _ _ (by omega)).trans ((va_up_ne _ _ (by omega)).trans z3))) (Or.inl (by decide)) (by decide)
  have up3 : ∀ (f : Nat → Nat) (x y z : Nat), va_up (va_up (va_up f (b + 1) x) (b + 2) y) (b + 3) z (b + 1) = x := fun f x y z => by rw [va_up_ne _ _ (by omega), va_up_ne _ _ (by omega), va_up_self]
  have up2 : ∀ (f : Nat → Nat) (x y z : Nat), va_up (va_up (va_up f (b + 1) x) (b + 2) y) (b + 3) z (b + 2) = y := fun f x y z => by rw [va_up_ne _ _ (by omega), va_up_self]
  have up1 : ∀ (f : Nat → Nat) (x y z : Nat), va_up (va_up (va_up f (b + 1) x) (b + 2) y) (b + 3) z (b + 3) = z := fun f x y z => va_up_self _ _ _
  have c4 : CW w' := by
    rw [← hw']
    refine c3.fresh (Or.inr (Or.inl ?_)) (Or.inr ⟨up3 _ _ _ _, up3 _ _ _ _, up2 _ _ _ _, up2 _ _ _ _, up1 _ _ _ _, up1 _ _ _ _⟩) (by decide)
    exact (va_up_ne _ _ (by omega)).trans ((va_up_ne _ _ (by omega)).trans ((va_up_ne _ _ (by omega)).trans hkb))
  have hOK : OK (addX X 3 24) w' cc nL own ret rm Q := by
    obtain ⟨g1, g2, g3, g4, g5, g6, g7, g8, g9, g10, g11, g12⟩ := hX
    rw [← hw']
    exact ⟨g1, g2, g3, g4, g5, g6, g7, g8, g9, g10, hc1, hc2⟩
  have hEx : Ext w0 w' b := by
    obtain ⟨s1, s2, s3, s4, s5, s6⟩ := hsame
    obtain ⟨t1, t2, t3, t4, t5, t6⟩ := hE.1
    refine ⟨⟨s1.trans t1, s2.trans t2, s3.trans t3, s4.trans t4, s5.trans t5, s6.trans t6⟩, fun c hc => ?_, fun c hc => ?_⟩
    · obtain ⟨q1, q2, q3⟩ := hE.2.1 c hc
      have := hF0 c hc
      obtain ⟨g1, g2, g3⟩ := hold c (Or.inl (by omega))
      exact ⟨g3.trans q1, g1.trans q2, g2.trans q3⟩
    · by_cases e : b ≤ c
      · rcases hlive c hc e with q | q | q | q <;> exact Or.inr ⟨by omega, by omega⟩
      · rw [(hold c (Or.inl (by omega))).1] at hc
        exact hE.2.2 c hc
  have hS2 : va_S (wA w') (xs X).heap H1 locs1 := by rw [hsame.1]; exact hS1
  exact kk (addX X 3 24) w' hOK c4 hEx hKb H1 locs1 ls hWd hS2 c
end ALLOC
theorem rfE {w w' : Wp} (h : ∀ c, wK w c ≠ 0 → wa w' c = wa w c) (c : Nat) (hc : wK w c ≠ 0) : rf w' c = rf w c := congrArg Value.ref (h c hc)
