-- ===== the state: int cells, long cells, references, by tag and place =====
abbrev St : Type := (Nat → Nat → Int32) × (Nat → Nat → Int64) × (Nat → Nat → Option Nat)
def wI (σ : St) (t k : Nat) (v : Int32) : St := (fun a => if a = t then upd (σ.1 t) k v else σ.1 a, σ.2)
def wL (σ : St) (t k : Nat) (v : Int64) : St := (σ.1, fun a => if a = t then vp_updL (σ.2.1 t) k v else σ.2.1 a, σ.2.2)
def wR (σ : St) (t k : Nat) (v : Option Nat) : St := (σ.1, σ.2.1, fun a => if a = t then va_up (σ.2.2 t) k v else σ.2.2 a)
def wC (σ : St) (t u sp dp n : Nat) : St := (fun a => if a = u then va_cpy (σ.1 t) (σ.1 u) sp dp n else σ.1 a, σ.2)
abbrev ix (i : Int32) : Nat := i.toNatClampNeg
/-- an index that must be in range -/
def grd {α : Type} (i : Int32) (n : Nat) (k : Option α) : Option α := if 0 ≤ i.toInt ∧ i.toInt < n then k else none
theorem grd_some {α : Type} {i : Int32} {n : Nat} {k : Option α} {z : α} (h : grd i n k = some z) : vp_in i n ∧ k = some z := by
  unfold grd at h
  split at h
  · rename_i q
    exact ⟨vp_in_iff.mpr q, h⟩
  · cases h
/-- a divisor that must not be 0 -/
def dvI {α : Type} (i : Int32) (k : Option α) : Option α := if i = 0 then none else k
def dvL {α : Type} (i : Int64) (k : Option α) : Option α := if i = 0 then none else k
theorem dvI_some {α : Type} {i : Int32} {k : Option α} {z : α} (h : dvI i k = some z) : ¬ i = 0 ∧ k = some z := by
  unfold dvI at h
  split at h
  · cases h
  · rename_i q
    exact ⟨q, h⟩
theorem dvL_some {α : Type} {i : Int64} {k : Option α} {z : α} (h : dvL i k = some z) : ¬ i = 0 ∧ k = some z := by
  unfold dvL at h
  split at h
  · cases h
  · rename_i q
    exact ⟨q, h⟩
/-- a copy whose bounds must hold -/
def cpyG {α : Type} (sp dp n : Int32) (a b : Nat) (k : Option α) : Option α := if 0 ≤ sp.toInt ∧ 0 ≤ dp.toInt ∧ 0 ≤ n.toInt ∧ sp.toInt + n.toInt ≤ a ∧ dp.toInt + n.toInt ≤ b then k else none
theorem ite_t {α : Type} {c : Prop} [Decidable c] {a b z : α} (h : c) (hf : (if c then a else b) = z) : a = z := by rw [if_pos h] at hf; exact hf
theorem ite_f {α : Type} {c : Prop} [Decidable c] {a b z : α} (h : ¬ c) (hf : (if c then a else b) = z) : b = z := by rw [if_neg h] at hf; exact hf
theorem bind_s {α β : Type} {o : Option α} {f : α → Option β} {z : β} (h : o.bind f = some z) : ∃ a, o = some a ∧ f a = some z := by
  cases o with
  | none => cases h
  | some a => exact ⟨a, rfl, h⟩
theorem bind_p {α α' β : Type} {o : Option (α × α')} {f : α × α' → Option β} {z : β} (h : o.bind f = some z) : ∃ a b, o = some (a, b) ∧ f (a, b) = some z := by
  cases o with
  | none => cases h
  | some a => exact ⟨a.1, a.2, rfl, h⟩
def FU : Nat := 10000
-- ===== the world =====
abbrev Wp : Type := (Nat → Prop) × (Nat → Nat) × (Nat → Nat) × (Nat → Nat) × va_G × ClassId × ClassId × ClassId × ClassId
abbrev wA (w : Wp) : Nat → Prop := w.1
abbrev wa (w : Wp) : Nat → Nat := w.2.1
abbrev wK (w : Wp) : Nat → Nat := w.2.2.1
abbrev wl (w : Wp) : Nat → Nat := w.2.2.2.1
abbrev wD (w : Wp) : va_G := w.2.2.2.2.1
abbrev wcI (w : Wp) : ClassId := w.2.2.2.2.2.1
abbrev wcJ (w : Wp) : ClassId := w.2.2.2.2.2.2.1
abbrev wcF (w : Wp) : ClassId := w.2.2.2.2.2.2.2.1
abbrev wcM (w : Wp) : ClassId := w.2.2.2.2.2.2.2.2
def rv (w : Wp) (o : Option Nat) : Value := va_rf (o.map (wa w))
abbrev rf (w : Wp) (t : Nat) : Value := .ref (wa w t)
/-- the fields of each class, the refs by their tags -/
def fs0 (w : Wp) (t : Nat) (i : Nat → Int32) (_ : Nat → Int64) : List Value := [.int (i 0), .int (i 1), .int (i 2), .int (i 3), rf w (t+1), rf w (t+2), rf w (t+3), .int (i 7)]
def fs1 (_ : Wp) (_ : Nat) (i : Nat → Int32) (_ : Nat → Int64) : List Value := [.int (i 0), .int (i 1), .int (i 2), .int (i 3), .int (i 4), .int (i 5), .int (i 6), .int (i 7)]
def fs2 (w : Wp) (t : Nat) (i : Nat → Int32) (_ : Nat → Int64) : List Value := [rf w (t+1), rf w (t+2), rf w (t+3), rf w (t+4), .int (i 4), .int (i 5), .int (i 6), .int (i 7), .int (i 8)]
def fs3 (w : Wp) (t : Nat) (i : Nat → Int32) (_ : Nat → Int64) : List Value := [rf w (t+1), .int (i 1), rf w (t+2)]
def fs4 (w : Wp) (t : Nat) (i : Nat → Int32) (_ : Nat → Int64) : List Value := [rf w (t+1), .int (i 1)]
def fs5 (_ : Wp) (_ : Nat) (_ : Nat → Int32) (l : Nat → Int64) : List Value := [.long (l 0), .long (l 1), .long (l 2), .long (l 3)]
def fs6 (w : Wp) (t : Nat) (i : Nat → Int32) (_ : Nat → Int64) : List Value := [.int (i 0), .int (i 1), rf w (t+1), rf w (t+2), rf w (t+4), rf w (t+7), rf w (t+12), rf w (t+17), rf w (t+18)]
def fs7 (w : Wp) (t : Nat) (i : Nat → Int32) (_ : Nat → Int64) : List Value := [.int (i 0), .int (i 1), rf w (t+1), rf w (t+2), rf w (t+3), rf w (t+4), rf w (t+5), rf w (t+6), rf w (t+7), .int (i 9), rf w (t+8), rf w (t+9), rf w (t+10), rf w (t+11), rf w (t+12), rf w (t+13), rf w (t+14), rf w (t+15), rf w (t+16), rf w (t+17), rf w (t+18), rf w (t+19), rf w (t+20), .int (i 23), rf w (t+21), rf w (t+22), rf w (t+23)]
/-- a cell by its kind: 1..8 the classes 0..7, 9 int[], 10 long[], 11 Figure[], 12 Move[] -/
def ce (w : Wp) (t : Nat) (i : Nat → Int32) (l : Nat → Int64) (r : Nat → Option Nat) : va_E := match wK w t with
  | 1 => .inr (0, fs0 w t i l)
  | 2 => .inr (1, fs1 w t i l)
  | 3 => .inr (2, fs2 w t i l)
  | 4 => .inr (3, fs3 w t i l)
  | 5 => .inr (4, fs4 w t i l)
  | 6 => .inr (5, fs5 w t i l)
  | 7 => .inr (6, fs6 w t i l)
  | 8 => .inr (7, fs7 w t i l)
  | 9 => .inl (wcI w, wl w t, .inl i)
  | 10 => .inl (wcJ w, wl w t, .inr (.inl l))
  | 11 => .inl (wcF w, wl w t, .inr (.inr (.inr (.inr (fun j => (r j).map (wa w))))))
  | 13 => .inr (0, [.int 0, .int 0, .int 0, .int 0, .null, .null, .null, .int 0])
  | 14 => .inr (1, [.int 0, .int 0, .int 0, .int 0, .int 0, .int 0, .int 0, .int 0])
  | 12 => .inl (wcM w, wl w t, .inr (.inr (.inr (.inr (fun j => (r j).map (wa w))))))
  | _ => .inr (1, [])
abbrev ceS (w : Wp) (t : Nat) (σ : St) : va_E := ce w t (σ.1 t) (σ.2.1 t) (σ.2.2 t)
section CE
variable {w : Wp} {t : Nat} {i : Nat → Int32} {l : Nat → Int64} {r : Nat → Option Nat}
theorem ce1 (h : wK w t = 1) : ce w t i l r = .inr (0, fs0 w t i l) := by simp only [ce, h]
theorem ce2 (h : wK w t = 2) : ce w t i l r = .inr (1, fs1 w t i l) := by simp only [ce, h]
theorem ce3 (h : wK w t = 3) : ce w t i l r = .inr (2, fs2 w t i l) := by simp only [ce, h]
theorem ce4 (h : wK w t = 4) : ce w t i l r = .inr (3, fs3 w t i l) := by simp only [ce, h]
theorem ce5 (h : wK w t = 5) : ce w t i l r = .inr (4, fs4 w t i l) := by simp only [ce, h]
theorem ce6 (h : wK w t = 6) : ce w t i l r = .inr (5, fs5 w t i l) := by simp only [ce, h]
theorem ce7 (h : wK w t = 7) : ce w t i l r = .inr (6, fs6 w t i l) := by simp only [ce, h]
theorem ce8 (h : wK w t = 8) : ce w t i l r = .inr (7, fs7 w t i l) := by simp only [ce, h]
theorem ce9 (h : wK w t = 9) : ce w t i l r = .inl (wcI w, wl w t, .inl i) := by simp only [ce, h]
theorem ce10 (h : wK w t = 10) : ce w t i l r = .inl (wcJ w, wl w t, .inr (.inl l)) := by simp only [ce, h]
theorem ce11 (h : wK w t = 11) : ce w t i l r = .inl (wcF w, wl w t, .inr (.inr (.inr (.inr (fun j => (r j).map (wa w)))))) := by simp only [ce, h]
theorem ce12 (h : wK w t = 12) : ce w t i l r = .inl (wcM w, wl w t, .inr (.inr (.inr (.inr (fun j => (r j).map (wa w)))))) := by simp only [ce, h]
theorem ce13 (h : wK w t = 13) : ce w t i l r = .inr (0, [.int 0, .int 0, .int 0, .int 0, .null, .null, .null, .int 0]) := by simp only [ce, h]
theorem ce14 (h : wK w t = 14) : ce w t i l r = .inr (1, [.int 0, .int 0, .int 0, .int 0, .int 0, .int 0, .int 0, .int 0]) := by simp only [ce, h]
end CE
/-- what refs lead to -/
def WT (w : Wp) (σ : St) : Prop := (∀ t j t', wK w t = 11 → σ.2.2 t j = some t' → wK w t' = 1) ∧ (∀ t j t', wK w t = 12 → σ.2.2 t j = some t' → wK w t' = 2) ∧ ∀ t t', wK w t ≠ 0 → wK w t' ≠ 0 → wa w t = wa w t' → t = t'
def Wd (w : Wp) (σ : St) (H : Heap) : Prop := (∀ t, wK w t ≠ 0 → va_at (wD w) vwCl (wa w t, ceS w t σ) H ∧ wA w (wa w t)) ∧ WT w σ
/-- the tables' words that a call doesn't keep by itself -/
def NZ (U : State) : Prop := va_Nw (.methodLinkNest "JointedShadows$Figure" 37 yX6_inRange "JointedShadows") U ∧ va_Nw (.fieldLinkNest "JointedShadows$Pose" 124 "JointedShadows" "STEP_X" "[I" "JointedShadows") U ∧ va_Nw (.fieldLinkNest "JointedShadows$Pose" 127 "JointedShadows" "STEP_Y" "[I" "JointedShadows") U
theorem NZ.warm {s U : State} (hW : s.WarmedH U.vm) (h : NZ s) : NZ U := ⟨va_Nw.warmM hW h.1, va_Nw.warmF hW h.2.1, va_Nw.warmF hW h.2.2⟩
theorem NZ.same {s U : State} (hv : s.vm = U.vm) (h : NZ s) : NZ U := ⟨va_Nw.same rfl hv h.1, va_Nw.same rfl hv h.2.1, va_Nw.same rfl hv h.2.2⟩
def stX : Nat → Int32 := fun j => [1, 1, 0, -1, -1, -1, 0, 1].getD j 0
def stY : Nat → Int32 := fun j => [0, 1, 1, 1, 0, -1, -1, -1].getD j 0
abbrev TYS (w : Wp) : List (ClassId × FieldType) := [(wcI w, .int), (wcJ w, .long), (wcF w, .object "JointedShadows$Figure"), (wcM w, .object "JointedShadows$Move")]
def SX (w : Wp) (U : State) (H : Heap) : Prop := ∃ a b : Nat, va_Z "JointedShadows" "STEP_X" "[I" (.ref a) (wA w) U H ∧ va_T .int a 8 (fun j => .int (stX j)) (wA w) U H ∧ va_Z "JointedShadows" "STEP_Y" "[I" (.ref b) (wA w) U H ∧ va_T .int b 8 (fun j => .int (stY j)) (wA w) U H
def Kx (w : Wp) (U : State) : Prop := va_K (wD w) vwCl (TYS w) U ∧ NZ U ∧ SX w U U.heap ∧ ∀ q, U.heap.size ≤ q → wA w q
/-- a contract's start and ends -/
def Pre (w : Wp) (σ : St) (av : List Value) : Array Value → State → Prop := va_Pc av (fun U => Wd w σ U.heap ∧ Kx w U)
abbrev QI := Array Value → State → Outcome → State → Prop
def Qi (w : Wp) (σ : St) (r : Int32) : QI := va_Qi (fun r' (_ : Unit) => r' = r) (fun _ t => Wd w σ t.heap) (wA w)
def Bz (r : Int32) : Prop := narrow .boolean (.int r) = .int r
def Qz (w : Wp) (σ : St) (r : Int32) : QI := va_Qi (fun r' (_ : Unit) => r' = r ∧ Bz r) (fun _ t => Wd w σ t.heap) (wA w)
def Ql (w : Wp) (σ : St) (r : Int64) : QI := va_Ql (fun r' (_ : Unit) => r' = r) (fun _ t => Wd w σ t.heap) (wA w)
def Qv (w : Wp) (σ : St) : QI := va_Qv (fun (_ : Unit) => True) (fun _ t => Wd w σ t.heap) (wA w)
/-- a reference or null: its tag, and the kind that it has -/
def Qq (w : Wp) (σ : St) (kd : Nat) (r : Option Nat) : QI := va_Qq (fun r' (_ : Unit) => r' = r.map (wa w) ∧ ∀ t, r = some t → wK w t = kd) (fun _ t => Wd w σ t.heap) (wA w)
abbrev CM (l : Launch) (w : Wp) (y : MethodName) (b : ByteArray) (n : Nat) (ret : Option FieldType) (rm : Room) (av : List Value) (σ : St) (Q : QI) : Prop := Met l y (.code y b n ret :: GT) rm (Pre w σ av) Q rm.cells rm.slots (wA w)
abbrev rmz (f n : Nat) : Room := { frames := f, cells := 0, slots := 0, locals := n }
-- ===== the judgement =====
abbrev Cx : Type := Program × Launch × Env × Room × State × MethodId × Array Value × List Frame × Method × Code × (State → Prop) × Nat × Nat
abbrev xp (X : Cx) : Program := X.1
abbrev xl (X : Cx) : Launch := X.2.1
abbrev xe (X : Cx) : Env := X.2.2.1
abbrev xR (X : Cx) : Room := X.2.2.2.1
abbrev xs (X : Cx) : State := X.2.2.2.2.1
abbrev xm (X : Cx) : MethodId := X.2.2.2.2.2.1
abbrev xa (X : Cx) : Array Value := X.2.2.2.2.2.2.1
abbrev xb (X : Cx) : List Frame := X.2.2.2.2.2.2.2.1
abbrev xM (X : Cx) : Method := X.2.2.2.2.2.2.2.2.1
abbrev xc (X : Cx) : Code := X.2.2.2.2.2.2.2.2.2.1
abbrev xQ (X : Cx) : State → Prop := X.2.2.2.2.2.2.2.2.2.2.1
abbrev xcl (X : Cx) : Nat := X.2.2.2.2.2.2.2.2.2.2.2.1
abbrev xsl (X : Cx) : Nat := X.2.2.2.2.2.2.2.2.2.2.2.2
def J (X : Cx) (w : Wp) (nL : Nat) (σ : St) (pc : Nat) (lv : List (Nat × Value)) (st : List Value) : Prop :=
  ∀ (H : Heap) (locs : List Loc) (ls : Array Slot), Wd w σ H → va_S (wA w) (xs X).heap H locs → lv_has ls nL lv → W (xp X) (xl X) (xe X) (xR X) (xs X) (xm X) (xa X) (xb X) (xM X) (xc X) H locs (xcl X) (xsl X) (xQ X) (F0 (xm X) pc ls st)
/-- what a method's body knows -/
def OK (X : Cx) (w : Wp) (cc : ByteArray) (nL : Nat) (own : String) (ret : Option FieldType) (rm : Room) (Q : QI) : Prop :=
  (xp X).tables.exec = Jvm.exec ∧ (xc X).code = cc ∧ (xc X).maxLocals = nL ∧ (xs X).vm.findClass own = some (xm X).cls ∧ (∀ w ∈ GT, w.before (xa X) (xs X) = true) ∧ Kx w (xs X) ∧ (xM X).sig.returnType = ret ∧ (xM X).locks = false ∧ xR X = rm ∧ xQ X = MQ (xb X) Q (xa X) (xs X) rm.cells rm.slots (wA w) ∧ xcl X ≤ rm.cells ∧ xsl X ≤ rm.slots
theorem CM.of {l : Launch} {w : Wp} {y : MethodName} {b : ByteArray} {n : Nat} {ret : Option FieldType} {rm : Room} {av : List Value} {σ : St} {Q : QI} (hy : plainFor y = true) (hn : (lg_sl av).length ≤ n)
    (body : ∀ X : Cx, xcl X = 0 ∧ xsl X = 0 → OK X w b n y.cls ret rm Q → J X w n σ 0 (lv_args 0 av) []) : CM l w y b n ret rm av σ Q := by
  refine va_MetF (cc := b) (maxL := n) (ret := ret) hy rfl ?_
  intro p e s m args below meth c s₁ B hml hv
  obtain ⟨rfl, hWd, hK⟩ := hv
  have hts := atoms_spec (ws := .code y b n ret :: GT) B.pre
  have hown : s.vm.findClass y.cls = some m.cls := findClass_of_methodNamed B.named
  have hl := lv_entry av (n := n) hn
  rw [lg_entry_eq]
  exact body (p, l, e, rm, s, m, av.toArray, below, meth, c, MQ below Q av.toArray s rm.cells rm.slots (wA w), 0, 0) ⟨rfl, rfl⟩ ⟨B.exec, B.bytes, hml, hown, fun w hw => hts w (List.mem_cons_of_mem _ hw), hK, B.returns, B.notSynchronized, rfl, rfl, Nat.zero_le _, Nat.zero_le _⟩ s.heap [] _ hWd va_S.rf hl
section ROWS
variable {X : Cx} {w : Wp} {cc : ByteArray} {nL : Nat} {own : String} {ret : Option FieldType} {rm : Room} {Q : QI} {σ : St} {pc : Nat} {lv lv' : List (Nat × Value)} {rest : List Value}
theorem J.sub (ks : List Nat) (h : lv_pick lv ks = lv') (k : J X w nL σ pc lv' rest) : J X w nL σ pc lv rest := fun H locs ls a b c => k H locs ls a b (lv_sub c ks h)
theorem r_iconst (hX : OK X w cc nL own ret rm Q) {n : Int} {v : Int32} (hdg : decode cc pc = .ok (.iconst n, 1)) (hv : Int32.ofInt n = v) (k : J X w nL σ (pc + 1) lv (.int v :: rest)) : J X w nL σ pc lv rest := fun H locs ls a b c => lv_iconst hX.1 hX.2.1 hdg hv (k H locs ls a b c)
theorem r_bipush (hX : OK X w cc nL own ret rm Q) {n : Int} {v : Int32} (hdg : decode cc pc = .ok (.bipush n, 2)) (hv : (Int8.ofInt n).toInt32 = v) (k : J X w nL σ (pc + 2) lv (.int v :: rest)) : J X w nL σ pc lv rest := fun H locs ls a b c => lv_bipush hX.1 hX.2.1 hdg hv (k H locs ls a b c)
theorem r_sipush (hX : OK X w cc nL own ret rm Q) {n : Int} {v : Int32} (hdg : decode cc pc = .ok (.sipush n, 3)) (hv : (Int16.ofInt n).toInt32 = v) (k : J X w nL σ (pc + 3) lv (.int v :: rest)) : J X w nL σ pc lv rest := fun H locs ls a b c => lv_sipush hX.1 hX.2.1 hdg hv (k H locs ls a b c)
theorem r_lconst (hX : OK X w cc nL own ret rm Q) {n : Fin 2} {v : Int64} (hdg : decode cc pc = .ok (.lconst n, 1)) (hv : Int64.ofNat (n : Nat) = v) (k : J X w nL σ (pc + 1) lv (.long v :: rest)) : J X w nL σ pc lv rest := fun H locs ls a b c => lv_lconst hX.1 hX.2.1 hdg hv (k H locs ls a b c)
theorem r_iload_n (hX : OK X w cc nL own ret rm Q) {k : Fin 4} {i : Nat} {x : Int32} (hdg : decode cc pc = .ok (.iload_n k, 1)) (hi : (k : Nat) = i) (j : Nat) (hj : lv[j]? = some (i, .int x)) (kk : J X w nL σ (pc + 1) lv (.int x :: rest)) : J X w nL σ pc lv rest := fun H locs ls a b c => lv_iload_n hX.1 hX.2.1 hdg hi (lv_at c j hj) (kk H locs ls a b c)
theorem r_iload (hX : OK X w cc nL own ret rm Q) {i : Nat} {x : Int32} (hdg : decode cc pc = .ok (.iload i, 2)) (j : Nat) (hj : lv[j]? = some (i, .int x)) (kk : J X w nL σ (pc + 2) lv (.int x :: rest)) : J X w nL σ pc lv rest := fun H locs ls a b c => lv_iload hX.1 hX.2.1 hdg (lv_at c j hj) (kk H locs ls a b c)
theorem r_lload_n (hX : OK X w cc nL own ret rm Q) {k : Fin 4} {i : Nat} {x : Int64} (hdg : decode cc pc = .ok (.lload_n k, 1)) (hi : (k : Nat) = i) (j : Nat) (hj : lv[j]? = some (i, .long x)) (kk : J X w nL σ (pc + 1) lv (.long x :: rest)) : J X w nL σ pc lv rest := fun H locs ls a b c => lv_lload_n hX.1 hX.2.1 hdg hi (lv_at c j hj) (kk H locs ls a b c)
theorem r_lload (hX : OK X w cc nL own ret rm Q) {i : Nat} {x : Int64} (hdg : decode cc pc = .ok (.lload i, 2)) (j : Nat) (hj : lv[j]? = some (i, .long x)) (kk : J X w nL σ (pc + 2) lv (.long x :: rest)) : J X w nL σ pc lv rest := fun H locs ls a b c => lv_lload hX.1 hX.2.1 hdg (lv_at c j hj) (kk H locs ls a b c)
theorem r_aload_n (hX : OK X w cc nL own ret rm Q) {k : Fin 4} {i t : Nat} (hdg : decode cc pc = .ok (.aload_n k, 1)) (hi : (k : Nat) = i) (j : Nat) (hj : lv[j]? = some (i, rf w t)) (kk : J X w nL σ (pc + 1) lv (rf w t :: rest)) : J X w nL σ pc lv rest := fun H locs ls a b c => lv_aload_n hX.1 hX.2.1 hdg hi (lv_at c j hj) (kk H locs ls a b c)
theorem r_aload (hX : OK X w cc nL own ret rm Q) {i t : Nat} (hdg : decode cc pc = .ok (.aload i, 2)) (j : Nat) (hj : lv[j]? = some (i, rf w t)) (kk : J X w nL σ (pc + 2) lv (rf w t :: rest)) : J X w nL σ pc lv rest := fun H locs ls a b c => lv_aload hX.1 hX.2.1 hdg (lv_at c j hj) (kk H locs ls a b c)
theorem r_aload_nQ (hX : OK X w cc nL own ret rm Q) {k : Fin 4} {i : Nat} {o : Option Nat} (hdg : decode cc pc = .ok (.aload_n k, 1)) (hi : (k : Nat) = i) (j : Nat) (hj : lv[j]? = some (i, rv w o)) (kk : J X w nL σ (pc + 1) lv (rv w o :: rest)) : J X w nL σ pc lv rest := fun H locs ls a b c => by
  cases o with
  | none => exact lv_aload_nN hX.1 hX.2.1 hdg hi (lv_at c j hj) (kk H locs ls a b c)
  | some t => exact lv_aload_n hX.1 hX.2.1 hdg hi (lv_at c j hj) (kk H locs ls a b c)
theorem r_aloadQ (hX : OK X w cc nL own ret rm Q) {i : Nat} {o : Option Nat} (hdg : decode cc pc = .ok (.aload i, 2)) (j : Nat) (hj : lv[j]? = some (i, rv w o)) (kk : J X w nL σ (pc + 2) lv (rv w o :: rest)) : J X w nL σ pc lv rest := fun H locs ls a b c => by
  cases o with
  | none => exact lv_aloadN hX.1 hX.2.1 hdg (lv_at c j hj) (kk H locs ls a b c)
  | some t => exact lv_aload hX.1 hX.2.1 hdg (lv_at c j hj) (kk H locs ls a b c)
theorem r_istore_n (hX : OK X w cc nL own ret rm Q) {k : Fin 4} {i : Nat} {x : Int32} (hdg : decode cc pc = .ok (.istore_n k, 1)) (hi : (k : Nat) = i) (hn : i < nL) (hl : (i, Value.int x) :: lv.filter (fun q => !(q.1 == i) && !(q.1 + 1 == i && q.2.category == 2)) = lv') (kk : J X w nL σ (pc + 1) lv' rest) : J X w nL σ pc lv (.int x :: rest) := fun H locs _ a b c => lv_istore_n hX.1 hX.2.1 hdg hi c hn hl (fun ls' h' => kk H locs ls' a b h')
theorem r_istore (hX : OK X w cc nL own ret rm Q) {i : Nat} {x : Int32} (hdg : decode cc pc = .ok (.istore i, 2)) (hn : i < nL) (hl : (i, Value.int x) :: lv.filter (fun q => !(q.1 == i) && !(q.1 + 1 == i && q.2.category == 2)) = lv') (kk : J X w nL σ (pc + 2) lv' rest) : J X w nL σ pc lv (.int x :: rest) := fun H locs _ a b c => lv_istore hX.1 hX.2.1 hdg c hn hl (fun ls' h' => kk H locs ls' a b h')
theorem r_lstore_n (hX : OK X w cc nL own ret rm Q) {k : Fin 4} {i : Nat} {x : Int64} (hdg : decode cc pc = .ok (.lstore_n k, 1)) (hi : (k : Nat) = i) (hn : i + 1 < nL) (hl : (i, Value.long x) :: lv.filter (fun q => !(q.1 == i) && (!(q.1 == i + 1) && !(q.1 + 1 == i && q.2.category == 2))) = lv') (kk : J X w nL σ (pc + 1) lv' rest) : J X w nL σ pc lv (.long x :: rest) := fun H locs _ a b c => lv_lstore_n hX.1 hX.2.1 hdg hi c hn hl (fun ls' h' => kk H locs ls' a b h')
theorem r_lstore (hX : OK X w cc nL own ret rm Q) {i : Nat} {x : Int64} (hdg : decode cc pc = .ok (.lstore i, 2)) (hn : i + 1 < nL) (hl : (i, Value.long x) :: lv.filter (fun q => !(q.1 == i) && (!(q.1 == i + 1) && !(q.1 + 1 == i && q.2.category == 2))) = lv') (kk : J X w nL σ (pc + 2) lv' rest) : J X w nL σ pc lv (.long x :: rest) := fun H locs _ a b c => lv_lstore hX.1 hX.2.1 hdg c hn hl (fun ls' h' => kk H locs ls' a b h')
theorem r_astore_n (hX : OK X w cc nL own ret rm Q) {k : Fin 4} {i t : Nat} (hdg : decode cc pc = .ok (.astore_n k, 1)) (hi : (k : Nat) = i) (hn : i < nL) (hl : (i, rf w t) :: lv.filter (fun q => !(q.1 == i) && !(q.1 + 1 == i && q.2.category == 2)) = lv') (kk : J X w nL σ (pc + 1) lv' rest) : J X w nL σ pc lv (rf w t :: rest) := fun H locs _ a b c => lv_astore_n hX.1 hX.2.1 hdg hi c hn hl (fun ls' h' => kk H locs ls' a b h')
theorem r_astore (hX : OK X w cc nL own ret rm Q) {i t : Nat} (hdg : decode cc pc = .ok (.astore i, 2)) (hn : i < nL) (hl : (i, rf w t) :: lv.filter (fun q => !(q.1 == i) && !(q.1 + 1 == i && q.2.category == 2)) = lv') (kk : J X w nL σ (pc + 2) lv' rest) : J X w nL σ pc lv (rf w t :: rest) := fun H locs _ a b c => lv_astore hX.1 hX.2.1 hdg c hn hl (fun ls' h' => kk H locs ls' a b h')
theorem r_astore_nQ (hX : OK X w cc nL own ret rm Q) {k : Fin 4} {i : Nat} {o : Option Nat} (hdg : decode cc pc = .ok (.astore_n k, 1)) (hi : (k : Nat) = i) (hn : i < nL) (hl : (i, rv w o) :: lv.filter (fun q => !(q.1 == i) && !(q.1 + 1 == i && q.2.category == 2)) = lv') (kk : J X w nL σ (pc + 1) lv' rest) : J X w nL σ pc lv (rv w o :: rest) := fun H locs _ a b c => by
  cases o with
  | none => exact lv_astore_nN hX.1 hX.2.1 hdg hi c hn hl (fun ls' h' => kk H locs ls' a b h')
  | some t => exact lv_astore_n hX.1 hX.2.1 hdg hi c hn hl (fun ls' h' => kk H locs ls' a b h')
theorem r_astoreQ (hX : OK X w cc nL own ret rm Q) {i : Nat} {o : Option Nat} (hdg : decode cc pc = .ok (.astore i, 2)) (hn : i < nL) (hl : (i, rv w o) :: lv.filter (fun q => !(q.1 == i) && !(q.1 + 1 == i && q.2.category == 2)) = lv') (kk : J X w nL σ (pc + 2) lv' rest) : J X w nL σ pc lv (rv w o :: rest) := fun H locs _ a b c => by
  cases o with
  | none => exact lv_astoreN hX.1 hX.2.1 hdg c hn hl (fun ls' h' => kk H locs ls' a b h')
  | some t => exact lv_astore hX.1 hX.2.1 hdg c hn hl (fun ls' h' => kk H locs ls' a b h')
theorem r_iinc (hX : OK X w cc nL own ret rm Q) {i : Nat} {n : Int} {x v : Int32} (hdg : decode cc pc = .ok (.iinc i n, 3)) (j : Nat) (hj : lv[j]? = some (i, .int x)) (hv : x + Int32.ofInt n = v) (hn : i < nL) (hl : (i, Value.int v) :: lv.filter (fun q => !(q.1 == i) && !(q.1 + 1 == i && q.2.category == 2)) = lv') (kk : J X w nL σ (pc + 3) lv' rest) : J X w nL σ pc lv rest := fun H locs _ a b c => lv_iinc hX.1 hX.2.1 hdg c hj hv hn hl (fun ls' h' => kk H locs ls' a b h')
theorem r_iadd (hX : OK X w cc nL own ret rm Q) {x y : Int32} (hdg : decode cc pc = .ok (.iadd, 1)) (k : J X w nL σ (pc + 1) lv (.int (x + y) :: rest)) : J X w nL σ pc lv (.int y :: .int x :: rest) := fun H locs ls a b c => lv_iadd hX.1 hX.2.1 hdg (k H locs ls a b c)
theorem r_isub (hX : OK X w cc nL own ret rm Q) {x y : Int32} (hdg : decode cc pc = .ok (.isub, 1)) (k : J X w nL σ (pc + 1) lv (.int (x - y) :: rest)) : J X w nL σ pc lv (.int y :: .int x :: rest) := fun H locs ls a b c => lv_isub hX.1 hX.2.1 hdg (k H locs ls a b c)
theorem r_imul (hX : OK X w cc nL own ret rm Q) {x y : Int32} (hdg : decode cc pc = .ok (.imul, 1)) (k : J X w nL σ (pc + 1) lv (.int (x * y) :: rest)) : J X w nL σ pc lv (.int y :: .int x :: rest) := fun H locs ls a b c => lv_imul hX.1 hX.2.1 hdg (k H locs ls a b c)
theorem r_iand (hX : OK X w cc nL own ret rm Q) {x y : Int32} (hdg : decode cc pc = .ok (.iand, 1)) (k : J X w nL σ (pc + 1) lv (.int (x &&& y) :: rest)) : J X w nL σ pc lv (.int y :: .int x :: rest) := fun H locs ls a b c => lv_iand hX.1 hX.2.1 hdg (k H locs ls a b c)
theorem r_ior (hX : OK X w cc nL own ret rm Q) {x y : Int32} (hdg : decode cc pc = .ok (.ior, 1)) (k : J X w nL σ (pc + 1) lv (.int (x ||| y) :: rest)) : J X w nL σ pc lv (.int y :: .int x :: rest) := fun H locs ls a b c => lv_ior hX.1 hX.2.1 hdg (k H locs ls a b c)
theorem r_ixor (hX : OK X w cc nL own ret rm Q) {x y : Int32} (hdg : decode cc pc = .ok (.ixor, 1)) (k : J X w nL σ (pc + 1) lv (.int (x ^^^ y) :: rest)) : J X w nL σ pc lv (.int y :: .int x :: rest) := fun H locs ls a b c => lv_ixor hX.1 hX.2.1 hdg (k H locs ls a b c)
theorem r_idiv (hX : OK X w cc nL own ret rm Q) {x y : Int32} (hdg : decode cc pc = .ok (.idiv, 1)) (hne : ¬ y = 0) (k : J X w nL σ (pc + 1) lv (.int (x / y) :: rest)) : J X w nL σ pc lv (.int y :: .int x :: rest) := fun H locs ls a b c => lv_idiv hX.1 hX.2.1 hdg hne (k H locs ls a b c)
theorem r_irem (hX : OK X w cc nL own ret rm Q) {x y : Int32} (hdg : decode cc pc = .ok (.irem, 1)) (hne : ¬ y = 0) (k : J X w nL σ (pc + 1) lv (.int (x - x / y * y) :: rest)) : J X w nL σ pc lv (.int y :: .int x :: rest) := fun H locs ls a b c => lv_irem hX.1 hX.2.1 hdg hne (k H locs ls a b c)
theorem r_ineg (hX : OK X w cc nL own ret rm Q) {x : Int32} (hdg : decode cc pc = .ok (.ineg, 1)) (k : J X w nL σ (pc + 1) lv (.int (-x) :: rest)) : J X w nL σ pc lv (.int x :: rest) := fun H locs ls a b c => lv_ineg hX.1 hX.2.1 hdg (k H locs ls a b c)
theorem r_ladd (hX : OK X w cc nL own ret rm Q) {x y : Int64} (hdg : decode cc pc = .ok (.ladd, 1)) (k : J X w nL σ (pc + 1) lv (.long (x + y) :: rest)) : J X w nL σ pc lv (.long y :: .long x :: rest) := fun H locs ls a b c => lv_ladd hX.1 hX.2.1 hdg (k H locs ls a b c)
theorem r_lsub (hX : OK X w cc nL own ret rm Q) {x y : Int64} (hdg : decode cc pc = .ok (.lsub, 1)) (k : J X w nL σ (pc + 1) lv (.long (x - y) :: rest)) : J X w nL σ pc lv (.long y :: .long x :: rest) := fun H locs ls a b c => lv_lsub hX.1 hX.2.1 hdg (k H locs ls a b c)
theorem r_lmul (hX : OK X w cc nL own ret rm Q) {x y : Int64} (hdg : decode cc pc = .ok (.lmul, 1)) (k : J X w nL σ (pc + 1) lv (.long (x * y) :: rest)) : J X w nL σ pc lv (.long y :: .long x :: rest) := fun H locs ls a b c => lv_lmul hX.1 hX.2.1 hdg (k H locs ls a b c)
theorem r_land (hX : OK X w cc nL own ret rm Q) {x y : Int64} (hdg : decode cc pc = .ok (.land, 1)) (k : J X w nL σ (pc + 1) lv (.long (x &&& y) :: rest)) : J X w nL σ pc lv (.long y :: .long x :: rest) := fun H locs ls a b c => lv_land hX.1 hX.2.1 hdg (k H locs ls a b c)
theorem r_lor (hX : OK X w cc nL own ret rm Q) {x y : Int64} (hdg : decode cc pc = .ok (.lor, 1)) (k : J X w nL σ (pc + 1) lv (.long (x ||| y) :: rest)) : J X w nL σ pc lv (.long y :: .long x :: rest) := fun H locs ls a b c => lv_lor hX.1 hX.2.1 hdg (k H locs ls a b c)
theorem r_lxor (hX : OK X w cc nL own ret rm Q) {x y : Int64} (hdg : decode cc pc = .ok (.lxor, 1)) (k : J X w nL σ (pc + 1) lv (.long (x ^^^ y) :: rest)) : J X w nL σ pc lv (.long y :: .long x :: rest) := fun H locs ls a b c => lv_lxor hX.1 hX.2.1 hdg (k H locs ls a b c)
theorem r_ldiv (hX : OK X w cc nL own ret rm Q) {x y : Int64} (hdg : decode cc pc = .ok (.ldiv, 1)) (hne : ¬ y = 0) (k : J X w nL σ (pc + 1) lv (.long (x / y) :: rest)) : J X w nL σ pc lv (.long y :: .long x :: rest) := fun H locs ls a b c => lv_ldiv hX.1 hX.2.1 hdg hne (k H locs ls a b c)
theorem r_lrem (hX : OK X w cc nL own ret rm Q) {x y : Int64} (hdg : decode cc pc = .ok (.lrem, 1)) (hne : ¬ y = 0) (k : J X w nL σ (pc + 1) lv (.long (x - x / y * y) :: rest)) : J X w nL σ pc lv (.long y :: .long x :: rest) := fun H locs ls a b c => lv_lrem hX.1 hX.2.1 hdg hne (k H locs ls a b c)
theorem r_lneg (hX : OK X w cc nL own ret rm Q) {x : Int64} (hdg : decode cc pc = .ok (.lneg, 1)) (k : J X w nL σ (pc + 1) lv (.long (-x) :: rest)) : J X w nL σ pc lv (.long x :: rest) := fun H locs ls a b c => lv_lneg hX.1 hX.2.1 hdg (k H locs ls a b c)
theorem r_ishl (hX : OK X w cc nL own ret rm Q) {x y : Int32} (hdg : decode cc pc = .ok (.ishl, 1)) (k : J X w nL σ (pc + 1) lv (.int (x <<< (y &&& 31)) :: rest)) : J X w nL σ pc lv (.int y :: .int x :: rest) := fun H locs ls a b c => lv_ishl hX.1 hX.2.1 hdg (k H locs ls a b c)
theorem r_ishr (hX : OK X w cc nL own ret rm Q) {x y : Int32} (hdg : decode cc pc = .ok (.ishr, 1)) (k : J X w nL σ (pc + 1) lv (.int (x >>> (y &&& 31)) :: rest)) : J X w nL σ pc lv (.int y :: .int x :: rest) := fun H locs ls a b c => lv_ishr hX.1 hX.2.1 hdg (k H locs ls a b c)
def ush (x y : Int32) : Int32 := (x.toUInt32 >>> (y.toUInt32 &&& Int32.toUInt32 31)).toInt32
theorem r_iushr (hX : OK X w cc nL own ret rm Q) {x y : Int32} (hdg : decode cc pc = .ok (.iushr, 1)) (k : J X w nL σ (pc + 1) lv (.int (ush x y) :: rest)) : J X w nL σ pc lv (.int y :: .int x :: rest) := fun H locs ls a b c => lv_iushr hX.1 hX.2.1 hdg rfl (k H locs ls a b c)
theorem r_i2l (hX : OK X w cc nL own ret rm Q) {x : Int32} (hdg : decode cc pc = .ok (.i2l, 1)) (k : J X w nL σ (pc + 1) lv (.long x.toInt64 :: rest)) : J X w nL σ pc lv (.int x :: rest) := fun H locs ls a b c => lv_i2l hX.1 hX.2.1 hdg rfl (k H locs ls a b c)
theorem r_dup (hX : OK X w cc nL own ret rm Q) {va : Value} (hdg : decode cc pc = .ok (.dup, 1)) (h : va.category = 1) (k : J X w nL σ (pc + 1) lv (va :: va :: rest)) : J X w nL σ pc lv (va :: rest) := fun H locs ls a b c => lv_dup hX.1 hX.2.1 hdg h (k H locs ls a b c)
theorem r_pop (hX : OK X w cc nL own ret rm Q) {va : Value} (hdg : decode cc pc = .ok (.pop, 1)) (h : va.category = 1) (k : J X w nL σ (pc + 1) lv rest) : J X w nL σ pc lv (va :: rest) := fun H locs ls a b c => lv_pop hX.1 hX.2.1 hdg h (k H locs ls a b c)
theorem r_dup2 (hX : OK X w cc nL own ret rm Q) {va vb : Value} (hdg : decode cc pc = .ok (.dup2, 1)) (h : va.category = 1) (h2 : vb.category = 1) (k : J X w nL σ (pc + 1) lv (va :: vb :: va :: vb :: rest)) : J X w nL σ pc lv (va :: vb :: rest) := fun H locs ls a b c => lv_dup2_11 hX.1 hX.2.1 hdg h h2 (k H locs ls a b c)
theorem r_goto (hX : OK X w cc nL own ret rm Q) {off : Int} {tgt : Nat} (hdg : decode cc pc = .ok (.goto off, 3)) (ht : (pc : Int) + off = (tgt : Int)) (k : J X w nL σ tgt lv rest) : J X w nL σ pc lv rest := fun H locs ls a b c => lv_goto hX.1 hX.2.1 hdg ht (k H locs ls a b c)
theorem r_if_eq (hX : OK X w cc nL own ret rm Q) {x : Int32} {off : Int} {tgt : Nat} (hdg : decode cc pc = .ok (.ifCond .eq off, 3)) (ht : (pc : Int) + off = (tgt : Int)) (kt : x = 0 → J X w nL σ tgt lv rest) (kf : ¬ x = 0 → J X w nL σ (pc + 3) lv rest) : J X w nL σ pc lv (.int x :: rest) := fun H locs ls a b c => lv_if_eq hX.1 hX.2.1 hdg ht (fun h => kt h H locs ls a b c) (fun h => kf h H locs ls a b c)
theorem r_if_ne (hX : OK X w cc nL own ret rm Q) {x : Int32} {off : Int} {tgt : Nat} (hdg : decode cc pc = .ok (.ifCond .ne off, 3)) (ht : (pc : Int) + off = (tgt : Int)) (kt : ¬ x = 0 → J X w nL σ tgt lv rest) (kf : x = 0 → J X w nL σ (pc + 3) lv rest) : J X w nL σ pc lv (.int x :: rest) := fun H locs ls a b c => lv_if_ne hX.1 hX.2.1 hdg ht (fun h => kt h H locs ls a b c) (fun h => kf h H locs ls a b c)
theorem r_if_lt (hX : OK X w cc nL own ret rm Q) {x : Int32} {off : Int} {tgt : Nat} (hdg : decode cc pc = .ok (.ifCond .lt off, 3)) (ht : (pc : Int) + off = (tgt : Int)) (kt : x < 0 → J X w nL σ tgt lv rest) (kf : ¬ x < 0 → J X w nL σ (pc + 3) lv rest) : J X w nL σ pc lv (.int x :: rest) := fun H locs ls a b c => lv_if_lt hX.1 hX.2.1 hdg ht (fun h => kt h H locs ls a b c) (fun h => kf h H locs ls a b c)
theorem r_if_ge (hX : OK X w cc nL own ret rm Q) {x : Int32} {off : Int} {tgt : Nat} (hdg : decode cc pc = .ok (.ifCond .ge off, 3)) (ht : (pc : Int) + off = (tgt : Int)) (kt : 0 ≤ x → J X w nL σ tgt lv rest) (kf : ¬ 0 ≤ x → J X w nL σ (pc + 3) lv rest) : J X w nL σ pc lv (.int x :: rest) := fun H locs ls a b c => lv_if_ge hX.1 hX.2.1 hdg ht (fun h => kt h H locs ls a b c) (fun h => kf h H locs ls a b c)
theorem r_if_gt (hX : OK X w cc nL own ret rm Q) {x : Int32} {off : Int} {tgt : Nat} (hdg : decode cc pc = .ok (.ifCond .gt off, 3)) (ht : (pc : Int) + off = (tgt : Int)) (kt : 0 < x → J X w nL σ tgt lv rest) (kf : ¬ 0 < x → J X w nL σ (pc + 3) lv rest) : J X w nL σ pc lv (.int x :: rest) := fun H locs ls a b c => lv_if_gt hX.1 hX.2.1 hdg ht (fun h => kt h H locs ls a b c) (fun h => kf h H locs ls a b c)
theorem r_if_le (hX : OK X w cc nL own ret rm Q) {x : Int32} {off : Int} {tgt : Nat} (hdg : decode cc pc = .ok (.ifCond .le off, 3)) (ht : (pc : Int) + off = (tgt : Int)) (kt : x ≤ 0 → J X w nL σ tgt lv rest) (kf : ¬ x ≤ 0 → J X w nL σ (pc + 3) lv rest) : J X w nL σ pc lv (.int x :: rest) := fun H locs ls a b c => lv_if_le hX.1 hX.2.1 hdg ht (fun h => kt h H locs ls a b c) (fun h => kf h H locs ls a b c)
theorem r_icmp_eq (hX : OK X w cc nL own ret rm Q) {x y : Int32} {off : Int} {tgt : Nat} (hdg : decode cc pc = .ok (.if_icmp .eq off, 3)) (ht : (pc : Int) + off = (tgt : Int)) (kt : x = y → J X w nL σ tgt lv rest) (kf : ¬ x = y → J X w nL σ (pc + 3) lv rest) : J X w nL σ pc lv (.int y :: .int x :: rest) := fun H locs ls a b c => lv_icmp_eq hX.1 hX.2.1 hdg ht (fun h => kt h H locs ls a b c) (fun h => kf h H locs ls a b c)
theorem r_icmp_ne (hX : OK X w cc nL own ret rm Q) {x y : Int32} {off : Int} {tgt : Nat} (hdg : decode cc pc = .ok (.if_icmp .ne off, 3)) (ht : (pc : Int) + off = (tgt : Int)) (kt : ¬ x = y → J X w nL σ tgt lv rest) (kf : x = y → J X w nL σ (pc + 3) lv rest) : J X w nL σ pc lv (.int y :: .int x :: rest) := fun H locs ls a b c => lv_icmp_ne hX.1 hX.2.1 hdg ht (fun h => kt h H locs ls a b c) (fun h => kf h H locs ls a b c)
theorem r_icmp_lt (hX : OK X w cc nL own ret rm Q) {x y : Int32} {off : Int} {tgt : Nat} (hdg : decode cc pc = .ok (.if_icmp .lt off, 3)) (ht : (pc : Int) + off = (tgt : Int)) (kt : x < y → J X w nL σ tgt lv rest) (kf : ¬ x < y → J X w nL σ (pc + 3) lv rest) : J X w nL σ pc lv (.int y :: .int x :: rest) := fun H locs ls a b c => lv_icmp_lt hX.1 hX.2.1 hdg ht (fun h => kt h H locs ls a b c) (fun h => kf h H locs ls a b c)
theorem r_icmp_ge (hX : OK X w cc nL own ret rm Q) {x y : Int32} {off : Int} {tgt : Nat} (hdg : decode cc pc = .ok (.if_icmp .ge off, 3)) (ht : (pc : Int) + off = (tgt : Int)) (kt : y ≤ x → J X w nL σ tgt lv rest) (kf : ¬ y ≤ x → J X w nL σ (pc + 3) lv rest) : J X w nL σ pc lv (.int y :: .int x :: rest) := fun H locs ls a b c => lv_icmp_ge hX.1 hX.2.1 hdg ht (fun h => kt h H locs ls a b c) (fun h => kf h H locs ls a b c)
theorem r_icmp_gt (hX : OK X w cc nL own ret rm Q) {x y : Int32} {off : Int} {tgt : Nat} (hdg : decode cc pc = .ok (.if_icmp .gt off, 3)) (ht : (pc : Int) + off = (tgt : Int)) (kt : y < x → J X w nL σ tgt lv rest) (kf : ¬ y < x → J X w nL σ (pc + 3) lv rest) : J X w nL σ pc lv (.int y :: .int x :: rest) := fun H locs ls a b c => lv_icmp_gt hX.1 hX.2.1 hdg ht (fun h => kt h H locs ls a b c) (fun h => kf h H locs ls a b c)
theorem r_icmp_le (hX : OK X w cc nL own ret rm Q) {x y : Int32} {off : Int} {tgt : Nat} (hdg : decode cc pc = .ok (.if_icmp .le off, 3)) (ht : (pc : Int) + off = (tgt : Int)) (kt : x ≤ y → J X w nL σ tgt lv rest) (kf : ¬ x ≤ y → J X w nL σ (pc + 3) lv rest) : J X w nL σ pc lv (.int y :: .int x :: rest) := fun H locs ls a b c => lv_icmp_le hX.1 hX.2.1 hdg ht (fun h => kt h H locs ls a b c) (fun h => kf h H locs ls a b c)
theorem r_lcmp_eq (hX : OK X w cc nL own ret rm Q) {x y : Int64} {off : Int} {tgt : Nat} (hd0 : decode cc pc = .ok (.lcmp, 1)) (hdg : decode cc (pc + 1) = .ok (.ifCond .eq off, 3)) (ht : ((pc + 1 : Nat) : Int) + off = (tgt : Int)) (kt : x = y → J X w nL σ tgt lv rest) (kf : ¬ x = y → J X w nL σ (pc + 1 + 3) lv rest) : J X w nL σ pc lv (.long y :: .long x :: rest) := fun H locs ls a b c => W.lcmp hX.1 hX.2.1 hd0 (lv_if_eq hX.1 hX.2.1 hdg ht (fun h => kt ((lg_cmp_eq x y).mp h) H locs ls a b c) (fun h => kf (fun q => h ((lg_cmp_eq x y).mpr q)) H locs ls a b c))
theorem r_lcmp_ne (hX : OK X w cc nL own ret rm Q) {x y : Int64} {off : Int} {tgt : Nat} (hd0 : decode cc pc = .ok (.lcmp, 1)) (hdg : decode cc (pc + 1) = .ok (.ifCond .ne off, 3)) (ht : ((pc + 1 : Nat) : Int) + off = (tgt : Int)) (kt : ¬ x = y → J X w nL σ tgt lv rest) (kf : x = y → J X w nL σ (pc + 1 + 3) lv rest) : J X w nL σ pc lv (.long y :: .long x :: rest) := fun H locs ls a b c => W.lcmp hX.1 hX.2.1 hd0 (lv_if_ne hX.1 hX.2.1 hdg ht (fun h => kt (fun q => h ((lg_cmp_eq x y).mpr q)) H locs ls a b c) (fun h => kf ((lg_cmp_eq x y).mp h) H locs ls a b c))
theorem r_lcmp_lt (hX : OK X w cc nL own ret rm Q) {x y : Int64} {off : Int} {tgt : Nat} (hd0 : decode cc pc = .ok (.lcmp, 1)) (hdg : decode cc (pc + 1) = .ok (.ifCond .lt off, 3)) (ht : ((pc + 1 : Nat) : Int) + off = (tgt : Int)) (kt : x < y → J X w nL σ tgt lv rest) (kf : ¬ x < y → J X w nL σ (pc + 1 + 3) lv rest) : J X w nL σ pc lv (.long y :: .long x :: rest) := fun H locs ls a b c => W.lcmp hX.1 hX.2.1 hd0 (lv_if_lt hX.1 hX.2.1 hdg ht (fun h => kt ((lg_cmp_lt x y).mp h) H locs ls a b c) (fun h => kf (fun q => h ((lg_cmp_lt x y).mpr q)) H locs ls a b c))
theorem r_lcmp_ge (hX : OK X w cc nL own ret rm Q) {x y : Int64} {off : Int} {tgt : Nat} (hd0 : decode cc pc = .ok (.lcmp, 1)) (hdg : decode cc (pc + 1) = .ok (.ifCond .ge off, 3)) (ht : ((pc + 1 : Nat) : Int) + off = (tgt : Int)) (kt : y ≤ x → J X w nL σ tgt lv rest) (kf : ¬ y ≤ x → J X w nL σ (pc + 1 + 3) lv rest) : J X w nL σ pc lv (.long y :: .long x :: rest) := fun H locs ls a b c => W.lcmp hX.1 hX.2.1 hd0 (lv_if_ge hX.1 hX.2.1 hdg ht (fun h => kt ((lg_cmp_ge x y).mp h) H locs ls a b c) (fun h => kf (fun q => h ((lg_cmp_ge x y).mpr q)) H locs ls a b c))
theorem r_lcmp_gt (hX : OK X w cc nL own ret rm Q) {x y : Int64} {off : Int} {tgt : Nat} (hd0 : decode cc pc = .ok (.lcmp, 1)) (hdg : decode cc (pc + 1) = .ok (.ifCond .gt off, 3)) (ht : ((pc + 1 : Nat) : Int) + off = (tgt : Int)) (kt : y < x → J X w nL σ tgt lv rest) (kf : ¬ y < x → J X w nL σ (pc + 1 + 3) lv rest) : J X w nL σ pc lv (.long y :: .long x :: rest) := fun H locs ls a b c => W.lcmp hX.1 hX.2.1 hd0 (lv_if_gt hX.1 hX.2.1 hdg ht (fun h => kt ((lg_cmp_gt x y).mp h) H locs ls a b c) (fun h => kf (fun q => h ((lg_cmp_gt x y).mpr q)) H locs ls a b c))
theorem r_lcmp_le (hX : OK X w cc nL own ret rm Q) {x y : Int64} {off : Int} {tgt : Nat} (hd0 : decode cc pc = .ok (.lcmp, 1)) (hdg : decode cc (pc + 1) = .ok (.ifCond .le off, 3)) (ht : ((pc + 1 : Nat) : Int) + off = (tgt : Int)) (kt : x ≤ y → J X w nL σ tgt lv rest) (kf : ¬ x ≤ y → J X w nL σ (pc + 1 + 3) lv rest) : J X w nL σ pc lv (.long y :: .long x :: rest) := fun H locs ls a b c => W.lcmp hX.1 hX.2.1 hd0 (lv_if_le hX.1 hX.2.1 hdg ht (fun h => kt ((lg_cmp_le x y).mp h) H locs ls a b c) (fun h => kf (fun q => h ((lg_cmp_le x y).mpr q)) H locs ls a b c))
theorem r_ifnull (hX : OK X w cc nL own ret rm Q) {o : Option Nat} {off : Int} {tgt : Nat} (hdg : decode cc pc = .ok (.ifnull off, 3)) (ht : (pc : Int) + off = (tgt : Int)) (kt : o = none → J X w nL σ tgt lv rest) (kf : ∀ t, o = some t → J X w nL σ (pc + 3) lv rest) : J X w nL σ pc lv (rv w o :: rest) := fun H locs ls a b c => by
  cases o with
  | none => exact lv_ifnullN hX.1 hX.2.1 hdg ht (kt rfl H locs ls a b c)
  | some t => exact lv_ifnull hX.1 hX.2.1 hdg (kf t rfl H locs ls a b c)
theorem r_ifnonnull (hX : OK X w cc nL own ret rm Q) {o : Option Nat} {off : Int} {tgt : Nat} (hdg : decode cc pc = .ok (.ifnonnull off, 3)) (ht : (pc : Int) + off = (tgt : Int)) (kt : ∀ t, o = some t → J X w nL σ tgt lv rest) (kf : o = none → J X w nL σ (pc + 3) lv rest) : J X w nL σ pc lv (rv w o :: rest) := fun H locs ls a b c => by
  cases o with
  | none => exact lv_ifnonnullN hX.1 hX.2.1 hdg (kf rfl H locs ls a b c)
  | some t => exact lv_ifnonnull hX.1 hX.2.1 hdg ht (kt t rfl H locs ls a b c)
theorem r_null (hX : OK X w cc nL own ret rm Q) (hdg : decode cc pc = .ok (.aconst_null, 1)) (k : J X w nL σ (pc + 1) lv (rv w none :: rest)) : J X w nL σ pc lv rest := fun H locs ls a b c => lv_null hX.1 hX.2.1 hdg (k H locs ls a b c)
theorem r_ldc (hX : OK X w cc nL own ret rm Q) {i : Nat} {v : Int32} (hw : Cond.constant own i v ∈ GT) (hdg : decode cc pc = .ok (.ldc i, 2)) (k : J X w nL σ (pc + 2) lv (.int v :: rest)) : J X w nL σ pc lv rest := fun H locs ls a b c => lv_ldc hX.1 hX.2.1 hX.2.2.2.1 (hX.2.2.2.2.1 _ hw) hdg (k H locs ls a b c)
theorem r_ldcw (hX : OK X w cc nL own ret rm Q) {i : Nat} {v : Int32} (hw : Cond.constant own i v ∈ GT) (hdg : decode cc pc = .ok (.ldc_w i, 3)) (k : J X w nL σ (pc + 3) lv (.int v :: rest)) : J X w nL σ pc lv rest := fun H locs ls a b c => lv_ldcw hX.1 hX.2.1 hX.2.2.2.1 (hX.2.2.2.2.1 _ hw) hdg (k H locs ls a b c)
theorem r_ldc2 (hX : OK X w cc nL own ret rm Q) {i : Nat} {v : Int64} (hw : Cond.constantLong own i v ∈ GT) (hdg : decode cc pc = .ok (.ldc2_w i, 3)) (k : J X w nL σ (pc + 3) lv (.long v :: rest)) : J X w nL σ pc lv rest := fun H locs ls a b c => lv_ldc2 hX.1 hX.2.1 hX.2.2.2.1 (hX.2.2.2.2.1 _ hw) hdg (k H locs ls a b c)
theorem r_tabOut (hX : OK X w cc nL own ret rm Q) {dflt lo hi : Int} {offs : Array Int} {len : Nat} {x : Int32} {tgt : Nat} (hdg : decode cc pc = .ok (.tableswitch dflt lo hi offs, len)) (h : x.toInt < lo ∨ hi < x.toInt) (ht : (pc : Int) + dflt = (tgt : Int)) (k : J X w nL σ tgt lv rest) : J X w nL σ pc lv (.int x :: rest) := fun H locs ls a b c => lv_tableOut hX.1 hX.2.1 hdg h ht (k H locs ls a b c)
theorem r_tabIn (hX : OK X w cc nL own ret rm Q) {dflt lo hi : Int} {offs : Array Int} {len : Nat} {x : Int32} {off : Int} {tgt : Nat} (hdg : decode cc pc = .ok (.tableswitch dflt lo hi offs, len)) (h1 : ¬ x.toInt < lo) (h2 : ¬ hi < x.toInt) (ho : offs[(x.toInt - lo).toNat]? = some off) (ht : (pc : Int) + off = (tgt : Int)) (k : J X w nL σ tgt lv rest) : J X w nL σ pc lv (.int x :: rest) := fun H locs ls a b c => lv_tableIn hX.1 hX.2.1 hdg h1 h2 ho ht (k H locs ls a b c)
end ROWS
