-- ===== small rows for the printed walks, the two worlds, the classes =====
theorem elim_n {α β : Type} {a : β} {f : α → β} {z : β} (h : Option.elim none a f = z) : a = z := h
theorem elim_s {α β : Type} {t : α} {a : β} {f : α → β} {z : β} (h : Option.elim (some t) a f = z) : f t = z := h
def app1 {α β : Type} (o : α) (f : α → β) : β := f o
theorem app1_s {α β : Type} {o e : α} {f : α → β} {z : β} (he : o = e) (h : app1 e f = z) : f o = z := by rw [he]; exact h
def bd {α β : Type} (o : Option α) (f : α → Option β) : Option β := o.bind f
def bd2 {α γ β : Type} (o : Option (α × γ)) (f : α → γ → Option β) : Option β := o.bind (fun p => f p.1 p.2)
theorem bd_s {α β : Type} {o : Option α} {f : α → Option β} {z : β} (h : bd o f = some z) : ∃ a, o = some a ∧ f a = some z := bind_s h
theorem bd2_s {α γ β : Type} {o : Option (α × γ)} {f : α → γ → Option β} {z : β} (h : bd2 o f = some z) : ∃ a b, o = some (a, b) ∧ f a b = some z := by
  obtain ⟨a, b, h1, h2⟩ := bind_p h
  exact ⟨a, b, h1, h2⟩
theorem bd_some {α β : Type} {a : α} {f : α → Option β} : bd (some a) f = f a := rfl
theorem bd2_some {α γ β : Type} {a : α} {c : γ} {f : α → γ → Option β} : bd2 (some (a, c)) f = f a c := rfl
theorem vin {i : Int32} {n : Nat} (h : 0 ≤ i.toInt ∧ i.toInt < n) : vp_in i n := vp_in_iff.mpr h
theorem cpyG_some {α : Type} {sp dp n : Int32} {a b : Nat} {k : Option α} {z : α} (h : cpyG sp dp n a b k = some z) : (0 ≤ sp.toInt ∧ 0 ≤ dp.toInt ∧ 0 ≤ n.toInt ∧ sp.toInt + n.toInt ≤ a ∧ dp.toInt + n.toInt ≤ b) ∧ k = some z := by
  unfold cpyG at h
  split at h
  · rename_i q; exact ⟨q, h⟩
  · cases h
theorem rvcat (w : Wp) (o : Option Nat) : (rv w o).category = 1 := by cases o <;> rfl
theorem catI (x : Int32) : (Value.int x).category = 1 := rfl
theorem catL (x : Int64) : (Value.long x).category = 2 := rfl
theorem catR (x : Nat) : (Value.ref x).category = 1 := rfl
theorem bz0 : Bz 0 := by unfold Bz; decide +kernel
theorem bz1 : Bz 1 := by unfold Bz; decide +kernel
theorem sw_ne {x : Int32} {hi : Int} (h : x.toInt < 0 ∨ hi < x.toInt) (k : Int32) (h1 : 0 ≤ k.toInt) (h2 : k.toInt ≤ hi) : ¬ x = k := fun e => by subst e; omega
theorem sw_nk {x k j : Int32} (h : x = k) (hne : ¬ k = j) : ¬ x = j := by rw [h]; exact hne
theorem sw_all {P : Prop} {x : Int32} (n : Nat) (hn : n + 1 < 2 ^ 31) (ho : (x.toInt < 0 ∨ (n : Int) < x.toInt) → P) (hs : ∀ k : Nat, k ≤ n → x = nI k → P) : P := by
  by_cases h : x.toInt < 0 ∨ (n : Int) < x.toInt
  · exact ho h
  · obtain ⟨j, hj, e⟩ := vp_in_of (vp_in_iff.mpr (⟨by omega, by omega⟩ : 0 ≤ x.toInt ∧ x.toInt < ((n + 1 : Nat) : Int))) (by omega)
    exact hs j (by omega) e
theorem r_sw3 {P : Prop} {x : Int32} (ho : (x.toInt < 0 ∨ 2 < x.toInt) → P) (h0 : x = (0 : Int32) → P) (h1 : x = (1 : Int32) → P) (h2 : x = (2 : Int32) → P) : P := sw_all 2 (by decide) ho (fun k hk e => by
  rcases (show k = 0 ∨ k = 1 ∨ k = 2 by omega) with rfl | rfl | rfl
  · exact h0 e
  · exact h1 e
  · exact h2 e)
theorem r_sw4 {P : Prop} {x : Int32} (ho : (x.toInt < 0 ∨ 3 < x.toInt) → P) (h0 : x = (0 : Int32) → P) (h1 : x = (1 : Int32) → P) (h2 : x = (2 : Int32) → P) (h3 : x = (3 : Int32) → P) : P := sw_all 3 (by decide) ho (fun k hk e => by
  rcases (show k = 0 ∨ k = 1 ∨ k = 2 ∨ k = 3 by omega) with rfl | rfl | rfl | rfl
  · exact h0 e
  · exact h1 e
  · exact h2 e
  · exact h3 e)
theorem r_sw5 {P : Prop} {x : Int32} (ho : (x.toInt < 0 ∨ 4 < x.toInt) → P) (h0 : x = (0 : Int32) → P) (h1 : x = (1 : Int32) → P) (h2 : x = (2 : Int32) → P) (h3 : x = (3 : Int32) → P) (h4 : x = (4 : Int32) → P) : P := sw_all 4 (by decide) ho (fun k hk e => by
  rcases (show k = 0 ∨ k = 1 ∨ k = 2 ∨ k = 3 ∨ k = 4 by omega) with rfl | rfl | rfl | rfl | rfl
  · exact h0 e
  · exact h1 e
  · exact h2 e
  · exact h3 e
  · exact h4 e)
section PRE
variable {X : Cx} {w : Wp} {cc : ByteArray} {nL : Nat} {own : String} {ret : Option FieldType} {rm : Room} {Q : QI} {σ : St} {pc : Nat} {lv lv' : List (Nat × Value)} {rest : List Value}
theorem r_iincC (hX : OK X w cc nL own ret rm Q) {i : Nat} {n : Int} {x d : Int32} (hdg : decode cc pc = .ok (.iinc i n, 3)) (j : Nat) (hj : lv[j]? = some (i, .int x)) (hv : Int32.ofInt n = d) (hn : i < nL) (hl : (i, Value.int (x + d)) :: lv.filter (fun q => !(q.1 == i) && !(q.1 + 1 == i && q.2.category == 2)) = lv') (kk : J X w nL σ (pc + 3) lv' rest) : J X w nL σ pc lv rest := r_iinc hX hdg j hj (by rw [hv]) hn hl kk
theorem r_ifnullS (hX : OK X w cc nL own ret rm Q) {t : Nat} {off : Int} (hdg : decode cc pc = .ok (.ifnull off, 3)) (k : J X w nL σ (pc + 3) lv rest) : J X w nL σ pc lv (rf w t :: rest) := fun H locs ls a b c => lv_ifnull hX.1 hX.2.1 hdg (k H locs ls a b c)
theorem r_ifnonnullS (hX : OK X w cc nL own ret rm Q) {t : Nat} {off : Int} {tgt : Nat} (hdg : decode cc pc = .ok (.ifnonnull off, 3)) (ht : (pc : Int) + off = (tgt : Int)) (k : J X w nL σ tgt lv rest) : J X w nL σ pc lv (rf w t :: rest) := fun H locs ls a b c => lv_ifnonnull hX.1 hX.2.1 hdg ht (k H locs ls a b c)
end PRE
def CW (w : Wp) : Prop := (wK w 0 = 7) ∧ (wK w 1 = 11) ∧ (wl w 1 = 6) ∧ (wK w 2 = 5) ∧ (wK w 3 = 12) ∧ (wl w 3 = 60) ∧ (wK w 4 = 4) ∧ (wK w 5 = 9) ∧ (wl w 5 = 8) ∧ (wK w 6 = 9) ∧ (wl w 6 = 1024) ∧ (wK w 7 = 3) ∧ (wK w 8 = 9) ∧ (wl w 8 = 8) ∧ (wK w 9 = 9) ∧ (wl w 9 = 9) ∧ (wK w 10 = 9) ∧ (wl w 10 = 9) ∧ (wK w 11 = 9) ∧ (wl w 11 = 9) ∧ (wK w 12 = 3) ∧ (wK w 13 = 9) ∧ (wl w 13 = 8) ∧ (wK w 14 = 9) ∧ (wl w 14 = 9) ∧ (wK w 15 = 9) ∧ (wl w 15 = 9) ∧ (wK w 16 = 9) ∧ (wl w 16 = 9) ∧ (wK w 17 = 6) ∧ (wK w 18 = 6) ∧ (∀ t, wK w t = 1 → wK w (t + 1) = 9 ∧ wl w (t + 1) = 8 ∧ wK w (t + 2) = 9 ∧ wl w (t + 2) = 8 ∧ wK w (t + 3) = 9 ∧ wl w (t + 3) = 8) ∧ (∀ t, wK w t = 3 → wK w (t + 1) = 9 ∧ wl w (t + 1) = 8 ∧ wK w (t + 2) = 9 ∧ wl w (t + 2) = 9 ∧ wK w (t + 3) = 9 ∧ wl w (t + 3) = 9 ∧ wK w (t + 4) = 9 ∧ wl w (t + 4) = 9)
theorem CK0 {w : Wp} (h : CW w) : wK w 0 = 7 := h.1
theorem CK1 {w : Wp} (h : CW w) : wK w 1 = 11 := h.2.1
theorem CL1 {w : Wp} (h : CW w) : wl w 1 = 6 := h.2.2.1
theorem CK2 {w : Wp} (h : CW w) : wK w 2 = 5 := h.2.2.2.1
theorem CK3 {w : Wp} (h : CW w) : wK w 3 = 12 := h.2.2.2.2.1
theorem CL3 {w : Wp} (h : CW w) : wl w 3 = 60 := h.2.2.2.2.2.1
theorem CK4 {w : Wp} (h : CW w) : wK w 4 = 4 := h.2.2.2.2.2.2.1
theorem CK5 {w : Wp} (h : CW w) : wK w 5 = 9 := h.2.2.2.2.2.2.2.1
theorem CL5 {w : Wp} (h : CW w) : wl w 5 = 8 := h.2.2.2.2.2.2.2.2.1
theorem CK6 {w : Wp} (h : CW w) : wK w 6 = 9 := h.2.2.2.2.2.2.2.2.2.1
theorem CL6 {w : Wp} (h : CW w) : wl w 6 = 1024 := h.2.2.2.2.2.2.2.2.2.2.1
theorem CK7 {w : Wp} (h : CW w) : wK w 7 = 3 := h.2.2.2.2.2.2.2.2.2.2.2.1
theorem CK8 {w : Wp} (h : CW w) : wK w 8 = 9 := h.2.2.2.2.2.2.2.2.2.2.2.2.1
theorem CL8 {w : Wp} (h : CW w) : wl w 8 = 8 := h.2.2.2.2.2.2.2.2.2.2.2.2.2.1
theorem CK9 {w : Wp} (h : CW w) : wK w 9 = 9 := h.2.2.2.2.2.2.2.2.2.2.2.2.2.2.1
theorem CL9 {w : Wp} (h : CW w) : wl w 9 = 9 := h.2.2.2.2.2.2.2.2.2.2.2.2.2.2.2.1
theorem CK10 {w : Wp} (h : CW w) : wK w 10 = 9 := h.2.2.2.2.2.2.2.2.2.2.2.2.2.2.2.2.1
theorem CL10 {w : Wp} (h : CW w) : wl w 10 = 9 := h.2.2.2.2.2.2.2.2.2.2.2.2.2.2.2.2.2.1
theorem CK11 {w : Wp} (h : CW w) : wK w 11 = 9 := h.2.2.2.2.2.2.2.2.2.2.2.2.2.2.2.2.2.2.1
theorem CL11 {w : Wp} (h : CW w) : wl w 11 = 9 := h.2.2.2.2.2.2.2.2.2.2.2.2.2.2.2.2.2.2.2.1
theorem CK12 {w : Wp} (h : CW w) : wK w 12 = 3 := h.2.2.2.2.2.2.2.2.2.2.2.2.2.2.2.2.2.2.2.2.1
theorem CK13 {w : Wp} (h : CW w) : wK w 13 = 9 := h.2.2.2.2.2.2.2.2.2.2.2.2.2.2.2.2.2.2.2.2.2.1
theorem CL13 {w : Wp} (h : CW w) : wl w 13 = 8 := h.2.2.2.2.2.2.2.2.2.2.2.2.2.2.2.2.2.2.2.2.2.2.1
theorem CK14 {w : Wp} (h : CW w) : wK w 14 = 9 := h.2.2.2.2.2.2.2.2.2.2.2.2.2.2.2.2.2.2.2.2.2.2.2.1
theorem CL14 {w : Wp} (h : CW w) : wl w 14 = 9 := h.2.2.2.2.2.2.2.2.2.2.2.2.2.2.2.2.2.2.2.2.2.2.2.2.1
theorem CK15 {w : Wp} (h : CW w) : wK w 15 = 9 := h.2.2.2.2.2.2.2.2.2.2.2.2.2.2.2.2.2.2.2.2.2.2.2.2.2.1
theorem CL15 {w : Wp} (h : CW w) : wl w 15 = 9 := h.2.2.2.2.2.2.2.2.2.2.2.2.2.2.2.2.2.2.2.2.2.2.2.2.2.2.1
theorem CK16 {w : Wp} (h : CW w) : wK w 16 = 9 := h.2.2.2.2.2.2.2.2.2.2.2.2.2.2.2.2.2.2.2.2.2.2.2.2.2.2.2.1
theorem CL16 {w : Wp} (h : CW w) : wl w 16 = 9 := h.2.2.2.2.2.2.2.2.2.2.2.2.2.2.2.2.2.2.2.2.2.2.2.2.2.2.2.2.1
theorem CK17 {w : Wp} (h : CW w) : wK w 17 = 6 := h.2.2.2.2.2.2.2.2.2.2.2.2.2.2.2.2.2.2.2.2.2.2.2.2.2.2.2.2.2.1
theorem CK18 {w : Wp} (h : CW w) : wK w 18 = 6 := h.2.2.2.2.2.2.2.2.2.2.2.2.2.2.2.2.2.2.2.2.2.2.2.2.2.2.2.2.2.2.1
theorem CFk1 {w : Wp} {t : Nat} (h : CW w) (hk : wK w t = 1) : wK w (t + 1) = 9 := (h.2.2.2.2.2.2.2.2.2.2.2.2.2.2.2.2.2.2.2.2.2.2.2.2.2.2.2.2.2.2.2.1 t hk).1
theorem CFl1 {w : Wp} {t : Nat} (h : CW w) (hk : wK w t = 1) : wl w (t + 1) = 8 := (h.2.2.2.2.2.2.2.2.2.2.2.2.2.2.2.2.2.2.2.2.2.2.2.2.2.2.2.2.2.2.2.1 t hk).2.1
theorem CFk2 {w : Wp} {t : Nat} (h : CW w) (hk : wK w t = 1) : wK w (t + 2) = 9 := (h.2.2.2.2.2.2.2.2.2.2.2.2.2.2.2.2.2.2.2.2.2.2.2.2.2.2.2.2.2.2.2.1 t hk).2.2.1
theorem CFl2 {w : Wp} {t : Nat} (h : CW w) (hk : wK w t = 1) : wl w (t + 2) = 8 := (h.2.2.2.2.2.2.2.2.2.2.2.2.2.2.2.2.2.2.2.2.2.2.2.2.2.2.2.2.2.2.2.1 t hk).2.2.2.1
theorem CFk3 {w : Wp} {t : Nat} (h : CW w) (hk : wK w t = 1) : wK w (t + 3) = 9 := (h.2.2.2.2.2.2.2.2.2.2.2.2.2.2.2.2.2.2.2.2.2.2.2.2.2.2.2.2.2.2.2.1 t hk).2.2.2.2.1
theorem CFl3 {w : Wp} {t : Nat} (h : CW w) (hk : wK w t = 1) : wl w (t + 3) = 8 := (h.2.2.2.2.2.2.2.2.2.2.2.2.2.2.2.2.2.2.2.2.2.2.2.2.2.2.2.2.2.2.2.1 t hk).2.2.2.2.2
theorem CPk1 {w : Wp} {t : Nat} (h : CW w) (hk : wK w t = 3) : wK w (t + 1) = 9 := (h.2.2.2.2.2.2.2.2.2.2.2.2.2.2.2.2.2.2.2.2.2.2.2.2.2.2.2.2.2.2.2.2 t hk).1
theorem CPl1 {w : Wp} {t : Nat} (h : CW w) (hk : wK w t = 3) : wl w (t + 1) = 8 := (h.2.2.2.2.2.2.2.2.2.2.2.2.2.2.2.2.2.2.2.2.2.2.2.2.2.2.2.2.2.2.2.2 t hk).2.1
theorem CPk2 {w : Wp} {t : Nat} (h : CW w) (hk : wK w t = 3) : wK w (t + 2) = 9 := (h.2.2.2.2.2.2.2.2.2.2.2.2.2.2.2.2.2.2.2.2.2.2.2.2.2.2.2.2.2.2.2.2 t hk).2.2.1
theorem CPl2 {w : Wp} {t : Nat} (h : CW w) (hk : wK w t = 3) : wl w (t + 2) = 9 := (h.2.2.2.2.2.2.2.2.2.2.2.2.2.2.2.2.2.2.2.2.2.2.2.2.2.2.2.2.2.2.2.2 t hk).2.2.2.1
theorem CPk3 {w : Wp} {t : Nat} (h : CW w) (hk : wK w t = 3) : wK w (t + 3) = 9 := (h.2.2.2.2.2.2.2.2.2.2.2.2.2.2.2.2.2.2.2.2.2.2.2.2.2.2.2.2.2.2.2.2 t hk).2.2.2.2.1
theorem CPl3 {w : Wp} {t : Nat} (h : CW w) (hk : wK w t = 3) : wl w (t + 3) = 9 := (h.2.2.2.2.2.2.2.2.2.2.2.2.2.2.2.2.2.2.2.2.2.2.2.2.2.2.2.2.2.2.2.2 t hk).2.2.2.2.2.1
theorem CPk4 {w : Wp} {t : Nat} (h : CW w) (hk : wK w t = 3) : wK w (t + 4) = 9 := (h.2.2.2.2.2.2.2.2.2.2.2.2.2.2.2.2.2.2.2.2.2.2.2.2.2.2.2.2.2.2.2.2 t hk).2.2.2.2.2.2.1
theorem CPl4 {w : Wp} {t : Nat} (h : CW w) (hk : wK w t = 3) : wl w (t + 4) = 9 := (h.2.2.2.2.2.2.2.2.2.2.2.2.2.2.2.2.2.2.2.2.2.2.2.2.2.2.2.2.2.2.2.2 t hk).2.2.2.2.2.2.2
def MW (w : Wp) : Prop := (wK w 0 = 8) ∧ (wK w 1 = 9) ∧ (wl w 1 = 6) ∧ (wK w 2 = 9) ∧ (wl w 2 = 6) ∧ (wK w 3 = 9) ∧ (wl w 3 = 6) ∧ (wK w 4 = 9) ∧ (wl w 4 = 6) ∧ (wK w 5 = 9) ∧ (wl w 5 = 48) ∧ (wK w 6 = 9) ∧ (wl w 6 = 48) ∧ (wK w 7 = 9) ∧ (wl w 7 = 48) ∧ (wK w 8 = 9) ∧ (wl w 8 = 60) ∧ (wK w 9 = 9) ∧ (wl w 9 = 60) ∧ (wK w 10 = 9) ∧ (wl w 10 = 60) ∧ (wK w 11 = 9) ∧ (wl w 11 = 60) ∧ (wK w 12 = 9) ∧ (wl w 12 = 60) ∧ (wK w 13 = 9) ∧ (wl w 13 = 60) ∧ (wK w 14 = 9) ∧ (wl w 14 = 6) ∧ (wK w 15 = 9) ∧ (wl w 15 = 48) ∧ (wK w 16 = 10) ∧ (wl w 16 = 54) ∧ (wK w 17 = 10) ∧ (wl w 17 = 54) ∧ (wK w 18 = 9) ∧ (wl w 18 = 54) ∧ (wK w 19 = 10) ∧ (wl w 19 = 4) ∧ (wK w 20 = 10) ∧ (wl w 20 = 4) ∧ (wK w 21 = 9) ∧ (wl w 21 = 8) ∧ (wK w 22 = 9) ∧ (wl w 22 = 8) ∧ (wK w 23 = 9) ∧ (wl w 23 = 8)
theorem MK0 {w : Wp} (h : MW w) : wK w 0 = 8 := h.1
theorem MK1 {w : Wp} (h : MW w) : wK w 1 = 9 := h.2.1
theorem ML1 {w : Wp} (h : MW w) : wl w 1 = 6 := h.2.2.1
theorem MK2 {w : Wp} (h : MW w) : wK w 2 = 9 := h.2.2.2.1
theorem ML2 {w : Wp} (h : MW w) : wl w 2 = 6 := h.2.2.2.2.1
theorem MK3 {w : Wp} (h : MW w) : wK w 3 = 9 := h.2.2.2.2.2.1
theorem ML3 {w : Wp} (h : MW w) : wl w 3 = 6 := h.2.2.2.2.2.2.1
theorem MK4 {w : Wp} (h : MW w) : wK w 4 = 9 := h.2.2.2.2.2.2.2.1
theorem ML4 {w : Wp} (h : MW w) : wl w 4 = 6 := h.2.2.2.2.2.2.2.2.1
theorem MK5 {w : Wp} (h : MW w) : wK w 5 = 9 := h.2.2.2.2.2.2.2.2.2.1
theorem ML5 {w : Wp} (h : MW w) : wl w 5 = 48 := h.2.2.2.2.2.2.2.2.2.2.1
theorem MK6 {w : Wp} (h : MW w) : wK w 6 = 9 := h.2.2.2.2.2.2.2.2.2.2.2.1
theorem ML6 {w : Wp} (h : MW w) : wl w 6 = 48 := h.2.2.2.2.2.2.2.2.2.2.2.2.1
theorem MK7 {w : Wp} (h : MW w) : wK w 7 = 9 := h.2.2.2.2.2.2.2.2.2.2.2.2.2.1
theorem ML7 {w : Wp} (h : MW w) : wl w 7 = 48 := h.2.2.2.2.2.2.2.2.2.2.2.2.2.2.1
theorem MK8 {w : Wp} (h : MW w) : wK w 8 = 9 := h.2.2.2.2.2.2.2.2.2.2.2.2.2.2.2.1
theorem ML8 {w : Wp} (h : MW w) : wl w 8 = 60 := h.2.2.2.2.2.2.2.2.2.2.2.2.2.2.2.2.1
theorem MK9 {w : Wp} (h : MW w) : wK w 9 = 9 := h.2.2.2.2.2.2.2.2.2.2.2.2.2.2.2.2.2.1
theorem ML9 {w : Wp} (h : MW w) : wl w 9 = 60 := h.2.2.2.2.2.2.2.2.2.2.2.2.2.2.2.2.2.2.1
theorem MK10 {w : Wp} (h : MW w) : wK w 10 = 9 := h.2.2.2.2.2.2.2.2.2.2.2.2.2.2.2.2.2.2.2.1
theorem ML10 {w : Wp} (h : MW w) : wl w 10 = 60 := h.2.2.2.2.2.2.2.2.2.2.2.2.2.2.2.2.2.2.2.2.1
theorem MK11 {w : Wp} (h : MW w) : wK w 11 = 9 := h.2.2.2.2.2.2.2.2.2.2.2.2.2.2.2.2.2.2.2.2.2.1
theorem ML11 {w : Wp} (h : MW w) : wl w 11 = 60 := h.2.2.2.2.2.2.2.2.2.2.2.2.2.2.2.2.2.2.2.2.2.2.1
theorem MK12 {w : Wp} (h : MW w) : wK w 12 = 9 := h.2.2.2.2.2.2.2.2.2.2.2.2.2.2.2.2.2.2.2.2.2.2.2.1
theorem ML12 {w : Wp} (h : MW w) : wl w 12 = 60 := h.2.2.2.2.2.2.2.2.2.2.2.2.2.2.2.2.2.2.2.2.2.2.2.2.1
theorem MK13 {w : Wp} (h : MW w) : wK w 13 = 9 := h.2.2.2.2.2.2.2.2.2.2.2.2.2.2.2.2.2.2.2.2.2.2.2.2.2.1
theorem ML13 {w : Wp} (h : MW w) : wl w 13 = 60 := h.2.2.2.2.2.2.2.2.2.2.2.2.2.2.2.2.2.2.2.2.2.2.2.2.2.2.1
theorem MK14 {w : Wp} (h : MW w) : wK w 14 = 9 := h.2.2.2.2.2.2.2.2.2.2.2.2.2.2.2.2.2.2.2.2.2.2.2.2.2.2.2.1
theorem ML14 {w : Wp} (h : MW w) : wl w 14 = 6 := h.2.2.2.2.2.2.2.2.2.2.2.2.2.2.2.2.2.2.2.2.2.2.2.2.2.2.2.2.1
theorem MK15 {w : Wp} (h : MW w) : wK w 15 = 9 := h.2.2.2.2.2.2.2.2.2.2.2.2.2.2.2.2.2.2.2.2.2.2.2.2.2.2.2.2.2.1
theorem ML15 {w : Wp} (h : MW w) : wl w 15 = 48 := h.2.2.2.2.2.2.2.2.2.2.2.2.2.2.2.2.2.2.2.2.2.2.2.2.2.2.2.2.2.2.1
theorem MK16 {w : Wp} (h : MW w) : wK w 16 = 10 := h.2.2.2.2.2.2.2.2.2.2.2.2.2.2.2.2.2.2.2.2.2.2.2.2.2.2.2.2.2.2.2.1
theorem ML16 {w : Wp} (h : MW w) : wl w 16 = 54 := h.2.2.2.2.2.2.2.2.2.2.2.2.2.2.2.2.2.2.2.2.2.2.2.2.2.2.2.2.2.2.2.2.1
theorem MK17 {w : Wp} (h : MW w) : wK w 17 = 10 := h.2.2.2.2.2.2.2.2.2.2.2.2.2.2.2.2.2.2.2.2.2.2.2.2.2.2.2.2.2.2.2.2.2.1
theorem ML17 {w : Wp} (h : MW w) : wl w 17 = 54 := h.2.2.2.2.2.2.2.2.2.2.2.2.2.2.2.2.2.2.2.2.2.2.2.2.2.2.2.2.2.2.2.2.2.2.1
theorem MK18 {w : Wp} (h : MW w) : wK w 18 = 9 := h.2.2.2.2.2.2.2.2.2.2.2.2.2.2.2.2.2.2.2.2.2.2.2.2.2.2.2.2.2.2.2.2.2.2.2.1
theorem ML18 {w : Wp} (h : MW w) : wl w 18 = 54 := h.2.2.2.2.2.2.2.2.2.2.2.2.2.2.2.2.2.2.2.2.2.2.2.2.2.2.2.2.2.2.2.2.2.2.2.2.1
theorem MK19 {w : Wp} (h : MW w) : wK w 19 = 10 := h.2.2.2.2.2.2.2.2.2.2.2.2.2.2.2.2.2.2.2.2.2.2.2.2.2.2.2.2.2.2.2.2.2.2.2.2.2.1
theorem ML19 {w : Wp} (h : MW w) : wl w 19 = 4 := h.2.2.2.2.2.2.2.2.2.2.2.2.2.2.2.2.2.2.2.2.2.2.2.2.2.2.2.2.2.2.2.2.2.2.2.2.2.2.1
theorem MK20 {w : Wp} (h : MW w) : wK w 20 = 10 := h.2.2.2.2.2.2.2.2.2.2.2.2.2.2.2.2.2.2.2.2.2.2.2.2.2.2.2.2.2.2.2.2.2.2.2.2.2.2.2.1
theorem ML20 {w : Wp} (h : MW w) : wl w 20 = 4 := h.2.2.2.2.2.2.2.2.2.2.2.2.2.2.2.2.2.2.2.2.2.2.2.2.2.2.2.2.2.2.2.2.2.2.2.2.2.2.2.2.1
theorem MK21 {w : Wp} (h : MW w) : wK w 21 = 9 := h.2.2.2.2.2.2.2.2.2.2.2.2.2.2.2.2.2.2.2.2.2.2.2.2.2.2.2.2.2.2.2.2.2.2.2.2.2.2.2.2.2.1
theorem ML21 {w : Wp} (h : MW w) : wl w 21 = 8 := h.2.2.2.2.2.2.2.2.2.2.2.2.2.2.2.2.2.2.2.2.2.2.2.2.2.2.2.2.2.2.2.2.2.2.2.2.2.2.2.2.2.2.1
theorem MK22 {w : Wp} (h : MW w) : wK w 22 = 9 := h.2.2.2.2.2.2.2.2.2.2.2.2.2.2.2.2.2.2.2.2.2.2.2.2.2.2.2.2.2.2.2.2.2.2.2.2.2.2.2.2.2.2.2.1
theorem ML22 {w : Wp} (h : MW w) : wl w 22 = 8 := h.2.2.2.2.2.2.2.2.2.2.2.2.2.2.2.2.2.2.2.2.2.2.2.2.2.2.2.2.2.2.2.2.2.2.2.2.2.2.2.2.2.2.2.2.1
theorem MK23 {w : Wp} (h : MW w) : wK w 23 = 9 := h.2.2.2.2.2.2.2.2.2.2.2.2.2.2.2.2.2.2.2.2.2.2.2.2.2.2.2.2.2.2.2.2.2.2.2.2.2.2.2.2.2.2.2.2.2.1
theorem ML23 {w : Wp} (h : MW w) : wl w 23 = 8 := h.2.2.2.2.2.2.2.2.2.2.2.2.2.2.2.2.2.2.2.2.2.2.2.2.2.2.2.2.2.2.2.2.2.2.2.2.2.2.2.2.2.2.2.2.2.2
theorem ulX0 : ∀ k, k < 8 → u_lay RX0 TX0 k ∈ GT
  | 0, _ => g1_182
  | 1, _ => g1_184
  | 2, _ => g1_186
  | 3, _ => g1_188
  | 4, _ => g1_190
  | 5, _ => g1_192
  | 6, _ => g1_194
  | 7, _ => g1_196
  | n + 8, h => absurd h (by omega)
theorem cls0 : CI 0 RX0 TX0 8 := ⟨fun wd h => by
  obtain ⟨k, hk, e⟩ := List.mem_map.mp h
  rw [← e]
  exact ulX0 k (List.mem_range.mp hk), rfl, ⟨tyX0, tyX0_ok⟩, nmX0⟩
theorem ulX1 : ∀ k, k < 8 → u_lay RX1 TX1 k ∈ GT
  | 0, _ => g2_24
  | 1, _ => g2_26
  | 2, _ => g2_28
  | 3, _ => g2_30
  | 4, _ => g2_32
  | 5, _ => g2_34
  | 6, _ => g2_36
  | 7, _ => g2_38
  | n + 8, h => absurd h (by omega)
theorem cls1 : CI 1 RX1 TX1 8 := ⟨fun wd h => by
  obtain ⟨k, hk, e⟩ := List.mem_map.mp h
  rw [← e]
  exact ulX1 k (List.mem_range.mp hk), rfl, ⟨tyX1, tyX1_ok⟩, nmX1⟩
theorem ulX2 : ∀ k, k < 9 → u_lay RX2 TX2 k ∈ GT
  | 0, _ => g1_83
  | 1, _ => g1_85
  | 2, _ => g1_87
  | 3, _ => g1_89
  | 4, _ => g1_91
  | 5, _ => g1_93
  | 6, _ => g1_95
  | 7, _ => g1_97
  | 8, _ => g1_99
  | n + 9, h => absurd h (by omega)
theorem cls2 : CI 2 RX2 TX2 9 := ⟨fun wd h => by
  obtain ⟨k, hk, e⟩ := List.mem_map.mp h
  rw [← e]
  exact ulX2 k (List.mem_range.mp hk), rfl, ⟨tyX2, tyX2_ok⟩, nmX2⟩
theorem ulX3 : ∀ k, k < 3 → u_lay RX3 TX3 k ∈ GT
  | 0, _ => g1_50
  | 1, _ => g1_52
  | 2, _ => g1_54
  | n + 3, h => absurd h (by omega)
theorem cls3 : CI 3 RX3 TX3 3 := ⟨fun wd h => by
  obtain ⟨k, hk, e⟩ := List.mem_map.mp h
  rw [← e]
  exact ulX3 k (List.mem_range.mp hk), rfl, ⟨tyX3, tyX3_ok⟩, nmX3⟩
theorem ulX4 : ∀ k, k < 2 → u_lay RX4 TX4 k ∈ GT
  | 0, _ => g1_35
  | 1, _ => g1_37
  | n + 2, h => absurd h (by omega)
theorem cls4 : CI 4 RX4 TX4 2 := ⟨fun wd h => by
  obtain ⟨k, hk, e⟩ := List.mem_map.mp h
  rw [← e]
  exact ulX4 k (List.mem_range.mp hk), rfl, ⟨tyX4, tyX4_ok⟩, nmX4⟩
theorem ulX5 : ∀ k, k < 4 → u_lay RX5 TX5 k ∈ GT
  | 0, _ => g1_112
  | 1, _ => g1_114
  | 2, _ => g1_116
  | 3, _ => g1_118
  | n + 4, h => absurd h (by omega)
theorem cls5 : CI 5 RX5 TX5 4 := ⟨fun wd h => by
  obtain ⟨k, hk, e⟩ := List.mem_map.mp h
  rw [← e]
  exact ulX5 k (List.mem_range.mp hk), rfl, ⟨tyX5, tyX5_ok⟩, nmX5⟩
theorem ulX6 : ∀ k, k < 9 → u_lay RX6 TX6 k ∈ GT
  | 0, _ => g1_130
  | 1, _ => g1_132
  | 2, _ => g1_134
  | 3, _ => g1_136
  | 4, _ => g1_138
  | 5, _ => g1_140
  | 6, _ => g1_142
  | 7, _ => g1_144
  | 8, _ => g1_146
  | n + 9, h => absurd h (by omega)
theorem cls6 : CI 6 RX6 TX6 9 := ⟨fun wd h => by
  obtain ⟨k, hk, e⟩ := List.mem_map.mp h
  rw [← e]
  exact ulX6 k (List.mem_range.mp hk), rfl, ⟨tyX6, tyX6_ok⟩, nmX6⟩
theorem ulX7 : ∀ k, k < 27 → u_lay RX7 TX7 k ∈ GT
  | 0, _ => g3_88
  | 1, _ => g3_90
  | 2, _ => g3_92
  | 3, _ => g3_94
  | 4, _ => g3_96
  | 5, _ => g3_98
  | 6, _ => g3_100
  | 7, _ => g3_102
  | 8, _ => g3_104
  | 9, _ => g3_106
  | 10, _ => g3_108
  | 11, _ => g3_110
  | 12, _ => g3_112
  | 13, _ => g3_114
  | 14, _ => g3_116
  | 15, _ => g3_118
  | 16, _ => g3_120
  | 17, _ => g3_122
  | 18, _ => g3_124
  | 19, _ => g3_126
  | 20, _ => g3_128
  | 21, _ => g3_130
  | 22, _ => g3_132
  | 23, _ => g3_134
  | 24, _ => g3_136
  | 25, _ => g3_138
  | 26, _ => g3_140
  | n + 27, h => absurd h (by omega)
theorem cls7 : CI 7 RX7 TX7 27 := ⟨fun wd h => by
  obtain ⟨k, hk, e⟩ := List.mem_map.mp h
  rw [← e]
  exact ulX7 k (List.mem_range.mp hk), rfl, ⟨tyX7, tyX7_ok⟩, nmX7⟩
