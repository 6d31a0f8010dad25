-- ===== all the orders, and the first best one =====
def en (n : Nat) : Nat → Nat → List (List Nat)
  | 0 => fun _ => [[]]
  | q + 1 => fun set => (List.range n).flatMap (fun nx => if inB set nx = true then (en n q (set - 2 ^ (nx - 1))).map (fun r => nx :: r) else [])
def pcost (c : Nat → Nat) : List Nat → Nat → Nat
  | [] => fun _ => 0
  | x :: r => fun last => cs c last x + pcost c r x
def IsFM (g : List Nat → Nat) (L : List (List Nat)) (p : List Nat) : Prop := ∃ A B, L = A ++ p :: B ∧ (∀ a, a ∈ A → g p < g a) ∧ ∀ b, b ∈ B → g p ≤ g b
def BPr (c : Nat → Nat) (T : Nat → Nat → Nat) (n : Nat) : Nat → Nat → Nat → List Nat → Prop
  | 0 => fun _ _ p => p = []
  | q + 1 => fun set last p => ∃ nx p', p = nx :: p' ∧ FMn c (fun y => T (set - 2 ^ (y - 1)) y) n set last nx ∧ BPr c T n q (set - 2 ^ (nx - 1)) nx p'
theorem FM_ex {c V : Nat → Nat} {set last : Nat} : ∀ n, (∀ y, y < n → ¬ inS set y) ∨ ∃ nx, FMn c V n set last nx := by
  intro n
  induction n with
  | zero => exact Or.inl (fun y hy => absurd hy (Nat.not_lt_zero y))
  | succ n ih =>
    by_cases hin : inS set n
    · refine Or.inr ?_
      rcases ih with h | ⟨b, b1, b2, b3⟩
      · refine ⟨n, by omega, hin, fun y hy hiy => ?_⟩
        by_cases e : y = n
        · subst e; exact ⟨Nat.le_refl _, fun z => by omega⟩
        · exact absurd hiy (h y (by omega))
      · by_cases hle : cs c last b + V b ≤ cs c last n + V n
        · refine ⟨b, by omega, b2, fun y hy hiy => ?_⟩
          by_cases e : y = n
          · subst e; exact ⟨hle, fun z => by omega⟩
          · exact b3 y (by omega) hiy
        · refine ⟨n, by omega, hin, fun y hy hiy => ?_⟩
          by_cases e : y = n
          · subst e; exact ⟨Nat.le_refl _, fun z => by omega⟩
          · have := (b3 y (by omega) hiy).1
            exact ⟨by omega, fun _ => by omega⟩
    · rcases ih with h | ⟨b, b1, b2, b3⟩
      · refine Or.inl (fun y hy => ?_)
        by_cases e : y = n
        · subst e; exact hin
        · exact h y (by omega)
      · refine Or.inr ⟨b, by omega, b2, fun y hy hiy => ?_⟩
        by_cases e : y = n
        · subst e; exact absurd hiy hin
        · exact b3 y (by omega) hiy
theorem FM_uniq {c V : Nat → Nat} {n set last a b : Nat} (ha : FMn c V n set last a) (hb : FMn c V n set last b) : a = b := by
  obtain ⟨a1, a2, a3⟩ := ha
  obtain ⟨b1, b2, b3⟩ := hb
  have x := a3 b b1 b2
  have y := b3 a a1 a2
  by_cases h1 : a < b
  · have := y.2 h1; omega
  · by_cases h2 : b < a
    · have := x.2 h2; omega
    · omega
theorem pop_0 : ∀ set : Fin 128, popN 7 set.val = 0 → set.val = 0 := by decide +kernel
theorem range_at {n nx : Nat} (h : nx < n) : List.range n = List.range' 0 nx ++ nx :: List.range' (nx + 1) (n - nx - 1) := by
  rw [List.range_eq_range', show n = nx + (1 + (n - nx - 1)) by omega, ← List.range'_append_1, ← List.range'_append_1]
  simp [show nx + (1 + (n - nx - 1)) - nx - 1 = n - nx - 1 by omega]
theorem IsFM.least {g : List Nat → Nat} {L : List (List Nat)} {p : List Nat} (h : IsFM g L p) : p ∈ L ∧ ∀ r, r ∈ L → g p ≤ g r := by
  obtain ⟨A, B, rfl, h1, h2⟩ := h
  refine ⟨by simp, fun r hr => ?_⟩
  rcases List.mem_append.mp hr with h | h
  · exact Nat.le_of_lt (h1 r h)
  · rcases List.mem_cons.mp h with h | h
    · subst h; exact Nat.le_refl _
    · exact h2 r h
theorem dfs {c : Nat → Nat} {T : Nat → Nat → Nat} {n : Nat} (hn : n ≤ 8) (h1 : 1 ≤ n) (hT : TabOK c n T) : ∀ (q set last : Nat), popN 7 set = q → set < 2 ^ (n - 1) → last < n → ¬ inS set last → ∃ p, BPr c T n q set last p ∧ pcost c p last = T set last ∧ IsFM (fun p => pcost c p last) (en n q set) p := by
  have h128 := pow_128 hn
  intro q
  induction q with
  | zero =>
    intro set last hq hs hl hni
    have h0 : set = 0 := pop_0 ⟨set, by omega⟩ hq
    exact ⟨[], rfl, ((hT set last hs hl hni).1 h0).symm, [], [], rfl, fun a ha => absurd ha List.not_mem_nil, fun a ha => absurd ha List.not_mem_nil⟩
  | succ q ih =>
    intro set last hq hs hl hni
    have hne : set ≠ 0 := by
      intro h
      rw [h, popN_0] at hq
      omega
    obtain ⟨⟨z, z1, z2, z3⟩, z4⟩ := (hT set last hs hl hni).2 hne
    rcases FM_ex (c := c) (V := fun y => T (set - 2 ^ (y - 1)) y) (set := set) (last := last) n with h | ⟨nx, hFM⟩
    · exact absurd z2 (h z z1)
    have sub : ∀ y, y < n → inS set y → ∃ p, BPr c T n q (set - 2 ^ (y - 1)) y p ∧ pcost c p y = T (set - 2 ^ (y - 1)) y ∧ IsFM (fun p => pcost c p y) (en n q (set - 2 ^ (y - 1))) p := by
      intro y hy hiy
      obtain ⟨-, o2, o3, o4⟩ := off_e (show set < 128 by omega) (show y < 8 by omega) hiy
      exact ih (set - 2 ^ (y - 1)) y (by omega) (by omega) hy o3
    obtain ⟨n1, n2, n3⟩ := id hFM
    have n3 : ∀ y, y < n → inS set y → cs c last nx + T (set - 2 ^ (nx - 1)) nx ≤ cs c last y + T (set - 2 ^ (y - 1)) y ∧ (y < nx → cs c last nx + T (set - 2 ^ (nx - 1)) nx < cs c last y + T (set - 2 ^ (y - 1)) y) := n3
    obtain ⟨p, p1, p2, A, B, p3, p4, p5⟩ := sub nx n1 n2
    have hval : cs c last nx + T (set - 2 ^ (nx - 1)) nx = T set last := by
      have a1 := (n3 z z1 z2).1
      have a2 := z4 nx n1 n2
      omega
    refine ⟨nx :: p, ⟨nx, p, rfl, hFM, p1⟩, ?_, ?_⟩
    · show cs c last nx + pcost c p nx = T set last
      rw [p2]; exact hval
    have blk : ∀ y, y < n → ∀ r, r ∈ (if inB set y = true then (en n q (set - 2 ^ (y - 1))).map (fun r => y :: r) else []) → inS set y ∧ cs c last y + T (set - 2 ^ (y - 1)) y ≤ pcost c r last := by
      intro y hy r hr
      by_cases hb : inB set y = true
      · rw [if_pos hb] at hr
        have hiy := (inB_iff _ _).mp hb
        obtain ⟨p', -, q2, q3⟩ := sub y hy hiy
        obtain ⟨r', hr', rfl⟩ := List.mem_map.mp hr
        refine ⟨hiy, ?_⟩
        have hh := q3.least.2 r' hr'
        have hh : pcost c p' y ≤ pcost c r' y := hh
        show _ ≤ cs c last y + pcost c r' y
        omega
      · rw [if_neg hb] at hr
        cases hr
    have hg : pcost c (nx :: p) last = cs c last nx + T (set - 2 ^ (nx - 1)) nx := by
      show cs c last nx + pcost c p nx = _
      rw [p2]
    show IsFM _ ((List.range n).flatMap (fun y => if inB set y = true then (en n q (set - 2 ^ (y - 1))).map (fun r => y :: r) else [])) (nx :: p)
    rw [range_at n1, List.flatMap_append, List.flatMap_cons, if_pos ((inB_iff _ _).mpr n2), p3, List.map_append, List.map_cons]
    refine ⟨(List.range' 0 nx).flatMap (fun y => if inB set y = true then (en n q (set - 2 ^ (y - 1))).map (fun r => y :: r) else []) ++ A.map (fun r => nx :: r), B.map (fun r => nx :: r) ++ (List.range' (nx + 1) (n - nx - 1)).flatMap (fun y => if inB set y = true then (en n q (set - 2 ^ (y - 1))).map (fun r => y :: r) else []), by simp [List.append_assoc], fun r hr => ?_, fun r hr => ?_⟩
    · rcases List.mem_append.mp hr with h | h
      · obtain ⟨y, hy, hr2⟩ := List.mem_flatMap.mp h
        have hy := List.mem_range'_1.mp hy
        obtain ⟨k1, k2⟩ := blk y (by omega) r hr2
        have := (n3 y (by omega) k1).2 (by omega)
        show pcost c (nx :: p) last < pcost c r last
        omega
      · obtain ⟨r', hr', rfl⟩ := List.mem_map.mp h
        have hh := p4 r' hr'
        have hh : pcost c p nx < pcost c r' nx := hh
        show cs c last nx + pcost c p nx < cs c last nx + pcost c r' nx
        omega
    · rcases List.mem_append.mp hr with h | h
      · obtain ⟨r', hr', rfl⟩ := List.mem_map.mp h
        have hh := p5 r' hr'
        have hh : pcost c p nx ≤ pcost c r' nx := hh
        show cs c last nx + pcost c p nx ≤ cs c last nx + pcost c r' nx
        omega
      · obtain ⟨y, hy, hr2⟩ := List.mem_flatMap.mp h
        have hy := List.mem_range'_1.mp hy
        obtain ⟨k1, k2⟩ := blk y (by omega) r hr2
        have := (n3 y (by omega) k1).1
        show pcost c (nx :: p) last ≤ pcost c r last
        omega
/-- the best one as the reference finds it -/
def bestOf (g : List Nat → Nat) (b : List Nat) (L : List (List Nat)) : List Nat := L.foldl (fun b x => if g b ≤ g x then b else x) b
theorem bestOf_keep {g : List Nat → Nat} {p : List Nat} : ∀ B : List (List Nat), (∀ b, b ∈ B → g p ≤ g b) → bestOf g p B = p := by
  intro B
  induction B with
  | nil => intro _; rfl
  | cons b B ih =>
    intro h
    show bestOf g (if g p ≤ g b then p else b) B = p
    rw [if_pos (h b (List.mem_cons_self ..))]
    exact ih (fun b hb => h b (List.mem_cons_of_mem _ hb))
theorem bestOf_mem {g : List Nat → Nat} : ∀ (A : List (List Nat)) (l : List Nat), bestOf g l A ∈ l :: A := by
  intro A
  induction A with
  | nil => intro l; exact List.mem_cons_self ..
  | cons a A ih =>
    intro l
    show bestOf g (if g l ≤ g a then l else a) A ∈ l :: a :: A
    by_cases h : g l ≤ g a
    · rw [if_pos h]
      rcases List.mem_cons.mp (ih l) with e | e
      · rw [e]; exact List.mem_cons_self ..
      · exact List.mem_cons_of_mem _ (List.mem_cons_of_mem _ e)
    · rw [if_neg h]
      exact List.mem_cons_of_mem _ (ih a)
theorem bestOf_FM {g : List Nat → Nat} {L : List (List Nat)} {l p : List Nat} (h : IsFM g (l :: L) p) : bestOf g l L = p := by
  obtain ⟨A, B, e, h1, h2⟩ := h
  cases A with
  | nil =>
    injection e with e1 e2
    rw [e1, e2]
    exact bestOf_keep B h2
  | cons a A =>
    injection e with e1 e2
    rw [e1, e2]
    have hm := bestOf_mem (g := g) A a
    have hlt := h1 _ hm
    have : bestOf g a (A ++ p :: B) = bestOf g (bestOf g a A) (p :: B) := List.foldl_append
    show bestOf g a (A ++ p :: B) = p
    rw [this]
    show bestOf g (if g (bestOf g a A) ≤ g p then bestOf g a A else p) B = p
    rw [if_neg (by omega)]
    exact bestOf_keep B h2
