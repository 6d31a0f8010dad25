-- ===== the law's start: tables, statics, the two objects =====
theorem tw_0 : (Jvm.Cond.arrayOver (Jvm.ClassFile.FieldType.object "JointedShadows$Figure")) ∈ lw_tbl := List.mem_append_right _ (show _ ∈ tables_1 from List.mem_append_left _ (List.mem_of_getElem? (i := 22) rfl))
theorem tw_1 : (Jvm.Cond.methodLinkNest "JointedShadows" (26 : Nat) ({ cls := "JointedShadows$Script", name := "<init>", desc := "()V" } : Jvm.MethodName) "JointedShadows") ∈ lw_tbl := List.mem_append_right _ (show _ ∈ tables_1 from List.mem_append_left _ (List.mem_of_getElem? (i := 25) rfl))
theorem tw_2 : (Jvm.Cond.arrayOver (Jvm.ClassFile.FieldType.object "JointedShadows$Move")) ∈ lw_tbl := List.mem_append_right _ (show _ ∈ tables_1 from List.mem_append_left _ (List.mem_of_getElem? (i := 30) rfl))
theorem tw_3 : (Jvm.Cond.methodLinkNest "JointedShadows" (33 : Nat) ({ cls := "JointedShadows$Scenes", name := "<init>", desc := "()V" } : Jvm.MethodName) "JointedShadows") ∈ lw_tbl := List.mem_append_right _ (show _ ∈ tables_1 from List.mem_append_left _ (List.mem_of_getElem? (i := 42) rfl))
theorem tw_4 : (Jvm.Cond.methodLinkNest "JointedShadows" (40 : Nat) ({ cls := "JointedShadows$Pose", name := "<init>", desc := "()V" } : Jvm.MethodName) "JointedShadows") ∈ lw_tbl := List.mem_append_right _ (show _ ∈ tables_1 from List.mem_append_left _ (List.mem_of_getElem? (i := 60) rfl))
theorem tw_5 : (Jvm.Cond.methodLinkNest "JointedShadows" (50 : Nat) ({ cls := "JointedShadows$Segment", name := "<init>", desc := "()V" } : Jvm.MethodName) "JointedShadows") ∈ lw_tbl := List.mem_append_right _ (show _ ∈ tables_1 from List.mem_append_left _ (List.mem_of_getElem? (i := 104) rfl))
theorem tw_6 : (Jvm.Cond.methodLinkNest "JointedShadows$Figure" (37 : Nat) ({ cls := "JointedShadows", name := "inRange", desc := "(III)Z" } : Jvm.MethodName) "JointedShadows") ∈ lw_tbl := List.mem_append_right _ (show _ ∈ tables_1 from List.mem_append_left _ (List.mem_of_getElem? (i := 211) rfl))
theorem tw_7 : (Jvm.Cond.fieldLinkNest "JointedShadows$Pose" (124 : Nat) "JointedShadows" "STEP_X" "[I" "JointedShadows") ∈ lw_tbl := List.mem_append_right _ (show _ ∈ tables_1 from List.mem_append_right _ (List.mem_append_left _ (List.mem_of_getElem? (i := 93) rfl)))
theorem tw_8 : (Jvm.Cond.laysStatic "JointedShadows" "STEP_X" "[I") ∈ lw_tbl := List.mem_append_right _ (show _ ∈ tables_1 from List.mem_append_right _ (List.mem_append_left _ (List.mem_of_getElem? (i := 94) rfl)))
theorem tw_9 : (Jvm.Cond.fieldLinkNest "JointedShadows$Pose" (127 : Nat) "JointedShadows" "STEP_Y" "[I" "JointedShadows") ∈ lw_tbl := List.mem_append_right _ (show _ ∈ tables_1 from List.mem_append_right _ (List.mem_append_left _ (List.mem_of_getElem? (i := 95) rfl)))
theorem tw_10 : (Jvm.Cond.laysStatic "JointedShadows" "STEP_Y" "[I") ∈ lw_tbl := List.mem_append_right _ (show _ ∈ tables_1 from List.mem_append_right _ (List.mem_append_left _ (List.mem_of_getElem? (i := 96) rfl)))
def kd1 : Nat → Nat := fun t => [7, 11, 5, 12, 4, 9, 9, 3, 9, 9, 9, 9, 3, 9, 9, 9, 9, 6, 6].getD t 0
def ln1 : Nat → Nat := fun t => [0, 6, 0, 60, 0, 8, 1024, 0, 8, 9, 9, 9, 0, 8, 9, 9, 9, 0, 0].getD t 0
def kd2 : Nat → Nat := fun t => [8, 9, 9, 9, 9, 9, 9, 9, 9, 9, 9, 9, 9, 9, 9, 9, 10, 10, 9, 10, 10, 9, 9, 9].getD t 0
def ln2 : Nat → Nat := fun t => [0, 6, 6, 6, 6, 48, 48, 48, 60, 60, 60, 60, 60, 60, 6, 48, 54, 54, 54, 4, 4, 8, 8, 8].getD t 0
def st1 : St := (fun t k => if t = 0 ∧ k = 0 then 100 else if (t = 7 ∨ t = 12) ∧ k = 4 then 1 else 0, fun _ _ => 0, fun _ _ => none)
def st2 : St := (fun t k => if t = 0 ∧ k = 0 then 100 else 0, fun _ _ => 0, fun _ _ => none)
theorem kd1_big {t : Nat} (h : 19 ≤ t) : kd1 t = 0 := by
  unfold kd1
  rw [List.getD_eq_getElem?_getD, List.getElem?_eq_none (by exact h)]; rfl
theorem kd2_big {t : Nat} (h : 24 ≤ t) : kd2 t = 0 := by
  unfold kd2
  rw [List.getD_eq_getElem?_getD, List.getElem?_eq_none (by exact h)]; rfl
theorem kd1_no {t : Nat} : kd1 t ≠ 1 := by
  by_cases h : t < 19
  · exact (by decide : ∀ t, t < 19 → kd1 t ≠ 1) t h
  · rw [kd1_big (by omega)]; decide
theorem kd1_three {t : Nat} (h3 : kd1 t = 3) : t = 7 ∨ t = 12 := by
  by_cases h : t < 19
  · exact (by decide : ∀ t, t < 19 → kd1 t = 3 → t = 7 ∨ t = 12) t h h3
  · rw [kd1_big (by omega)] at h3; cases h3
abbrev w1 (A : Nat → Prop) (u : Nat → Nat) (D : va_G) (cI cJ cF cM : ClassId) : Wp := (A, u, kd1, ln1, D, cI, cJ, cF, cM)
abbrev w2 (A : Nat → Prop) (u : Nat → Nat) (D : va_G) (cI cJ cF cM : ClassId) : Wp := (A, u, kd2, ln2, D, cI, cJ, cF, cM)
section START
variable {A : Nat → Prop} {u : Nat → Nat} {D : va_G} {cI cJ cF cM : ClassId} {H : Heap}
theorem CW.w1 : CW (w1 A u D cI cJ cF cM) := by
  refine ⟨rfl, rfl, rfl, rfl, rfl, rfl, rfl, rfl, rfl, rfl, rfl, rfl, rfl, rfl, rfl, rfl, rfl, rfl, rfl, rfl, rfl, rfl, rfl, rfl, rfl, rfl, rfl, rfl, rfl, rfl, rfl, fun t h => absurd h kd1_no, fun t h => ?_⟩
  rcases kd1_three h with e | e <;> subst e <;> exact ⟨rfl, rfl, rfl, rfl, rfl, rfl, rfl, rfl⟩
theorem MW.w2 : MW (w2 A u D cI cJ cF cM) := ⟨rfl, rfl, rfl, rfl, rfl, rfl, rfl, rfl, rfl, rfl, rfl, rfl, rfl, rfl, rfl, rfl, rfl, rfl, rfl, rfl, rfl, rfl, rfl, rfl, rfl, rfl, rfl, rfl, rfl, rfl, rfl, rfl, rfl, rfl, rfl, rfl, rfl, rfl, rfl, rfl, rfl, rfl, rfl, rfl, rfl, rfl, rfl⟩
set_option maxRecDepth 20000 in
set_option maxHeartbeats 2000000 in
theorem Wd.w1 (hP : va_P D vwCl (lsX6_init cI cJ cF cM u) H) (hD : va_D A (lsX6_init cI cJ cF cM u)) : Wd (w1 A u D cI cJ cF cM) st1 H := by
  have hlt : ∀ t, kd1 t ≠ 0 → t < 19 := fun t h => Nat.not_le.mp fun q => h (kd1_big q)
  have hget : ∀ t, t < 19 → ∃ e, (lsX6_init cI cJ cF cM u)[t]? = some (u t, e) := fun t h => by
    rcases (show t = 0 ∨ t = 1 ∨ t = 2 ∨ t = 3 ∨ t = 4 ∨ t = 5 ∨ t = 6 ∨ t = 7 ∨ t = 8 ∨ t = 9 ∨ t = 10 ∨ t = 11 ∨ t = 12 ∨ t = 13 ∨ t = 14 ∨ t = 15 ∨ t = 16 ∨ t = 17 ∨ t = 18 by omega) with rfl | rfl | rfl | rfl | rfl | rfl | rfl | rfl | rfl | rfl | rfl | rfl | rfl | rfl | rfl | rfl | rfl | rfl | rfl <;> exact ⟨_, rfl⟩
  refine ⟨fun t ht => ?_, fun t j t' _ h => (by cases h), fun t j t' _ h => (by cases h), fun t t' ht ht' e => ?_⟩
  · have h := hlt t ht
    rcases (show t = 0 ∨ t = 1 ∨ t = 2 ∨ t = 3 ∨ t = 4 ∨ t = 5 ∨ t = 6 ∨ t = 7 ∨ t = 8 ∨ t = 9 ∨ t = 10 ∨ t = 11 ∨ t = 12 ∨ t = 13 ∨ t = 14 ∨ t = 15 ∨ t = 16 ∨ t = 17 ∨ t = 18 by omega) with rfl | rfl | rfl | rfl | rfl | rfl | rfl | rfl | rfl | rfl | rfl | rfl | rfl | rfl | rfl | rfl | rfl | rfl | rfl
    · exact ⟨hP 0 _ rfl, hD.2 0 _ rfl⟩
    · exact ⟨hP 1 _ rfl, hD.2 1 _ rfl⟩
    · exact ⟨hP 2 _ rfl, hD.2 2 _ rfl⟩
    · exact ⟨hP 3 _ rfl, hD.2 3 _ rfl⟩
    · exact ⟨hP 4 _ rfl, hD.2 4 _ rfl⟩
    · exact ⟨hP 5 _ rfl, hD.2 5 _ rfl⟩
    · exact ⟨hP 6 _ rfl, hD.2 6 _ rfl⟩
    · exact ⟨hP 7 _ rfl, hD.2 7 _ rfl⟩
    · exact ⟨hP 8 _ rfl, hD.2 8 _ rfl⟩
    · exact ⟨hP 9 _ rfl, hD.2 9 _ rfl⟩
    · exact ⟨hP 10 _ rfl, hD.2 10 _ rfl⟩
    · exact ⟨hP 11 _ rfl, hD.2 11 _ rfl⟩
    · exact ⟨hP 12 _ rfl, hD.2 12 _ rfl⟩
    · exact ⟨hP 13 _ rfl, hD.2 13 _ rfl⟩
    · exact ⟨hP 14 _ rfl, hD.2 14 _ rfl⟩
    · exact ⟨hP 15 _ rfl, hD.2 15 _ rfl⟩
    · exact ⟨hP 16 _ rfl, hD.2 16 _ rfl⟩
    · exact ⟨hP 17 _ rfl, hD.2 17 _ rfl⟩
    · exact ⟨hP 18 _ rfl, hD.2 18 _ rfl⟩
  · obtain ⟨e1, h1⟩ := hget t (hlt t ht)
    obtain ⟨e2, h2⟩ := hget t' (hlt t' ht')
    exact hD.1 t t' _ _ h1 h2 e
set_option maxRecDepth 20000 in
set_option maxHeartbeats 2000000 in
theorem Wd.w2 (hP : va_P D vwCl (lsX7_init cI cJ cF cM u) H) (hD : va_D A (lsX7_init cI cJ cF cM u)) : Wd (w2 A u D cI cJ cF cM) st2 H := by
  have hlt : ∀ t, kd2 t ≠ 0 → t < 24 := fun t h => Nat.not_le.mp fun q => h (kd2_big q)
  have hget : ∀ t, t < 24 → ∃ e, (lsX7_init cI cJ cF cM u)[t]? = some (u t, e) := fun t h => by
    rcases (show t = 0 ∨ t = 1 ∨ t = 2 ∨ t = 3 ∨ t = 4 ∨ t = 5 ∨ t = 6 ∨ t = 7 ∨ t = 8 ∨ t = 9 ∨ t = 10 ∨ t = 11 ∨ t = 12 ∨ t = 13 ∨ t = 14 ∨ t = 15 ∨ t = 16 ∨ t = 17 ∨ t = 18 ∨ t = 19 ∨ t = 20 ∨ t = 21 ∨ t = 22 ∨ t = 23 by omega) with rfl | rfl | rfl | rfl | rfl | rfl | rfl | rfl | rfl | rfl | rfl | rfl | rfl | rfl | rfl | rfl | rfl | rfl | rfl | rfl | rfl | rfl | rfl | rfl <;> exact ⟨_, rfl⟩
  refine ⟨fun t ht => ?_, fun t j t' _ h => (by cases h), fun t j t' _ h => (by cases h), fun t t' ht ht' e => ?_⟩
  · have h := hlt t ht
    rcases (show t = 0 ∨ t = 1 ∨ t = 2 ∨ t = 3 ∨ t = 4 ∨ t = 5 ∨ t = 6 ∨ t = 7 ∨ t = 8 ∨ t = 9 ∨ t = 10 ∨ t = 11 ∨ t = 12 ∨ t = 13 ∨ t = 14 ∨ t = 15 ∨ t = 16 ∨ t = 17 ∨ t = 18 ∨ t = 19 ∨ t = 20 ∨ t = 21 ∨ t = 22 ∨ t = 23 by omega) with rfl | rfl | rfl | rfl | rfl | rfl | rfl | rfl | rfl | rfl | rfl | rfl | rfl | rfl | rfl | rfl | rfl | rfl | rfl | rfl | rfl | rfl | rfl | rfl
    · exact ⟨hP 0 _ rfl, hD.2 0 _ rfl⟩
    · exact ⟨hP 1 _ rfl, hD.2 1 _ rfl⟩
    · exact ⟨hP 2 _ rfl, hD.2 2 _ rfl⟩
    · exact ⟨hP 3 _ rfl, hD.2 3 _ rfl⟩
    · exact ⟨hP 4 _ rfl, hD.2 4 _ rfl⟩
    · exact ⟨hP 5 _ rfl, hD.2 5 _ rfl⟩
    · exact ⟨hP 6 _ rfl, hD.2 6 _ rfl⟩
    · exact ⟨hP 7 _ rfl, hD.2 7 _ rfl⟩
    · exact ⟨hP 8 _ rfl, hD.2 8 _ rfl⟩
    · exact ⟨hP 9 _ rfl, hD.2 9 _ rfl⟩
    · exact ⟨hP 10 _ rfl, hD.2 10 _ rfl⟩
    · exact ⟨hP 11 _ rfl, hD.2 11 _ rfl⟩
    · exact ⟨hP 12 _ rfl, hD.2 12 _ rfl⟩
    · exact ⟨hP 13 _ rfl, hD.2 13 _ rfl⟩
    · exact ⟨hP 14 _ rfl, hD.2 14 _ rfl⟩
    · exact ⟨hP 15 _ rfl, hD.2 15 _ rfl⟩
    · exact ⟨hP 16 _ rfl, hD.2 16 _ rfl⟩
    · exact ⟨hP 17 _ rfl, hD.2 17 _ rfl⟩
    · exact ⟨hP 18 _ rfl, hD.2 18 _ rfl⟩
    · exact ⟨hP 19 _ rfl, hD.2 19 _ rfl⟩
    · exact ⟨hP 20 _ rfl, hD.2 20 _ rfl⟩
    · exact ⟨hP 21 _ rfl, hD.2 21 _ rfl⟩
    · exact ⟨hP 22 _ rfl, hD.2 22 _ rfl⟩
    · exact ⟨hP 23 _ rfl, hD.2 23 _ rfl⟩
  · obtain ⟨e1, h1⟩ := hget t (hlt t ht)
    obtain ⟨e2, h2⟩ := hget t' (hlt t' ht')
    exact hD.1 t t' _ _ h1 h2 e
end START
theorem tabX {args : Array Value} {s : State} {A : Nat → Prop} (hg : (Jvm.Cond.and given_1 narrow_1).before args s = true) (hl : (Cond.laysStatic "JointedShadows" "STEP_X" "[I").before args s = true) (hi : (Cond.initialized "JointedShadows").before args s = true) (hA : ∀ a : Nat, a < s.heap.size → ¬ A a) : ∃ a : Nat, va_Z "JointedShadows" "STEP_X" "[I" (.ref a) A s s.heap ∧ va_T .int a 8 (fun j => .int (stX j)) A s s.heap := by
  have hs := flat_of_before _ hg
  have harr : (Cond.arrayOf (.static "JointedShadows" "STEP_X" "[I") .int).before args s = true := hs _ (by decide +kernel)
  have hlen : (Cond.eq (.length (.static "JointedShadows" "STEP_X" "[I")) (.int 8)).before args s = true := hs _ (by decide +kernel)
  have e0 : (Cond.eq (.elem (.static "JointedShadows" "STEP_X" "[I") (.int 0)) (.int (1))).before args s = true := hs _ (by decide +kernel)
  have e1 : (Cond.eq (.elem (.static "JointedShadows" "STEP_X" "[I") (.int 1)) (.int (1))).before args s = true := hs _ (by decide +kernel)
  have e2 : (Cond.eq (.elem (.static "JointedShadows" "STEP_X" "[I") (.int 2)) (.int (0))).before args s = true := hs _ (by decide +kernel)
  have e3 : (Cond.eq (.elem (.static "JointedShadows" "STEP_X" "[I") (.int 3)) (.int (-1))).before args s = true := hs _ (by decide +kernel)
  have e4 : (Cond.eq (.elem (.static "JointedShadows" "STEP_X" "[I") (.int 4)) (.int (-1))).before args s = true := hs _ (by decide +kernel)
  have e5 : (Cond.eq (.elem (.static "JointedShadows" "STEP_X" "[I") (.int 5)) (.int (-1))).before args s = true := hs _ (by decide +kernel)
  have e6 : (Cond.eq (.elem (.static "JointedShadows" "STEP_X" "[I") (.int 6)) (.int (0))).before args s = true := hs _ (by decide +kernel)
  have e7 : (Cond.eq (.elem (.static "JointedShadows" "STEP_X" "[I") (.int 7)) (.int (1))).before args s = true := hs _ (by decide +kernel)
  obtain ⟨a, h1, h2⟩ := va_Tof (N := 8) (f := fun j => .int (stX j)) (A := A) (by decide) harr (va_eqt hlen) (fun j hj => by
    rcases (show j = 0 ∨ j = 1 ∨ j = 2 ∨ j = 3 ∨ j = 4 ∨ j = 5 ∨ j = 6 ∨ j = 7 by omega) with rfl | rfl | rfl | rfl | rfl | rfl | rfl | rfl
    · exact va_eqt e0
    · exact va_eqt e1
    · exact va_eqt e2
    · exact va_eqt e3
    · exact va_eqt e4
    · exact va_eqt e5
    · exact va_eqt e6
    · exact va_eqt e7) hA
  exact ⟨a, va_Zof hl hi h1 hA, h2⟩
theorem tabY {args : Array Value} {s : State} {A : Nat → Prop} (hg : (Jvm.Cond.and given_1 narrow_1).before args s = true) (hl : (Cond.laysStatic "JointedShadows" "STEP_Y" "[I").before args s = true) (hi : (Cond.initialized "JointedShadows").before args s = true) (hA : ∀ a : Nat, a < s.heap.size → ¬ A a) : ∃ a : Nat, va_Z "JointedShadows" "STEP_Y" "[I" (.ref a) A s s.heap ∧ va_T .int a 8 (fun j => .int (stY j)) A s s.heap := by
  have hs := flat_of_before _ hg
  have harr : (Cond.arrayOf (.static "JointedShadows" "STEP_Y" "[I") .int).before args s = true := hs _ (by decide +kernel)
  have hlen : (Cond.eq (.length (.static "JointedShadows" "STEP_Y" "[I")) (.int 8)).before args s = true := hs _ (by decide +kernel)
  have e0 : (Cond.eq (.elem (.static "JointedShadows" "STEP_Y" "[I") (.int 0)) (.int (0))).before args s = true := hs _ (by decide +kernel)
  have e1 : (Cond.eq (.elem (.static "JointedShadows" "STEP_Y" "[I") (.int 1)) (.int (1))).before args s = true := hs _ (by decide +kernel)
  have e2 : (Cond.eq (.elem (.static "JointedShadows" "STEP_Y" "[I") (.int 2)) (.int (1))).before args s = true := hs _ (by decide +kernel)
  have e3 : (Cond.eq (.elem (.static "JointedShadows" "STEP_Y" "[I") (.int 3)) (.int (1))).before args s = true := hs _ (by decide +kernel)
  have e4 : (Cond.eq (.elem (.static "JointedShadows" "STEP_Y" "[I") (.int 4)) (.int (0))).before args s = true := hs _ (by decide +kernel)
  have e5 : (Cond.eq (.elem (.static "JointedShadows" "STEP_Y" "[I") (.int 5)) (.int (-1))).before args s = true := hs _ (by decide +kernel)
  have e6 : (Cond.eq (.elem (.static "JointedShadows" "STEP_Y" "[I") (.int 6)) (.int (-1))).before args s = true := hs _ (by decide +kernel)
  have e7 : (Cond.eq (.elem (.static "JointedShadows" "STEP_Y" "[I") (.int 7)) (.int (-1))).before args s = true := hs _ (by decide +kernel)
  obtain ⟨a, h1, h2⟩ := va_Tof (N := 8) (f := fun j => .int (stY j)) (A := A) (by decide) harr (va_eqt hlen) (fun j hj => by
    rcases (show j = 0 ∨ j = 1 ∨ j = 2 ∨ j = 3 ∨ j = 4 ∨ j = 5 ∨ j = 6 ∨ j = 7 by omega) with rfl | rfl | rfl | rfl | rfl | rfl | rfl | rfl
    · exact va_eqt e0
    · exact va_eqt e1
    · exact va_eqt e2
    · exact va_eqt e3
    · exact va_eqt e4
    · exact va_eqt e5
    · exact va_eqt e6
    · exact va_eqt e7) hA
  exact ⟨a, va_Zof hl hi h1 hA, h2⟩
set_option maxRecDepth 100000 in
set_option maxHeartbeats 4000000 in
theorem start_of {R : RelT} (hs : LawOK R) (h0 : R st1 st2 43) {p : Program} {e : Env} {s : State} {m : MethodId} {below : List Frame} {meth : Method} {c : Code} (l : Launch) {b L : Nat} {xs : Nat → Int32} (hL : L ≤ 3072) (C0 : lw_At p s m meth c b L xs) : W p l e room_1 s m #[Value.ref b] below meth c s.heap [] 0 0 (lw_Z below #[Value.ref b] s) (entryFrame m ([Value.ref b] : List Value).toArray 4) := by
  obtain ⟨hx, hb, hr, hml, hown, hts0, hX, hbl, hlocks, hgv⟩ := id C0
  have hts : ∀ w ∈ GT, w.before #[Value.ref b] s = true := fun w h => hts0 w (gt_tbl h)
  have hA : ∀ q : Nat, s.heap.size ≤ q → (fun q : Nat => s.heap.size ≤ q) q := fun _ h => h
  have hbA : ¬ (fun q : Nat => s.heap.size ≤ q) b := Nat.not_le.mpr hbl
  obtain ⟨c0, iS0, hKn0⟩ := u_known (C := RX0) (T := TX0) (N := 8) (n := 8) hts cls0.1 (hts _ g1_160)
  obtain ⟨c1, iS1, hKn1⟩ := u_known (C := RX1) (T := TX1) (N := 8) (n := 8) hts cls1.1 (hts _ g1_235)
  obtain ⟨c2, iS2, hKn2⟩ := u_known (C := RX2) (T := TX2) (N := 9) (n := 9) hts cls2.1 (hts _ g1_59)
  obtain ⟨c3, iS3, hKn3⟩ := u_known (C := RX3) (T := TX3) (N := 3) (n := 3) hts cls3.1 (hts _ g1_41)
  obtain ⟨c4, iS4, hKn4⟩ := u_known (C := RX4) (T := TX4) (N := 2) (n := 2) hts cls4.1 (hts _ g1_24)
  obtain ⟨c5, iS5, hKn5⟩ := u_known (C := RX5) (T := TX5) (N := 4) (n := 4) hts cls5.1 (hts _ g1_103)
  obtain ⟨c6, iS6, hKn6⟩ := u_known (C := RX6) (T := TX6) (N := 9) (n := 9) hts cls6.1 (hts _ g1_14)
  obtain ⟨c7, iS7, hKn7⟩ := u_known (C := RX7) (T := TX7) (N := 27) (n := 27) hts cls7.1 (hts _ g3_56)
  obtain ⟨D, hKc⟩ : ∃ D : va_G, ∀ (k : Nat) (q : vw_C), vwCl[k]? = some q → u_Kn s q.1 q.2.1 q.2.2 (D.1 k) (D.2 k) := by
    refine ⟨(fun k => [c0, c1, c2, c3, c4, c5, c6, c7].getD k c0, fun k => [iS0, iS1, iS2, iS3, iS4, iS5, iS6, iS7].getD k iS0), ?_⟩
    intro k q hq
    match k, hq with
    | 0, hq => cases hq; exact hKn0
    | 1, hq => cases hq; exact hKn1
    | 2, hq => cases hq; exact hKn2
    | 3, hq => cases hq; exact hKn3
    | 4, hq => cases hq; exact hKn4
    | 5, hq => cases hq; exact hKn5
    | 6, hq => cases hq; exact hKn6
    | 7, hq => cases hq; exact hKn7
    | k + 8, hq => simp [vwCl] at hq
  obtain ⟨cI, kI, pI, i1, i2, i3⟩ := Cond.arrayClass_spec (hts _ g1_57)
  obtain ⟨cJ, kJ, pJ, j1, j2, j3⟩ := Cond.arrayClass_spec (hts _ g3_143)
  obtain ⟨pF, cF, kF, f1, f2, f3, f4, f5⟩ := Cond.arrayOver_spec (hts0 _ tw_0)
  obtain ⟨pM, cM, kM, m1, m2, m3, m4, m5⟩ := Cond.arrayOver_spec (hts0 _ tw_2)
  have hK : va_K D vwCl (TYL cI cJ cF cM) s := by
    refine ⟨hKc, fun k q hq => ?_⟩
    match k, hq with
    | 0, hq => cases hq; exact ⟨fun n z => ⟨fun k h => (by cases h), kI, i2, pI, i3⟩, i1⟩
    | 1, hq => cases hq; exact ⟨fun n z => ⟨fun k h => (by cases h), kJ, j2, pJ, j3⟩, j1⟩
    | 2, hq => cases hq; exact ⟨fun n z => ⟨fun k h => (by cases h), kF, f3, pF, f4⟩, kF, pF, f3, f4, f1, f5⟩
    | 3, hq => cases hq; exact ⟨fun n z => ⟨fun k h => (by cases h), kM, m3, pM, m4⟩, kM, pM, m3, m4, m1, m5⟩
    | k + 4, hq => simp [TYL] at hq
  have hKC : KC D cI cJ cF cM s := ⟨hK, va_AO.of (hts0 _ tw_0), va_AO.of (hts0 _ tw_2), va_Nw.of rfl (hts0 _ tw_1), va_Nw.of rfl (hts0 _ tw_3), va_Nw.of rfl (hts0 _ tw_4), va_Nw.of rfl (hts0 _ tw_5)⟩
  have hNZ : NZ s := ⟨va_Nw.of rfl (hts0 _ tw_6), va_Nw.of rfl (hts0 _ tw_7), va_Nw.of rfl (hts0 _ tw_9)⟩
  obtain ⟨ax, zx, tx⟩ := tabX (A := fun q : Nat => s.heap.size ≤ q) hgv (hts0 _ tw_8) (hts _ g1_1) (fun a h => Nat.not_le.mpr h)
  obtain ⟨ay, zy, ty⟩ := tabY (A := fun q : Nat => s.heap.size ≤ q) hgv (hts0 _ tw_10) (hts _ g1_1) (fun a h => Nat.not_le.mpr h)
  have hS : va_S (fun q : Nat => s.heap.size ≤ q) s.heap s.heap [] := va_S.rf
  have hP : va_P D vwCl [] s.heap := fun k q h => by simp at h
  have hD : va_D (fun q : Nat => s.heap.size ≤ q) [] := ⟨fun i j p q h => by simp at h, fun k q h => by simp at h⟩
  have hl := lv_entry ([.ref b]) (n := 4) (Nat.le_of_ble_eq_true rfl)
  rw [lg_entry_eq]
  generalize (lg_sl ([.ref b]) ++ List.replicate (4 - (lg_sl ([.ref b])).length) Slot.unset).toArray = ls at hl ⊢
  have hl : lv_has ls 4 [(0, .ref b)] := hl
  refine va_new (ci := 6) (fs := [.int 0, .int 0, .null, .null, .null, .null, .null, .null, .null]) (C := RX6) (T := TX6) (N := 9) hx hb hts cls6.1 tyX6 tyX6_ok hown (hts _ g1_13) (hts _ g1_14) (hts _ g1_1) hK hP hD hS hA rfl (fun j hj => by rcases (show j = 0 ∨ j = 1 ∨ j = 2 ∨ j = 3 ∨ j = 4 ∨ j = 5 ∨ j = 6 ∨ j = 7 ∨ j = 8 by omega) with rfl | rfl | rfl | rfl | rfl | rfl | rfl | rfl | rfl <;> rfl) (Nat.le_of_ble_eq_true rfl) (Nat.le_of_ble_eq_true rfl) dL_law_0 (fun q0 H hP hD hS => ?_)
  refine W.widen (k := 1) (n := 9) (Nat.le_of_ble_eq_true rfl) (Nat.le_of_ble_eq_true rfl) ?_
  refine lv_dup hx hb dL_law_3 rfl ?_
  have hPc := hP.sub (ws' := [(q0, .inr (6, [.int 0, .int 0, .null, .null, .null, .null, .null, .null, .null]))]) [0] rfl
  have hDc := hD.sub (ws' := [(q0, .inr (6, [.int 0, .int 0, .null, .null, .null, .null, .null, .null, .null]))]) [0] (by decide) rfl
  have hFc := va_free (wc := [(q0, .inr (6, [.int 0, .int 0, .null, .null, .null, .null, .null, .null, .null]))]) hD hS hA [0] rfl
  refine va_callv (va_runI (As := []) (rest := [.ref q0]) ⟨hx, hb, hml, hown, hts⟩ (kX6_init l D cI cJ cF cM q0 H.size) (cwI 0 hts (good_code g1_17) rfl rfl rfl (hts _ g1_1) (hts _ g1_15) (hts _ g1_16) rfl (by decide +kernel) ⟨(Nat.le_of_ble_eq_true rfl), (Nat.le_of_ble_eq_true rfl)⟩) ⟨fun a U g mk q => ⟨q.1, q.2.1, q.2.2.1, q.2.2.2.1.calling, q.2.2.2.2⟩, fun U hU hW => ⟨rfl, by rw [hU], by rw [hU]; exact hPc, hKC.at hW, hDc.weaken (fun _ _ _ _ => trivial)⟩⟩ rfl rfl hl.1 rfl (lv_room (Nat.le_of_ble_eq_true rfl)) dL_law_4 ⟨(Nat.le_of_ble_eq_true rfl), (Nat.le_of_ble_eq_true rfl)⟩) hS (fun q _ h => hFc q h) hFc (fun u6 t H1 locs ht hvm hw6 hB hz1 hk1 hS => ?_)
  obtain ⟨hP1, hD1⟩ := hB
  rw [ht] at hP1
  obtain ⟨hP, hD⟩ := va_join (wr := []) hP hD [0] [] rfl rfl (by decide) (by decide) hk1 hFc hP1 hD1
  have hP : va_P D vwCl (lsX6_init cI cJ cF cM u6) H1 := hP
  have hD : va_D (fun q : Nat => s.heap.size ≤ q) (lsX6_init cI cJ cF cM u6) := hD
  generalize H1 = H at hP hS ⊢
  refine W.widen (k := 19) (n := 1208) (Nat.le_of_ble_eq_true rfl) (Nat.le_of_ble_eq_true rfl) ?_
  refine lv_astore_n (lv' := [(1, .ref q0), (0, .ref b)]) hx hb dL_law_7 rfl hl (by decide) rfl (fun ls hl => ?_)
  refine va_new (ci := 7) (fs := [.int 0, .int 0, .null, .null, .null, .null, .null, .null, .null, .int 0, .null, .null, .null, .null, .null, .null, .null, .null, .null, .null, .null, .null, .null, .int 0, .null, .null, .null]) (C := RX7) (T := TX7) (N := 27) hx hb hts cls7.1 tyX7 tyX7_ok hown (hts _ g3_55) (hts _ g3_56) (hts _ g1_6) hK hP hD hS hA rfl (fun j hj => by rcases (show j = 0 ∨ j = 1 ∨ j = 2 ∨ j = 3 ∨ j = 4 ∨ j = 5 ∨ j = 6 ∨ j = 7 ∨ j = 8 ∨ j = 9 ∨ j = 10 ∨ j = 11 ∨ j = 12 ∨ j = 13 ∨ j = 14 ∨ j = 15 ∨ j = 16 ∨ j = 17 ∨ j = 18 ∨ j = 19 ∨ j = 20 ∨ j = 21 ∨ j = 22 ∨ j = 23 ∨ j = 24 ∨ j = 25 ∨ j = 26 by omega) with rfl | rfl | rfl | rfl | rfl | rfl | rfl | rfl | rfl | rfl | rfl | rfl | rfl | rfl | rfl | rfl | rfl | rfl | rfl | rfl | rfl | rfl | rfl | rfl | rfl | rfl | rfl <;> rfl) (Nat.le_of_ble_eq_true rfl) (Nat.le_of_ble_eq_true rfl) dL_law_8 (fun q1 H hP hD hS => ?_)
  refine W.widen (k := 20) (n := 1235) (Nat.le_of_ble_eq_true rfl) (Nat.le_of_ble_eq_true rfl) ?_
  refine lv_dup hx hb dL_law_11 rfl ?_
  have hPc := hP.sub (ws' := [(q1, .inr (7, [.int 0, .int 0, .null, .null, .null, .null, .null, .null, .null, .int 0, .null, .null, .null, .null, .null, .null, .null, .null, .null, .null, .null, .null, .null, .int 0, .null, .null, .null]))]) [19] rfl
  have hDc := hD.sub (ws' := [(q1, .inr (7, [.int 0, .int 0, .null, .null, .null, .null, .null, .null, .null, .int 0, .null, .null, .null, .null, .null, .null, .null, .null, .null, .null, .null, .null, .null, .int 0, .null, .null, .null]))]) [19] (by decide) rfl
  have hFc := va_free (wc := [(q1, .inr (7, [.int 0, .int 0, .null, .null, .null, .null, .null, .null, .null, .int 0, .null, .null, .null, .null, .null, .null, .null, .null, .null, .null, .null, .null, .null, .int 0, .null, .null, .null]))]) hD hS hA [19] rfl
  refine va_callv (va_runI (As := []) (rest := [.ref q1]) ⟨hx, hb, hml, hown, hts⟩ (kX7_init l D cI cJ cF cM q1 H.size) (cwI 0 hts (good_code g3_59) rfl rfl rfl (hts _ g1_6) (hts _ g3_57) (hts _ g3_58) rfl (by decide +kernel) ⟨(Nat.le_of_ble_eq_true rfl), (Nat.le_of_ble_eq_true rfl)⟩) ⟨fun a U g mk q => ⟨q.1, q.2.1, q.2.2.1, q.2.2.2.1.calling, q.2.2.2.2⟩, fun U hU hW => ⟨rfl, by rw [hU], by rw [hU]; exact hPc, hKC.at hW, hDc.weaken (fun _ _ _ _ => trivial)⟩⟩ rfl rfl hl.1 rfl (lv_room (Nat.le_of_ble_eq_true rfl)) dL_law_12 ⟨(Nat.le_of_ble_eq_true rfl), (Nat.le_of_ble_eq_true rfl)⟩) hS (fun q _ h => hFc q h) hFc (fun u7 t H1 locs ht hvm hw7 hB hz1 hk1 hS => ?_)
  obtain ⟨hP1, hD1⟩ := hB
  rw [ht] at hP1
  obtain ⟨hP, hD⟩ := va_join (wr := lsX6_init cI cJ cF cM u6) hP hD [19] [0, 1, 2, 3, 4, 5, 6, 7, 8, 9, 10, 11, 12, 13, 14, 15, 16, 17, 18] rfl rfl (by decide) (by decide) hk1 hFc hP1 hD1
  generalize H1 = H at hP hS ⊢
  refine W.widen (k := 43) (n := 2011) (Nat.le_of_ble_eq_true rfl) (Nat.le_of_ble_eq_true rfl) ?_
  have hPa := hP.sub (ws' := lsX6_init cI cJ cF cM u6) [0, 1, 2, 3, 4, 5, 6, 7, 8, 9, 10, 11, 12, 13, 14, 15, 16, 17, 18] rfl
  have hDa := hD.sub (ws' := lsX6_init cI cJ cF cM u6) [0, 1, 2, 3, 4, 5, 6, 7, 8, 9, 10, 11, 12, 13, 14, 15, 16, 17, 18] (by decide) rfl
  have hPb := hP.sub (ws' := lsX7_init cI cJ cF cM u7) [19, 20, 21, 22, 23, 24, 25, 26, 27, 28, 29, 30, 31, 32, 33, 34, 35, 36, 37, 38, 39, 40, 41, 42] rfl
  have hDb := hD.sub (ws' := lsX7_init cI cJ cF cM u7) [19, 20, 21, 22, 23, 24, 25, 26, 27, 28, 29, 30, 31, 32, 33, 34, 35, 36, 37, 38, 39, 40, 41, 42] (by decide) rfl
  refine lv_astore_n (lv' := [(2, .ref q1), (1, .ref q0), (0, .ref b)]) hx hb dL_law_15 rfl hl (by decide) rfl (fun ls hl => ?_)
  refine lv_iconst (v := 0) hx hb dL_law_16 (by decide) ?_
  refine lv_istore_n (lv' := [(3, .int 0), (2, .ref q1), (1, .ref q0), (0, .ref b)]) hx hb dL_law_17 rfl hl (by decide) rfl (fun ls hl => ?_)
  have hSX : ∀ u K l, SX (((fun q : Nat => s.heap.size ≤ q), u, K, l, D, cI, cJ, cF, cM) : Wp) s s.heap := fun u K l => ⟨ax, ay, zx, tx, zy, ty⟩
  have hdis : Dis (w1 (fun q : Nat => s.heap.size ≤ q) u6 D cI cJ cF cM) (w2 (fun q : Nat => s.heap.size ≤ q) u7 D cI cJ cF cM) := fun t t' ht ht' e => by
    have h1 : t < 19 := Nat.not_le.mp fun q => ht (kd1_big q)
    have h2 : t' < 24 := Nat.not_le.mp fun q => ht' (kd2_big q)
    have g1 : ∀ t, t < 19 → ∃ e, (lsX6_init cI cJ cF cM u6 ++ lsX7_init cI cJ cF cM u7)[t]? = some (u6 t, e) := fun t h => by
      rcases (show t = 0 ∨ t = 1 ∨ t = 2 ∨ t = 3 ∨ t = 4 ∨ t = 5 ∨ t = 6 ∨ t = 7 ∨ t = 8 ∨ t = 9 ∨ t = 10 ∨ t = 11 ∨ t = 12 ∨ t = 13 ∨ t = 14 ∨ t = 15 ∨ t = 16 ∨ t = 17 ∨ t = 18 by omega) with rfl | rfl | rfl | rfl | rfl | rfl | rfl | rfl | rfl | rfl | rfl | rfl | rfl | rfl | rfl | rfl | rfl | rfl | rfl <;> exact ⟨_, rfl⟩
    have g2 : ∀ t, t < 24 → ∃ e, (lsX6_init cI cJ cF cM u6 ++ lsX7_init cI cJ cF cM u7)[19 + t]? = some (u7 t, e) := fun t h => by
      rcases (show t = 0 ∨ t = 1 ∨ t = 2 ∨ t = 3 ∨ t = 4 ∨ t = 5 ∨ t = 6 ∨ t = 7 ∨ t = 8 ∨ t = 9 ∨ t = 10 ∨ t = 11 ∨ t = 12 ∨ t = 13 ∨ t = 14 ∨ t = 15 ∨ t = 16 ∨ t = 17 ∨ t = 18 ∨ t = 19 ∨ t = 20 ∨ t = 21 ∨ t = 22 ∨ t = 23 by omega) with rfl | rfl | rfl | rfl | rfl | rfl | rfl | rfl | rfl | rfl | rfl | rfl | rfl | rfl | rfl | rfl | rfl | rfl | rfl | rfl | rfl | rfl | rfl | rfl <;> exact ⟨_, rfl⟩
    obtain ⟨e1, a1⟩ := g1 t h1
    obtain ⟨e2, a2⟩ := g2 t' h2
    have := hD.1 t (19 + t') _ _ a1 a2 e
    omega
  have key := law_loop (R := R) (b := b) (L := L) (xs' := xs) (v := w2 (fun q : Nat => s.heap.size ≤ q) u7 D cI cJ cF cM) hs MW.w2 hL 513 0 (p, l, e, room_1, s, m, #[Value.ref b], below, meth, c, lw_Z below #[Value.ref b] s, 43, 2011) (w1 (fun q : Nat => s.heap.size ≤ q) u6 D cI cJ cF cM) st1 st2 43 rfl ⟨hx, hb, hml, hown, hts, ⟨hK, hNZ, hSX _ _ _⟩, ⟨hK, hNZ, hSX _ _ _⟩, rfl, rfl, rfl, hX, hbl, (Nat.le_of_ble_eq_true rfl), (Nat.le_of_ble_eq_true rfl)⟩ CW.w1 (fun c hc => by have : c < 19 := Nat.not_le.mp fun q => hc (kd1_big q); omega) h0 ⟨(Nat.le_of_ble_eq_true rfl), (Nat.le_of_ble_eq_true rfl)⟩ ⟨rfl, rfl, hr, hlocks⟩
  have hl2 : lv_has ls 4 [(3, .int (nI (6 * 0))), (1, .ref (u6 0)), (2, .ref (u7 0)), (0, .ref b)] := by rw [hw6, hw7]; exact lv_sub hl [0, 2, 1, 3] rfl
  exact key H _ ls (Wd.w1 hPa hDa) (Wd.w2 hPb hDb) hdis hS hl2
