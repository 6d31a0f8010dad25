-- X4_newMove
set_option maxRecDepth 20000 in
set_option maxHeartbeats 2000000 in
theorem wX4_newMove_b70 {X : Cx} {w : Wp} {σ : St} {r : Option Nat} {σ' : St} {b : Nat} {w0 : Wp} {k33 : St → Int32 → Nat → Int32 → Option (Option Nat × St)} {x1 : Int32} {t4 : Nat} {x5 : Int32} (hX : OK X w cX4_newMove 6 RX4 (some (.object "JointedShadows$Move")) { frames := 2, cells := 1, slots := 8, locals := 36 } (QEq w0 b σ' 2 r)) (hW : CW w) (hE : Ext w0 w b) (hk33 : ∀ (σ : St) (x1 : Int32) (t4 : Nat) (x5 : Int32), ∀ (h4 : wK w t4 = 2), k33 σ x1 t4 x5 = some (r, σ') → J X w 6 σ 33 [(0, rf w 2), (1, .int x1), (4, rf w t4), (5, .int x5)] []) (h4 : wK w t4 = 2) (hf : fX4_newMove_b70 b k33 σ x1 t4 x5 = some (r, σ')) : J X w 6 σ 70 [(0, rf w 2), (1, .int x1), (4, rf w t4), (5, .int x5)] [] := by
  rw [fX4_newMove_b70] at hf
  refine r_iincC hX dX4_newMove_70 3 rfl (d := (-1 : Int32)) (by decide) (by decide) rfl ?_
  refine r_goto hX dX4_newMove_73 (tgt := 33) (by decide) ?_
  exact J.sub [1, 2, 3, 0] rfl (hk33 _ _ _ _ h4 hf)
set_option maxRecDepth 20000 in
set_option maxHeartbeats 2000000 in
theorem wX4_newMove_b95 {X : Cx} {w : Wp} {σ : St} {r : Option Nat} {σ' : St} {b : Nat} {w0 : Wp}  {t4 : Nat} (hX : OK X w cX4_newMove 6 RX4 (some (.object "JointedShadows$Move")) { frames := 2, cells := 1, slots := 8, locals := 36 } (QEq w0 b σ' 2 r)) (hW : CW w) (hE : Ext w0 w b)  (h4 : wK w t4 = 2) (hf : fX4_newMove_b95 b σ t4 = some (r, σ')) : J X w 6 σ 95 [(4, rf w t4)] [] := by
  rw [fX4_newMove_b95] at hf
  refine r_aload hX dX4_newMove_95 0 rfl ?_
  cases hf
  exact r_aretE (r := (some t4)) hX (fun _ h => by cases h; exact h4) hE hW dX4_newMove_97
set_option maxRecDepth 20000 in
set_option maxHeartbeats 2000000 in
theorem wX4_newMove_b85 {X : Cx} {w : Wp} {σ : St} {r : Option Nat} {σ' : St} {b : Nat} {w0 : Wp}  {t4 : Nat} (hX : OK X w cX4_newMove 6 RX4 (some (.object "JointedShadows$Move")) { frames := 2, cells := 1, slots := 8, locals := 36 } (QEq w0 b σ' 2 r)) (hW : CW w) (hE : Ext w0 w b)  (h4 : wK w t4 = 2) (hf : fX4_newMove_b85 b σ t4 = some (r, σ')) : J X w 6 σ 85 [(0, rf w 2), (4, rf w t4)] [] := by
  rw [fX4_newMove_b85] at hf
  refine r_aload_n hX dX4_newMove_85 rfl 0 rfl ?_
  refine r_dup hX dX4_newMove_86 rfl ?_
  refine r_get hX cls4 (CK2 hW) (by decide) (ce5 (CK2 hW)) 1 (by decide) g1_33 rfl dX4_newMove_87 (.int (σ.1 2 1)) rfl ?_
  refine r_iconst hX dX4_newMove_90 (v := (1 : Int32)) (by decide) ?_
  refine r_iadd hX dX4_newMove_91 ?_
  refine r_putI hX cls4 (CK2 hW) (by decide) (fun _ _ _ => ce5 (CK2 hW)) 1 (by decide) g1_33 rfl rfl (tyX4_ok 1 (by decide)) (fun _ _ => Nat.le_of_ble_eq_true rfl) dX4_newMove_92 (fun _ _ => rfl) ?_
  exact J.sub [1] rfl (wX4_newMove_b95 hX hW hE  h4 hf)
set_option maxRecDepth 20000 in
set_option maxHeartbeats 2000000 in
theorem wX4_newMove_b76 {X : Cx} {w : Wp} {σ : St} {r : Option Nat} {σ' : St} {b : Nat} {w0 : Wp}  {t4 : Nat} {x5 : Int32} (hX : OK X w cX4_newMove 6 RX4 (some (.object "JointedShadows$Move")) { frames := 2, cells := 1, slots := 8, locals := 36 } (QEq w0 b σ' 2 r)) (hW : CW w) (hE : Ext w0 w b)  (h4 : wK w t4 = 2) (hf : fX4_newMove_b76 b σ t4 x5 = some (r, σ')) : J X w 6 σ 76 [(0, rf w 2), (4, rf w t4), (5, .int x5)] [] := by
  rw [fX4_newMove_b76] at hf
  refine r_aload_n hX dX4_newMove_76 rfl 0 rfl ?_
  refine r_get hX cls4 (CK2 hW) (by decide) (ce5 (CK2 hW)) 0 (by decide) g1_31 rfl dX4_newMove_77 (rf w 3) rfl ?_
  refine r_iload hX dX4_newMove_80 2 rfl ?_
  refine r_aload hX dX4_newMove_82 1 rfl ?_
  obtain ⟨hi1, hf⟩ := grd_some hf
  refine r_astM hX (o := (some t4)) (CK3 hW) (CL3 hW) hi1 (fun _ h => by cases h; exact h4) dX4_newMove_84 ?_
  exact J.sub [0, 1] rfl (wX4_newMove_b85 hX hW hE  h4 hf)
set_option maxRecDepth 20000 in
set_option maxHeartbeats 2000000 in
theorem wX4_newMove_L33 {X : Cx} {w : Wp} {r : Option Nat} {σ' : St} {b : Nat} {w0 : Wp}  (hX : OK X w cX4_newMove 6 RX4 (some (.object "JointedShadows$Move")) { frames := 2, cells := 1, slots := 8, locals := 36 } (QEq w0 b σ' 2 r)) (hW : CW w) (hE : Ext w0 w b)  : ∀ (n : Nat) (σ : St) (x1 : Int32) (t4 : Nat) (x5 : Int32), ∀ (h4 : wK w t4 = 2), fX4_newMove_L33 b n σ x1 t4 x5 = some (r, σ') → J X w 6 σ 33 [(0, rf w 2), (1, .int x1), (4, rf w t4), (5, .int x5)] [] := by
  intro n
  induction n with
  | zero =>
    intro σ x1 t4 x5 h4 hf
    cases hf
  | succ n ih =>
    intro σ x1 t4 x5 h4 hf
    rw [fX4_newMove_L33] at hf
    refine r_iload hX dX4_newMove_33 3 rfl ?_
    refine r_if_le hX dX4_newMove_35 (tgt := 76) (by decide) (fun h => ?_) (fun h => ?_)
    · have hf := ite_t h hf
      exact J.sub [0, 2, 3] rfl (wX4_newMove_b76 hX hW hE  h4 hf)
    · have hf := ite_f h hf
      refine r_aload_n hX dX4_newMove_38 rfl 0 rfl ?_
      refine r_get hX cls4 (CK2 hW) (by decide) (ce5 (CK2 hW)) 0 (by decide) g1_31 rfl dX4_newMove_39 (rf w 3) rfl ?_
      refine r_iload hX dX4_newMove_42 3 rfl ?_
      refine r_iconst hX dX4_newMove_44 (v := (1 : Int32)) (by decide) ?_
      refine r_isub hX dX4_newMove_45 ?_
      obtain ⟨hi6, hf⟩ := grd_some hf
      refine r_aldM hX (CK3 hW) (CL3 hW) hi6 dX4_newMove_46 (fun oo1 heoo1 htoo1 => ?_)
      have hf := app1_s heoo1 hf
      refine r_iload_n hX dX4_newMove_47 rfl 1 rfl ?_
      refine J.callz (fun H locs ls a b c => runS hX miX4_isAfter (cX4_isAfter_ok (xl X) hW htoo1 rfl) g2_41 g2_42 ⟨Nat.le_of_ble_eq_true rfl, Nat.le_of_ble_eq_true rfl⟩ dX4_newMove_48 rfl (As := [rv w oo1, .int x1]) (rest := []) rfl (Nat.le_of_ble_eq_true rfl) a b c) (fun hz2 => ?_)
      refine r_if_eq hX dX4_newMove_51 (tgt := 76) (by decide) (fun h => ?_) (fun h => ?_)
      · have hf := ite_t h hf
        exact J.sub [0, 2, 3] rfl (wX4_newMove_b76 hX hW hE  h4 hf)
      · have hf := ite_f h hf
        refine r_aload_n hX dX4_newMove_54 rfl 0 rfl ?_
        refine r_get hX cls4 (CK2 hW) (by decide) (ce5 (CK2 hW)) 0 (by decide) g1_31 rfl dX4_newMove_55 (rf w 3) rfl ?_
        refine r_iload hX dX4_newMove_58 3 rfl ?_
        refine r_aload_n hX dX4_newMove_60 rfl 0 rfl ?_
        refine r_get hX cls4 (CK2 hW) (by decide) (ce5 (CK2 hW)) 0 (by decide) g1_31 rfl dX4_newMove_61 (rf w 3) rfl ?_
        refine r_iload hX dX4_newMove_64 3 rfl ?_
        refine r_iconst hX dX4_newMove_66 (v := (1 : Int32)) (by decide) ?_
        refine r_isub hX dX4_newMove_67 ?_
        obtain ⟨hi5, hf⟩ := grd_some hf
        refine r_aldM hX (CK3 hW) (CL3 hW) hi5 dX4_newMove_68 (fun oo3 heoo3 htoo3 => ?_)
        have hf := app1_s heoo3 hf
        obtain ⟨hi4, hf⟩ := grd_some hf
        refine r_astM hX (o := oo3) (CK3 hW) (CL3 hW) hi4 htoo3 dX4_newMove_69 ?_
        exact J.sub [0, 1, 2, 3] rfl (wX4_newMove_b70 hX hW hE ih h4 hf)
set_option maxRecDepth 20000 in
set_option maxHeartbeats 2000000 in
theorem wX4_newMove_b25 {X : Cx} {w : Wp} {σ : St} {r : Option Nat} {σ' : St} {b : Nat} {w0 : Wp}  {x1 : Int32} {ts0 : Nat} (hX : OK X w cX4_newMove 6 RX4 (some (.object "JointedShadows$Move")) { frames := 2, cells := 1, slots := 8, locals := 36 } (QEq w0 b σ' 2 r)) (hW : CW w) (hE : Ext w0 w b)  (hs0 : wK w ts0 = 2) (hf : fX4_newMove_b25 b σ x1 ts0 = some (r, σ')) : J X w 6 σ 25 [(0, rf w 2), (1, .int x1)] [rf w ts0] := by
  rw [fX4_newMove_b25] at hf
  refine r_astore hX (i := 4) dX4_newMove_25 (by decide) rfl ?_
  refine r_aload_n hX dX4_newMove_27 rfl 1 rfl ?_
  refine r_get hX cls4 (CK2 hW) (by decide) (ce5 (CK2 hW)) 1 (by decide) g1_33 rfl dX4_newMove_28 (.int (σ.1 2 1)) rfl ?_
  refine r_istore hX (i := 5) dX4_newMove_31 (by decide) rfl ?_
  exact J.sub [2, 3, 1, 0] rfl (wX4_newMove_L33 hX hW hE  _ _ _ _ _ hs0 hf)
set_option maxRecDepth 20000 in
set_option maxHeartbeats 2000000 in
theorem wX4_newMove_b0 {X : Cx} {w : Wp} {σ : St} {r : Option Nat} {σ' : St} {b : Nat}  {x1 : Int32} {x2 : Int32} {x3 : Int32} (hX : OK X w cX4_newMove 6 RX4 (some (.object "JointedShadows$Move")) { frames := 2, cells := 1, slots := 8, locals := 36 } (QEq w b σ' 2 r)) (hW : CW w) (hF : Fre w b) (hcl : xcl X = 0 ∧ xsl X = 0)   (hf : fX4_newMove b σ x1 x2 x3 = some (r, σ')) : J X w 6 σ 0 [(0, rf w 2), (1, .int x1), (2, .int x2), (3, .int x3)] [] := by
  rw [fX4_newMove] at hf
  refine r_aload_n hX dX4_newMove_0 rfl 0 rfl ?_
  refine r_get hX cls4 (CK2 hW) (by decide) (ce5 (CK2 hW)) 1 (by decide) g1_33 rfl dX4_newMove_1 (.int (σ.1 2 1)) rfl ?_
  refine r_bipush hX dX4_newMove_4 (v := (60 : Int32)) (by decide) ?_
  refine r_icmp_lt hX dX4_newMove_6 (tgt := 11) (by decide) (fun h => ?_) (fun h => ?_)
  · have hf := ite_t h hf
    have hF0 := hF
    refine J.sub [0, 1, 2, 3] rfl ?_
    refine r_new (w0 := w) (fs := [.int 0, .int 0, .int 0, .int 0, .int 0, .int 0, .int 0, .int 0]) hX hW (Ext.refl w b) hF cls1 (Or.inr ⟨rfl, rfl⟩) (fun _ _ _ _ h => ce14 h) tyX1 tyX1_ok (fun j hj => by rcases (show j = 0 ∨ j = 1 ∨ j = 2 ∨ j = 3 ∨ j = 4 ∨ j = 5 ∨ j = 6 ∨ j = 7 by omega) with rfl | rfl | rfl | rfl | rfl | rfl | rfl | rfl <;> rfl) g1_29 g1_235 g1_8 (by rw [hcl.1]; exact Nat.le_of_ble_eq_true rfl) (by rw [hcl.2]; exact Nat.le_of_ble_eq_true rfl) dX4_newMove_11 (fun w => [(0, rf w 2), (1, .int x1), (2, .int x2), (3, .int x3)]) (fun w => []) (fun w' h => ⟨by simp only [rfE h 2 (by rw [(CK2 hW)]; decide)], rfl⟩) (fun X w hcl2 hX hW hE hkb hF1 hlive => ?_)
    refine r_dup hX dX4_newMove_14 rfl ?_
    refine r_aload_n hX dX4_newMove_15 rfl 0 rfl ?_
    refine r_get hX cls4 (CK2 hW) (by decide) (ce5 (CK2 hW)) 1 (by decide) g1_33 rfl dX4_newMove_16 (.int (σ.1 2 1)) rfl ?_
    refine r_iload_n hX dX4_newMove_19 rfl 1 rfl ?_
    refine r_iload_n hX dX4_newMove_20 rfl 2 rfl ?_
    refine r_iload_n hX dX4_newMove_21 rfl 3 rfl ?_
    refine r_initM hX hW hE hF0 hkb (fun c h e => (hlive c h).elim (fun q => absurd q e) (fun q => hF1 c q)) g1_236 g1_238 g1_8 g1_237 ⟨Nat.le_of_ble_eq_true rfl, Nat.le_of_ble_eq_true rfl⟩ dX4_newMove_22 (fun w => [(0, rf w 2), (1, .int x1), (2, .int x2), (3, .int x3)]) (fun w => [rf w b]) (fun w' h => ⟨by simp only [rfE h 2 (by rw [(CK2 hW)]; decide)], by simp only [rfE h b (by rw [hkb]; decide)]⟩) (Nat.le_of_ble_eq_true rfl) (fun w hX hW hE hkb => ?_)
    exact J.sub [0, 1] rfl (wX4_newMove_b25 hX hW hE  hkb hf)
  · have hf := ite_f h hf
    refine r_null hX dX4_newMove_9 ?_
    cases hf
    exact r_aretE (r := none) hX (fun _ h => by cases h) (Ext.refl w b) hW dX4_newMove_10
theorem miX4_newMove : MI yX4_newMove cX4_newMove 6 (some (.object "JointedShadows$Move")) 3 := ⟨g1_234, ⟨by decide, by decide, by decide +kernel⟩, g1_2, by decide +kernel⟩
theorem cX4_newMove_ok (l : Launch) {w : Wp} {σ : St} {r : Option Nat} {σ' : St} {b : Nat} {x1 : Int32} {x2 : Int32} {x3 : Int32} (hW : CW w) (hF : Fre w b)  (hf : fX4_newMove b σ x1 x2 x3 = some (r, σ')) : CM l w yX4_newMove cX4_newMove 6 (some (.object "JointedShadows$Move")) { frames := 2, cells := 1, slots := 8, locals := 36 } [rf w 2, .int x1, .int x2, .int x3] σ (QEq w b σ' 2 r) := CM.of miX4_newMove.2.2.2 (Nat.le_of_ble_eq_true rfl) (fun X hcl hX => J.sub [0, 1, 2, 3] rfl (wX4_newMove_b0 hX hW hF hcl  hf))
-- X4_keepFirst
set_option maxRecDepth 20000 in
set_option maxHeartbeats 2000000 in
theorem wX4_keepFirst_b52 {X : Cx} {w : Wp} {σ : St} {σ' : St} {k4 : St → Int32 → Int32 → Int32 → Option St} {x1 : Int32} {x2 : Int32} {x3 : Int32} (hX : OK X w cX4_keepFirst 5 RX4 none (rmz 0 0) (Qv w σ')) (hW : CW w) (hk4 : ∀ (σ : St) (x1 : Int32) (x2 : Int32) (x3 : Int32), k4 σ x1 x2 x3 = some σ' → J X w 5 σ 4 [(0, rf w 2), (1, .int x1), (2, .int x2), (3, .int x3)] [])  (hf : fX4_keepFirst_b52 k4 σ x1 x2 x3 = some σ') : J X w 5 σ 52 [(0, rf w 2), (1, .int x1), (2, .int x2), (3, .int x3)] [] := by
  rw [fX4_keepFirst_b52] at hf
  refine r_iincC hX dX4_keepFirst_52 3 rfl (d := (1 : Int32)) (by decide) (by decide) rfl ?_
  refine r_goto hX dX4_keepFirst_55 (tgt := 4) (by decide) ?_
  exact J.sub [1, 2, 3, 0] rfl (hk4 _ _ _ _  hf)
set_option maxRecDepth 20000 in
set_option maxHeartbeats 2000000 in
theorem wX4_keepFirst_b49 {X : Cx} {w : Wp} {σ : St} {σ' : St} {k4 : St → Int32 → Int32 → Int32 → Option St} {x1 : Int32} {x2 : Int32} {x3 : Int32} (hX : OK X w cX4_keepFirst 5 RX4 none (rmz 0 0) (Qv w σ')) (hW : CW w) (hk4 : ∀ (σ : St) (x1 : Int32) (x2 : Int32) (x3 : Int32), k4 σ x1 x2 x3 = some σ' → J X w 5 σ 4 [(0, rf w 2), (1, .int x1), (2, .int x2), (3, .int x3)] [])  (hf : fX4_keepFirst_b49 k4 σ x1 x2 x3 = some σ') : J X w 5 σ 49 [(0, rf w 2), (1, .int x1), (2, .int x2), (3, .int x3)] [] := by
  rw [fX4_keepFirst_b49] at hf
  refine r_iincC hX dX4_keepFirst_49 2 rfl (d := (1 : Int32)) (by decide) (by decide) rfl ?_
  exact J.sub [1, 2, 0, 3] rfl (wX4_keepFirst_b52 hX hW hk4  hf)
set_option maxRecDepth 20000 in
set_option maxHeartbeats 2000000 in
theorem wX4_keepFirst_b27 {X : Cx} {w : Wp} {σ : St} {σ' : St} {k4 : St → Int32 → Int32 → Int32 → Option St} {x1 : Int32} {x2 : Int32} {x3 : Int32} {o4 : Option Nat} (hX : OK X w cX4_keepFirst 5 RX4 none (rmz 0 0) (Qv w σ')) (hW : CW w) (hk4 : ∀ (σ : St) (x1 : Int32) (x2 : Int32) (x3 : Int32), k4 σ x1 x2 x3 = some σ' → J X w 5 σ 4 [(0, rf w 2), (1, .int x1), (2, .int x2), (3, .int x3)] []) (h4 : ∀ t, o4 = some t → wK w t = 2) (hf : fX4_keepFirst_b27 k4 σ x1 x2 x3 o4 = some σ') : J X w 5 σ 27 [(0, rf w 2), (1, .int x1), (2, .int x2), (3, .int x3), (4, rv w o4)] [] := by
  rw [fX4_keepFirst_b27] at hf
  refine r_aloadQ hX dX4_keepFirst_27 4 rfl ?_
  refine r_ifnull hX dX4_keepFirst_29 (tgt := 52) (by decide) (fun h => ?_) (fun u1 h => ?_)
  · subst h
    have hf := elim_n hf
    exact J.sub [0, 1, 2, 3] rfl (wX4_keepFirst_b52 hX hW hk4  hf)
  · subst h
    have hf := elim_s hf
    refine r_aload hX dX4_keepFirst_32 4 rfl ?_
    refine r_get hX cls1 (h4 u1 rfl) (by decide) (ce2 (h4 u1 rfl)) 0 (by decide) g2_1 rfl dX4_keepFirst_34 (.int (σ.1 u1 0)) rfl ?_
    refine r_iload_n hX dX4_keepFirst_37 rfl 1 rfl ?_
    refine r_icmp_ge hX dX4_keepFirst_38 (tgt := 52) (by decide) (fun h => ?_) (fun h => ?_)
    · have hf := ite_t h hf
      exact J.sub [0, 1, 2, 3] rfl (wX4_keepFirst_b52 hX hW hk4  hf)
    · have hf := ite_f h hf
      refine r_aload_n hX dX4_keepFirst_41 rfl 0 rfl ?_
      refine r_get hX cls4 (CK2 hW) (by decide) (ce5 (CK2 hW)) 0 (by decide) g1_31 rfl dX4_keepFirst_42 (rf w 3) rfl ?_
      refine r_iload_n hX dX4_keepFirst_45 rfl 2 rfl ?_
      refine r_aload hX dX4_keepFirst_46 4 rfl ?_
      obtain ⟨hi2, hf⟩ := grd_some hf
      refine r_astM hX (o := (some u1)) (CK3 hW) (CL3 hW) hi2 (fun _ h => by cases h; exact (h4 u1 rfl)) dX4_keepFirst_48 ?_
      exact J.sub [0, 1, 2, 3] rfl (wX4_keepFirst_b49 hX hW hk4  hf)
set_option maxRecDepth 20000 in
set_option maxHeartbeats 2000000 in
theorem wX4_keepFirst_L4 {X : Cx} {w : Wp} {σ' : St}  (hX : OK X w cX4_keepFirst 5 RX4 none (rmz 0 0) (Qv w σ')) (hW : CW w)  : ∀ (n : Nat) (σ : St) (x1 : Int32) (x2 : Int32) (x3 : Int32), fX4_keepFirst_L4 n σ x1 x2 x3 = some σ' → J X w 5 σ 4 [(0, rf w 2), (1, .int x1), (2, .int x2), (3, .int x3)] [] := by
  intro n
  induction n with
  | zero =>
    intro σ x1 x2 x3 hf
    cases hf
  | succ n ih =>
    intro σ x1 x2 x3 hf
    rw [fX4_keepFirst_L4] at hf
    refine r_iload_n hX dX4_keepFirst_4 rfl 3 rfl ?_
    refine r_aload_n hX dX4_keepFirst_5 rfl 0 rfl ?_
    refine r_get hX cls4 (CK2 hW) (by decide) (ce5 (CK2 hW)) 1 (by decide) g1_33 rfl dX4_keepFirst_6 (.int (σ.1 2 1)) rfl ?_
    refine r_icmp_ge hX dX4_keepFirst_9 (tgt := 58) (by decide) (fun h => ?_) (fun h => ?_)
    · have hf := ite_t h hf
      refine r_aload_n hX dX4_keepFirst_58 rfl 0 rfl ?_
      refine r_iload_n hX dX4_keepFirst_59 rfl 2 rfl ?_
      refine r_putI hX cls4 (CK2 hW) (by decide) (fun _ _ _ => ce5 (CK2 hW)) 1 (by decide) g1_33 rfl rfl (tyX4_ok 1 (by decide)) (fun _ _ => Nat.le_of_ble_eq_true rfl) dX4_keepFirst_60 (fun _ _ => rfl) ?_
      cases hf
      exact r_vret hX dX4_keepFirst_63
    · have hf := ite_f h hf
      refine r_aload_n hX dX4_keepFirst_12 rfl 0 rfl ?_
      refine r_get hX cls4 (CK2 hW) (by decide) (ce5 (CK2 hW)) 0 (by decide) g1_31 rfl dX4_keepFirst_13 (rf w 3) rfl ?_
      refine r_iload_n hX dX4_keepFirst_16 rfl 3 rfl ?_
      obtain ⟨hi3, hf⟩ := grd_some hf
      refine r_aldM hX (CK3 hW) (CL3 hW) hi3 dX4_keepFirst_17 (fun oo1 heoo1 htoo1 => ?_)
      have hf := app1_s heoo1 hf
      refine r_astoreQ hX (i := 4) dX4_keepFirst_18 (by decide) rfl ?_
      refine r_aload_n hX dX4_keepFirst_20 rfl 1 rfl ?_
      refine r_get hX cls4 (CK2 hW) (by decide) (ce5 (CK2 hW)) 0 (by decide) g1_31 rfl dX4_keepFirst_21 (rf w 3) rfl ?_
      refine r_iload_n hX dX4_keepFirst_24 rfl 4 rfl ?_
      refine r_null hX dX4_keepFirst_25 ?_
      obtain ⟨hi2, hf⟩ := grd_some hf
      refine r_astM hX (o := none) (CK3 hW) (CL3 hW) hi2 (fun _ h => by cases h) dX4_keepFirst_26 ?_
      exact J.sub [1, 2, 3, 4, 0] rfl (wX4_keepFirst_b27 hX hW ih htoo1 hf)
set_option maxRecDepth 20000 in
set_option maxHeartbeats 2000000 in
theorem wX4_keepFirst_b0 {X : Cx} {w : Wp} {σ : St} {σ' : St}  {x1 : Int32} (hX : OK X w cX4_keepFirst 5 RX4 none (rmz 0 0) (Qv w σ')) (hW : CW w)   (hf : fX4_keepFirst σ x1 = some σ') : J X w 5 σ 0 [(0, rf w 2), (1, .int x1)] [] := by
  rw [fX4_keepFirst] at hf
  refine r_iconst hX dX4_keepFirst_0 (v := (0 : Int32)) (by decide) ?_
  refine r_istore_n hX (i := 2) dX4_keepFirst_1 rfl (by decide) rfl ?_
  refine r_iconst hX dX4_keepFirst_2 (v := (0 : Int32)) (by decide) ?_
  refine r_istore_n hX (i := 3) dX4_keepFirst_3 rfl (by decide) rfl ?_
  exact J.sub [2, 3, 1, 0] rfl (wX4_keepFirst_L4 hX hW  _ _ _ _ _  hf)
theorem miX4_keepFirst : MI yX4_keepFirst cX4_keepFirst 5 none 1 := ⟨g2_55, ⟨by decide, by decide, by decide +kernel⟩, g1_2, by decide +kernel⟩
theorem cX4_keepFirst_ok (l : Launch) {w : Wp} {σ : St} {σ' : St} {x1 : Int32} (hW : CW w)  (hf : fX4_keepFirst σ x1 = some σ') : CM l w yX4_keepFirst cX4_keepFirst 5 none (rmz 0 0) [rf w 2, .int x1] σ (Qv w σ') := CM.of miX4_keepFirst.2.2.2 (Nat.le_of_ble_eq_true rfl) (fun X hcl hX => J.sub [0, 1] rfl (wX4_keepFirst_b0 hX hW  hf))
-- X4_hasMoveIn
set_option maxRecDepth 20000 in
set_option maxHeartbeats 2000000 in
theorem wX4_hasMoveIn_b39 {X : Cx} {w : Wp} {σ : St} {r : Int32} {k11 : Int32 → Int32 → Int32 → Option Int32} {x1 : Int32} {x3 : Int32} {x4 : Int32} (hX : OK X w cX4_hasMoveIn 6 RX4 (some .boolean) (rmz 0 0) (Qz w σ r)) (hW : CW w) (hk11 : ∀ (x1 : Int32) (x3 : Int32) (x4 : Int32), k11 x1 x3 x4 = some r → J X w 6 σ 11 [(1, .int x1), (2, rf w 3), (3, .int x3), (4, .int x4)] [])  (hf : fX4_hasMoveIn_b39 σ k11 x1 x3 x4 = some r) : J X w 6 σ 39 [(1, .int x1), (2, rf w 3), (3, .int x3), (4, .int x4)] [] := by
  rw [fX4_hasMoveIn_b39] at hf
  refine r_iincC hX dX4_hasMoveIn_39 3 rfl (d := (1 : Int32)) (by decide) (by decide) rfl ?_
  refine r_goto hX dX4_hasMoveIn_42 (tgt := 11) (by decide) ?_
  exact J.sub [1, 2, 3, 0] rfl (hk11 _ _ _  hf)
set_option maxRecDepth 20000 in
set_option maxHeartbeats 2000000 in
theorem wX4_hasMoveIn_L11 {X : Cx} {w : Wp} {σ : St} {r : Int32}  (hX : OK X w cX4_hasMoveIn 6 RX4 (some .boolean) (rmz 0 0) (Qz w σ r)) (hW : CW w)  : ∀ (n : Nat) (x1 : Int32) (x3 : Int32) (x4 : Int32), fX4_hasMoveIn_L11 σ n x1 x3 x4 = some r → J X w 6 σ 11 [(1, .int x1), (2, rf w 3), (3, .int x3), (4, .int x4)] [] := by
  intro n
  induction n with
  | zero =>
    intro x1 x3 x4 hf
    cases hf
  | succ n ih =>
    intro x1 x3 x4 hf
    rw [fX4_hasMoveIn_L11] at hf
    refine r_iload hX dX4_hasMoveIn_11 3 rfl ?_
    refine r_iload_n hX dX4_hasMoveIn_13 rfl 2 rfl ?_
    refine r_icmp_ge hX dX4_hasMoveIn_14 (tgt := 45) (by decide) (fun h => ?_) (fun h => ?_)
    · have hf := ite_t h hf
      refine r_iconst hX dX4_hasMoveIn_45 (v := (0 : Int32)) (by decide) ?_
      cases hf
      exact r_zret hX bz0 dX4_hasMoveIn_46
    · have hf := ite_f h hf
      refine r_aload_n hX dX4_hasMoveIn_17 rfl 1 rfl ?_
      refine r_iload hX dX4_hasMoveIn_18 3 rfl ?_
      obtain ⟨hi3, hf⟩ := grd_some hf
      refine r_aldM hX (CK3 hW) (CL3 hW) hi3 dX4_hasMoveIn_20 (fun oo1 heoo1 htoo1 => ?_)
      have hf := app1_s heoo1 hf
      refine r_astoreQ hX (i := 5) dX4_hasMoveIn_21 (by decide) rfl ?_
      refine r_aloadQ hX dX4_hasMoveIn_23 0 rfl ?_
      refine r_ifnull hX dX4_hasMoveIn_25 (tgt := 39) (by decide) (fun h => ?_) (fun u2 h => ?_)
      · subst h
        have hf := elim_n hf
        exact J.sub [1, 2, 3, 4] rfl (wX4_hasMoveIn_b39 hX hW ih  hf)
      · subst h
        have hf := elim_s hf
        refine r_aload hX dX4_hasMoveIn_28 0 rfl ?_
        refine r_get hX cls1 (htoo1 u2 rfl) (by decide) (ce2 (htoo1 u2 rfl)) 1 (by decide) g2_5 rfl dX4_hasMoveIn_30 (.int (σ.1 u2 1)) rfl ?_
        refine r_iload_n hX dX4_hasMoveIn_33 rfl 1 rfl ?_
        refine r_icmp_ne hX dX4_hasMoveIn_34 (tgt := 39) (by decide) (fun h => ?_) (fun h => ?_)
        · have hf := ite_f h hf
          exact J.sub [1, 2, 3, 4] rfl (wX4_hasMoveIn_b39 hX hW ih  hf)
        · have hf := ite_t h hf
          refine r_iconst hX dX4_hasMoveIn_37 (v := (1 : Int32)) (by decide) ?_
          cases hf
          exact r_zret hX bz1 dX4_hasMoveIn_38
set_option maxRecDepth 20000 in
set_option maxHeartbeats 2000000 in
theorem wX4_hasMoveIn_b0 {X : Cx} {w : Wp} {σ : St} {r : Int32}  {x1 : Int32} (hX : OK X w cX4_hasMoveIn 6 RX4 (some .boolean) (rmz 0 0) (Qz w σ r)) (hW : CW w)   (hf : fX4_hasMoveIn σ x1 = some r) : J X w 6 σ 0 [(0, rf w 2), (1, .int x1)] [] := by
  rw [fX4_hasMoveIn] at hf
  refine r_aload_n hX dX4_hasMoveIn_0 rfl 0 rfl ?_
  refine r_get hX cls4 (CK2 hW) (by decide) (ce5 (CK2 hW)) 0 (by decide) g1_31 rfl dX4_hasMoveIn_1 (rf w 3) rfl ?_
  refine r_astore_n hX (i := 2) dX4_hasMoveIn_4 rfl (by decide) rfl ?_
  refine r_aload_n hX dX4_hasMoveIn_5 rfl 0 rfl ?_
  refine r_alen hX (t0 := 3) (n := 60) (by rw [(CK3 hW)]; decide) (ce12 (CK3 hW)) rfl (CL3 hW) (v := (60 : Int32)) (by decide) dX4_hasMoveIn_6 ?_
  refine r_istore_n hX (i := 3) dX4_hasMoveIn_7 rfl (by decide) rfl ?_
  refine r_iconst hX dX4_hasMoveIn_8 (v := (0 : Int32)) (by decide) ?_
  refine r_istore hX (i := 4) dX4_hasMoveIn_9 (by decide) rfl ?_
  exact J.sub [4, 2, 1, 0] rfl (wX4_hasMoveIn_L11 hX hW  _ _ _ _  hf)
theorem miX4_hasMoveIn : MI yX4_hasMoveIn cX4_hasMoveIn 6 (some .boolean) 1 := ⟨g2_176, ⟨by decide, by decide, by decide +kernel⟩, g1_2, by decide +kernel⟩
theorem cX4_hasMoveIn_ok (l : Launch) {w : Wp} {σ : St} {r : Int32} {x1 : Int32} (hW : CW w)  (hf : fX4_hasMoveIn σ x1 = some r) : CM l w yX4_hasMoveIn cX4_hasMoveIn 6 (some .boolean) (rmz 0 0) [rf w 2, .int x1] σ (Qz w σ r) := CM.of miX4_hasMoveIn.2.2.2 (Nat.le_of_ble_eq_true rfl) (fun X hcl hX => J.sub [0, 1] rfl (wX4_hasMoveIn_b0 hX hW  hf))
-- X4_rodsMoved
set_option maxRecDepth 20000 in
set_option maxHeartbeats 2000000 in
theorem wX4_rodsMoved_b64 {X : Cx} {w : Wp} {σ : St} {r : Int32} {k16 : Int32 → Int32 → Int32 → Int32 → Int32 → Option Int32} {x1 : Int32} {x2 : Int32} {x3 : Int32} {x5 : Int32} {x6 : Int32} (hX : OK X w cX4_rodsMoved 8 RX4 (some .int) (rmz 1 20) (Qi w σ r)) (hW : CW w) (hk16 : ∀ (x1 : Int32) (x2 : Int32) (x3 : Int32) (x5 : Int32) (x6 : Int32), k16 x1 x2 x3 x5 x6 = some r → J X w 8 σ 16 [(1, .int x1), (2, .int x2), (3, .int x3), (4, rf w 3), (5, .int x5), (6, .int x6)] [])  (hf : fX4_rodsMoved_b64 σ k16 x1 x2 x3 x5 x6 = some r) : J X w 8 σ 64 [(1, .int x1), (2, .int x2), (3, .int x3), (4, rf w 3), (5, .int x5), (6, .int x6)] [] := by
  rw [fX4_rodsMoved_b64] at hf
  refine r_iincC hX dX4_rodsMoved_64 5 rfl (d := (1 : Int32)) (by decide) (by decide) rfl ?_
  refine r_goto hX dX4_rodsMoved_67 (tgt := 16) (by decide) ?_
  exact J.sub [1, 2, 3, 4, 5, 0] rfl (hk16 _ _ _ _ _  hf)
set_option maxRecDepth 20000 in
set_option maxHeartbeats 2000000 in
theorem wX4_rodsMoved_L16 {X : Cx} {w : Wp} {σ : St} {r : Int32}  (hX : OK X w cX4_rodsMoved 8 RX4 (some .int) (rmz 1 20) (Qi w σ r)) (hW : CW w)  : ∀ (n : Nat) (x1 : Int32) (x2 : Int32) (x3 : Int32) (x5 : Int32) (x6 : Int32), fX4_rodsMoved_L16 σ n x1 x2 x3 x5 x6 = some r → J X w 8 σ 16 [(1, .int x1), (2, .int x2), (3, .int x3), (4, rf w 3), (5, .int x5), (6, .int x6)] [] := by
  intro n
  induction n with
  | zero =>
    intro x1 x2 x3 x5 x6 hf
    cases hf
  | succ n ih =>
    intro x1 x2 x3 x5 x6 hf
    rw [fX4_rodsMoved_L16] at hf
    refine r_iload hX dX4_rodsMoved_16 5 rfl ?_
    refine r_iload hX dX4_rodsMoved_18 4 rfl ?_
    refine r_icmp_ge hX dX4_rodsMoved_20 (tgt := 70) (by decide) (fun h => ?_) (fun h => ?_)
    · have hf := ite_t h hf
      refine r_iload_n hX dX4_rodsMoved_70 rfl 2 rfl ?_
      cases hf
      exact r_iret hX dX4_rodsMoved_71
    · have hf := ite_f h hf
      refine r_aload hX dX4_rodsMoved_23 3 rfl ?_
      refine r_iload hX dX4_rodsMoved_25 5 rfl ?_
      obtain ⟨hi3, hf⟩ := grd_some hf
      refine r_aldM hX (CK3 hW) (CL3 hW) hi3 dX4_rodsMoved_27 (fun oo1 heoo1 htoo1 => ?_)
      have hf := app1_s heoo1 hf
      refine r_astoreQ hX (i := 7) dX4_rodsMoved_28 (by decide) rfl ?_
      refine r_aloadQ hX dX4_rodsMoved_30 0 rfl ?_
      refine r_ifnull hX dX4_rodsMoved_32 (tgt := 64) (by decide) (fun h => ?_) (fun u2 h => ?_)
      · subst h
        have hf := elim_n hf
        exact J.sub [1, 2, 3, 4, 5, 6] rfl (wX4_rodsMoved_b64 hX hW ih  hf)
      · subst h
        have hf := elim_s hf
        refine r_aload hX dX4_rodsMoved_35 0 rfl ?_
        refine r_get hX cls1 (htoo1 u2 rfl) (by decide) (ce2 (htoo1 u2 rfl)) 1 (by decide) g2_5 rfl dX4_rodsMoved_37 (.int (σ.1 u2 1)) rfl ?_
        refine r_iload_n hX dX4_rodsMoved_40 rfl 2 rfl ?_
        refine r_icmp_ne hX dX4_rodsMoved_41 (tgt := 64) (by decide) (fun h => ?_) (fun h => ?_)
        · have hf := ite_f h hf
          exact J.sub [1, 2, 3, 4, 5, 6] rfl (wX4_rodsMoved_b64 hX hW ih  hf)
        · have hf := ite_t h hf
          refine r_aload hX dX4_rodsMoved_44 0 rfl ?_
          refine r_get hX cls1 (htoo1 u2 rfl) (by decide) (ce2 (htoo1 u2 rfl)) 2 (by decide) g2_8 rfl dX4_rodsMoved_46 (.int (σ.1 u2 2)) rfl ?_
          refine r_iload_n hX dX4_rodsMoved_49 rfl 1 rfl ?_
          refine r_icmp_ne hX dX4_rodsMoved_50 (tgt := 64) (by decide) (fun h => ?_) (fun h => ?_)
          · have hf := ite_f h hf
            exact J.sub [1, 2, 3, 4, 5, 6] rfl (wX4_rodsMoved_b64 hX hW ih  hf)
          · have hf := ite_t h hf
            refine r_iload_n hX dX4_rodsMoved_53 rfl 3 rfl ?_
            refine r_aload hX dX4_rodsMoved_54 0 rfl ?_
            refine r_get hX cls1 (htoo1 u2 rfl) (by decide) (ce2 (htoo1 u2 rfl)) 3 (by decide) g2_11 rfl dX4_rodsMoved_56 (.int (σ.1 u2 3)) rfl ?_
            refine J.calli (fun H locs ls a b c => runS hX miX4_rodBit (cX4_rodBit_ok (xl X)  rfl) g2_212 g2_213 ⟨Nat.le_of_ble_eq_true rfl, Nat.le_of_ble_eq_true rfl⟩ dX4_rodsMoved_59 rfl (As := [.int (σ.1 u2 3)]) (rest := [.int x3]) rfl (Nat.le_of_ble_eq_true rfl) a b c) ?_
            refine r_ior hX dX4_rodsMoved_62 ?_
            refine r_istore_n hX (i := 3) dX4_rodsMoved_63 rfl (by decide) rfl ?_
            exact J.sub [2, 3, 0, 4, 5, 6] rfl (wX4_rodsMoved_b64 hX hW ih  hf)
set_option maxRecDepth 20000 in
set_option maxHeartbeats 2000000 in
theorem wX4_rodsMoved_b0 {X : Cx} {w : Wp} {σ : St} {r : Int32}  {x1 : Int32} {x2 : Int32} (hX : OK X w cX4_rodsMoved 8 RX4 (some .int) (rmz 1 20) (Qi w σ r)) (hW : CW w)   (hf : fX4_rodsMoved σ x1 x2 = some r) : J X w 8 σ 0 [(0, rf w 2), (1, .int x1), (2, .int x2)] [] := by
  rw [fX4_rodsMoved] at hf
  refine r_iconst hX dX4_rodsMoved_0 (v := (0 : Int32)) (by decide) ?_
  refine r_istore_n hX (i := 3) dX4_rodsMoved_1 rfl (by decide) rfl ?_
  refine r_aload_n hX dX4_rodsMoved_2 rfl 1 rfl ?_
  refine r_get hX cls4 (CK2 hW) (by decide) (ce5 (CK2 hW)) 0 (by decide) g1_31 rfl dX4_rodsMoved_3 (rf w 3) rfl ?_
  refine r_astore hX (i := 4) dX4_rodsMoved_6 (by decide) rfl ?_
  refine r_aload hX dX4_rodsMoved_8 0 rfl ?_
  refine r_alen hX (t0 := 3) (n := 60) (by rw [(CK3 hW)]; decide) (ce12 (CK3 hW)) rfl (CL3 hW) (v := (60 : Int32)) (by decide) dX4_rodsMoved_10 ?_
  refine r_istore hX (i := 5) dX4_rodsMoved_11 (by decide) rfl ?_
  refine r_iconst hX dX4_rodsMoved_13 (v := (0 : Int32)) (by decide) ?_
  refine r_istore hX (i := 6) dX4_rodsMoved_14 (by decide) rfl ?_
  exact J.sub [5, 6, 3, 2, 1, 0] rfl (wX4_rodsMoved_L16 hX hW  _ _ _ _ _ _  hf)
theorem miX4_rodsMoved : MI yX4_rodsMoved cX4_rodsMoved 8 (some .int) 2 := ⟨g2_211, ⟨by decide, by decide, by decide +kernel⟩, g1_2, by decide +kernel⟩
theorem cX4_rodsMoved_ok (l : Launch) {w : Wp} {σ : St} {r : Int32} {x1 : Int32} {x2 : Int32} (hW : CW w)  (hf : fX4_rodsMoved σ x1 x2 = some r) : CM l w yX4_rodsMoved cX4_rodsMoved 8 (some .int) (rmz 1 20) [rf w 2, .int x1, .int x2] σ (Qi w σ r) := CM.of miX4_rodsMoved.2.2.2 (Nat.le_of_ble_eq_true rfl) (fun X hcl hX => J.sub [0, 1, 2] rfl (wX4_rodsMoved_b0 hX hW  hf))
-- X5_lay
set_option maxRecDepth 20000 in
set_option maxHeartbeats 2000000 in
theorem wX5_lay_b45 {X : Cx} {w : Wp} {σ : St} {σ' : St} {t0 : Nat} {t1 : Nat}  {x3 : Int32} {x4 : Int32} (hX : OK X w cX5_lay 5 RX5 none (rmz 0 0) (Qv w σ')) (hW : CW w) (h0 : wK w t0 = 6) (h1 : wK w t1 = 3)   (hf : fX5_lay_b45 t0 t1 σ x3 x4 = some σ') : J X w 5 σ 45 [(0, rf w t0), (1, rf w t1), (3, .int x3), (4, .int x4)] [] := by
  rw [fX5_lay_b45] at hf
  refine r_aload_n hX dX5_lay_45 rfl 0 rfl ?_
  refine r_aload_n hX dX5_lay_46 rfl 1 rfl ?_
  refine r_get hX cls2 h1 (by decide) (ce3 h1) 2 (by decide) g1_69 rfl dX5_lay_47 (rf w (t1 + 3)) rfl ?_
  refine r_iload_n hX dX5_lay_50 rfl 2 rfl ?_
  obtain ⟨hi1, hf⟩ := grd_some hf
  refine r_iald hX (CPk3 hW h1) (CPl3 hW h1) hi1 dX5_lay_51 ?_
  refine r_i2l hX dX5_lay_52 ?_
  refine r_iload hX dX5_lay_53 3 rfl ?_
  refine r_i2l hX dX5_lay_55 ?_
  refine r_lmul hX dX5_lay_56 ?_
  refine r_putL hX cls5 h0 (by decide) (fun _ _ _ => ce6 h0) 3 (by decide) g1_111 rfl rfl (tyX5_ok 3 (by decide)) (fun _ _ => Nat.le_of_ble_eq_true rfl) dX5_lay_57 (fun _ _ => rfl) ?_
  cases hf
  exact r_vret hX dX5_lay_60
set_option maxRecDepth 20000 in
set_option maxHeartbeats 2000000 in
theorem wX5_lay_b30 {X : Cx} {w : Wp} {σ : St} {σ' : St} {t0 : Nat} {t1 : Nat}  {x3 : Int32} {x4 : Int32} (hX : OK X w cX5_lay 5 RX5 none (rmz 0 0) (Qv w σ')) (hW : CW w) (h0 : wK w t0 = 6) (h1 : wK w t1 = 3)   (hf : fX5_lay_b30 t0 t1 σ x3 x4 = some σ') : J X w 5 σ 30 [(0, rf w t0), (1, rf w t1), (3, .int x3), (4, .int x4)] [] := by
  rw [fX5_lay_b30] at hf
  refine r_aload_n hX dX5_lay_30 rfl 0 rfl ?_
  refine r_aload_n hX dX5_lay_31 rfl 1 rfl ?_
  refine r_get hX cls2 h1 (by decide) (ce3 h1) 1 (by decide) g1_66 rfl dX5_lay_32 (rf w (t1 + 2)) rfl ?_
  refine r_iload_n hX dX5_lay_35 rfl 2 rfl ?_
  obtain ⟨hi1, hf⟩ := grd_some hf
  refine r_iald hX (CPk2 hW h1) (CPl2 hW h1) hi1 dX5_lay_36 ?_
  refine r_i2l hX dX5_lay_37 ?_
  refine r_iload hX dX5_lay_38 3 rfl ?_
  refine r_i2l hX dX5_lay_40 ?_
  refine r_lmul hX dX5_lay_41 ?_
  refine r_putL hX cls5 h0 (by decide) (fun _ _ _ => ce6 h0) 2 (by decide) g1_110 rfl rfl (tyX5_ok 2 (by decide)) (fun _ _ => Nat.le_of_ble_eq_true rfl) dX5_lay_42 (fun _ _ => rfl) ?_
  exact J.sub [0, 1, 2, 3] rfl (wX5_lay_b45 hX hW h0 h1   hf)
set_option maxRecDepth 20000 in
set_option maxHeartbeats 2000000 in
theorem wX5_lay_b15 {X : Cx} {w : Wp} {σ : St} {σ' : St} {t0 : Nat} {t1 : Nat}  {x2 : Int32} {x3 : Int32} {x4 : Int32} (hX : OK X w cX5_lay 5 RX5 none (rmz 0 0) (Qv w σ')) (hW : CW w) (h0 : wK w t0 = 6) (h1 : wK w t1 = 3)   (hf : fX5_lay_b15 t0 t1 σ x2 x3 x4 = some σ') : J X w 5 σ 15 [(0, rf w t0), (1, rf w t1), (2, .int x2), (3, .int x3), (4, .int x4)] [] := by
  rw [fX5_lay_b15] at hf
  refine r_aload_n hX dX5_lay_15 rfl 0 rfl ?_
  refine r_aload_n hX dX5_lay_16 rfl 1 rfl ?_
  refine r_get hX cls2 h1 (by decide) (ce3 h1) 2 (by decide) g1_69 rfl dX5_lay_17 (rf w (t1 + 3)) rfl ?_
  refine r_iload_n hX dX5_lay_20 rfl 2 rfl ?_
  obtain ⟨hi1, hf⟩ := grd_some hf
  refine r_iald hX (CPk3 hW h1) (CPl3 hW h1) hi1 dX5_lay_21 ?_
  refine r_i2l hX dX5_lay_22 ?_
  refine r_iload hX dX5_lay_23 4 rfl ?_
  refine r_i2l hX dX5_lay_25 ?_
  refine r_lmul hX dX5_lay_26 ?_
  refine r_putL hX cls5 h0 (by decide) (fun _ _ _ => ce6 h0) 1 (by decide) g1_109 rfl rfl (tyX5_ok 1 (by decide)) (fun _ _ => Nat.le_of_ble_eq_true rfl) dX5_lay_27 (fun _ _ => rfl) ?_
  exact J.sub [0, 1, 3, 4] rfl (wX5_lay_b30 hX hW h0 h1   hf)
set_option maxRecDepth 20000 in
set_option maxHeartbeats 2000000 in
theorem wX5_lay_b0 {X : Cx} {w : Wp} {σ : St} {σ' : St} {t0 : Nat} {t1 : Nat}  {x2 : Int32} {x3 : Int32} {x4 : Int32} (hX : OK X w cX5_lay 5 RX5 none (rmz 0 0) (Qv w σ')) (hW : CW w) (h0 : wK w t0 = 6) (h1 : wK w t1 = 3)   (hf : fX5_lay t0 t1 σ x2 x3 x4 = some σ') : J X w 5 σ 0 [(0, rf w t0), (1, rf w t1), (2, .int x2), (3, .int x3), (4, .int x4)] [] := by
  rw [fX5_lay] at hf
  refine r_aload_n hX dX5_lay_0 rfl 0 rfl ?_
  refine r_aload_n hX dX5_lay_1 rfl 1 rfl ?_
  refine r_get hX cls2 h1 (by decide) (ce3 h1) 1 (by decide) g1_66 rfl dX5_lay_2 (rf w (t1 + 2)) rfl ?_
  refine r_iload_n hX dX5_lay_5 rfl 2 rfl ?_
  obtain ⟨hi1, hf⟩ := grd_some hf
  refine r_iald hX (CPk2 hW h1) (CPl2 hW h1) hi1 dX5_lay_6 ?_
  refine r_i2l hX dX5_lay_7 ?_
  refine r_iload hX dX5_lay_8 4 rfl ?_
  refine r_i2l hX dX5_lay_10 ?_
  refine r_lmul hX dX5_lay_11 ?_
  refine r_putL hX cls5 h0 (by decide) (fun _ _ _ => ce6 h0) 0 (by decide) g1_108 rfl rfl (tyX5_ok 0 (by decide)) (fun _ _ => Nat.le_of_ble_eq_true rfl) dX5_lay_12 (fun _ _ => rfl) ?_
  exact J.sub [0, 1, 2, 3, 4] rfl (wX5_lay_b15 hX hW h0 h1   hf)
theorem miX5_lay : MI yX5_lay cX5_lay 5 none 4 := ⟨g2_148, ⟨by decide, by decide, by decide +kernel⟩, g1_5, by decide +kernel⟩
theorem cX5_lay_ok (l : Launch) {w : Wp} {σ : St} {σ' : St} {t0 : Nat} {t1 : Nat} {x2 : Int32} {x3 : Int32} {x4 : Int32} (hW : CW w) (h0 : wK w t0 = 6) (h1 : wK w t1 = 3)  (hf : fX5_lay t0 t1 σ x2 x3 x4 = some σ') : CM l w yX5_lay cX5_lay 5 none (rmz 0 0) [rf w t0, rf w t1, .int x2, .int x3, .int x4] σ (Qv w σ') := CM.of miX5_lay.2.2.2 (Nat.le_of_ble_eq_true rfl) (fun X hcl hX => J.sub [0, 1, 2, 3, 4] rfl (wX5_lay_b0 hX hW h0 h1  hf))
-- J9_max_f86c9
set_option maxRecDepth 20000 in
set_option maxHeartbeats 2000000 in
theorem wJ9_max_f86c9_b0 {X : Cx} {w : Wp} {σ : St} {r : Int64}  {x0 : Int64} {x2 : Int64} (hX : OK X w cJ9_max_f86c9 4 RJ9 (some .long) (rmz 0 0) (Ql w σ r))    (hf : fJ9_max_f86c9 x0 x2 = r) : J X w 4 σ 0 [(0, .long x0), (2, .long x2)] [] := by
  rw [fJ9_max_f86c9] at hf
  refine r_lload_n hX dJ9_max_f86c9_0 rfl 0 rfl ?_
  refine r_lload_n hX dJ9_max_f86c9_1 rfl 1 rfl ?_
  refine r_lcmp_lt hX dJ9_max_f86c9_2 dJ9_max_f86c9_3 (tgt := 10) (by decide) (fun h => ?_) (fun h => ?_)
  · have hf := ite_t h hf
    refine r_lload_n hX dJ9_max_f86c9_10 rfl 1 rfl ?_
    subst hf
    exact r_lret hX dJ9_max_f86c9_11
  · have hf := ite_f h hf
    refine r_lload_n hX dJ9_max_f86c9_6 rfl 0 rfl ?_
    refine r_goto hX dJ9_max_f86c9_7 (tgt := 11) (by decide) ?_
    subst hf
    exact r_lret hX dJ9_max_f86c9_11
theorem miJ9_max_f86c9 : MI yJ9_max_f86c9 cJ9_max_f86c9 4 (some .long) 2 := ⟨g2_124, ⟨by decide, by decide, by decide +kernel⟩, g1_9, by decide +kernel⟩
theorem cJ9_max_f86c9_ok (l : Launch) {w : Wp} {σ : St} {r : Int64} {x0 : Int64} {x2 : Int64}   (hf : fJ9_max_f86c9 x0 x2 = r) : CM l w yJ9_max_f86c9 cJ9_max_f86c9 4 (some .long) (rmz 0 0) [.long x0, .long x2] σ (Ql w σ r) := CM.of miJ9_max_f86c9.2.2.2 (Nat.le_of_ble_eq_true rfl) (fun X hcl hX => J.sub [0, 1] rfl (wJ9_max_f86c9_b0 hX   hf))
-- J9_min_f86c9
set_option maxRecDepth 20000 in
set_option maxHeartbeats 2000000 in
theorem wJ9_min_f86c9_b0 {X : Cx} {w : Wp} {σ : St} {r : Int64}  {x0 : Int64} {x2 : Int64} (hX : OK X w cJ9_min_f86c9 4 RJ9 (some .long) (rmz 0 0) (Ql w σ r))    (hf : fJ9_min_f86c9 x0 x2 = r) : J X w 4 σ 0 [(0, .long x0), (2, .long x2)] [] := by
  rw [fJ9_min_f86c9] at hf
  refine r_lload_n hX dJ9_min_f86c9_0 rfl 0 rfl ?_
  refine r_lload_n hX dJ9_min_f86c9_1 rfl 1 rfl ?_
  refine r_lcmp_gt hX dJ9_min_f86c9_2 dJ9_min_f86c9_3 (tgt := 10) (by decide) (fun h => ?_) (fun h => ?_)
  · have hf := ite_t h hf
    refine r_lload_n hX dJ9_min_f86c9_10 rfl 1 rfl ?_
    subst hf
    exact r_lret hX dJ9_min_f86c9_11
  · have hf := ite_f h hf
    refine r_lload_n hX dJ9_min_f86c9_6 rfl 0 rfl ?_
    refine r_goto hX dJ9_min_f86c9_7 (tgt := 11) (by decide) ?_
    subst hf
    exact r_lret hX dJ9_min_f86c9_11
theorem miJ9_min_f86c9 : MI yJ9_min_f86c9 cJ9_min_f86c9 4 (some .long) 2 := ⟨g2_135, ⟨by decide, by decide, by decide +kernel⟩, g1_9, by decide +kernel⟩
theorem cJ9_min_f86c9_ok (l : Launch) {w : Wp} {σ : St} {r : Int64} {x0 : Int64} {x2 : Int64}   (hf : fJ9_min_f86c9 x0 x2 = r) : CM l w yJ9_min_f86c9 cJ9_min_f86c9 4 (some .long) (rmz 0 0) [.long x0, .long x2] σ (Ql w σ r) := CM.of miJ9_min_f86c9.2.2.2 (Nat.le_of_ble_eq_true rfl) (fun X hcl hX => J.sub [0, 1] rfl (wJ9_min_f86c9_b0 hX   hf))
-- X5_rangesMeet
set_option maxRecDepth 20000 in
set_option maxHeartbeats 2000000 in
theorem wX5_rangesMeet_b0 {X : Cx} {w : Wp} {σ : St} {r : Int32}  {x0 : Int64} {x2 : Int64} {x4 : Int64} {x6 : Int64} (hX : OK X w cX5_rangesMeet 8 RX5 (some .boolean) (rmz 1 23) (Qz w σ r))    (hf : fX5_rangesMeet x0 x2 x4 x6 = r) : J X w 8 σ 0 [(0, .long x0), (2, .long x2), (4, .long x4), (6, .long x6)] [] := by
  rw [fX5_rangesMeet] at hf
  refine r_lload_n hX dX5_rangesMeet_0 rfl 0 rfl ?_
  refine r_lload_n hX dX5_rangesMeet_1 rfl 1 rfl ?_
  refine J.calll (fun H locs ls a b c => runS hX miJ9_max_f86c9 (cJ9_max_f86c9_ok (xl X)  rfl) g2_156 g2_123 ⟨Nat.le_of_ble_eq_true rfl, Nat.le_of_ble_eq_true rfl⟩ dX5_rangesMeet_2 rfl (As := [.long x0, .long x2]) (rest := []) rfl (Nat.le_of_ble_eq_true rfl) a b c) ?_
  refine r_lload hX dX5_rangesMeet_5 2 rfl ?_
  refine r_lload hX dX5_rangesMeet_7 3 rfl ?_
  refine J.calll (fun H locs ls a b c => runS hX miJ9_min_f86c9 (cJ9_min_f86c9_ok (xl X)  rfl) g2_157 g2_134 ⟨Nat.le_of_ble_eq_true rfl, Nat.le_of_ble_eq_true rfl⟩ dX5_rangesMeet_9 rfl (As := [.long x4, .long x6]) (rest := [.long (fJ9_max_f86c9 x0 x2)]) rfl (Nat.le_of_ble_eq_true rfl) a b c) ?_
  refine r_lcmp_lt hX dX5_rangesMeet_12 dX5_rangesMeet_13 (tgt := 36) (by decide) (fun h => ?_) (fun h => ?_)
  · have hf := ite_t h hf
    refine r_iconst hX dX5_rangesMeet_36 (v := (0 : Int32)) (by decide) ?_
    subst hf
    exact r_zret hX bz0 dX5_rangesMeet_37
  · have hf := ite_f h hf
    refine r_lload hX dX5_rangesMeet_16 2 rfl ?_
    refine r_lload hX dX5_rangesMeet_18 3 rfl ?_
    refine J.calll (fun H locs ls a b c => runS hX miJ9_max_f86c9 (cJ9_max_f86c9_ok (xl X)  rfl) g2_156 g2_123 ⟨Nat.le_of_ble_eq_true rfl, Nat.le_of_ble_eq_true rfl⟩ dX5_rangesMeet_20 rfl (As := [.long x4, .long x6]) (rest := []) rfl (Nat.le_of_ble_eq_true rfl) a b c) ?_
    refine r_lload_n hX dX5_rangesMeet_23 rfl 0 rfl ?_
    refine r_lload_n hX dX5_rangesMeet_24 rfl 1 rfl ?_
    refine J.calll (fun H locs ls a b c => runS hX miJ9_min_f86c9 (cJ9_min_f86c9_ok (xl X)  rfl) g2_157 g2_134 ⟨Nat.le_of_ble_eq_true rfl, Nat.le_of_ble_eq_true rfl⟩ dX5_rangesMeet_25 rfl (As := [.long x0, .long x2]) (rest := [.long (fJ9_max_f86c9 x4 x6)]) rfl (Nat.le_of_ble_eq_true rfl) a b c) ?_
    refine r_lcmp_lt hX dX5_rangesMeet_28 dX5_rangesMeet_29 (tgt := 36) (by decide) (fun h => ?_) (fun h => ?_)
    · have hf := ite_t h hf
      refine r_iconst hX dX5_rangesMeet_36 (v := (0 : Int32)) (by decide) ?_
      subst hf
      exact r_zret hX bz0 dX5_rangesMeet_37
    · have hf := ite_f h hf
      refine r_iconst hX dX5_rangesMeet_32 (v := (1 : Int32)) (by decide) ?_
      refine r_goto hX dX5_rangesMeet_33 (tgt := 37) (by decide) ?_
      subst hf
      exact r_zret hX bz1 dX5_rangesMeet_37
theorem miX5_rangesMeet : MI yX5_rangesMeet cX5_rangesMeet 8 (some .boolean) 4 := ⟨g2_155, ⟨by decide, by decide, by decide +kernel⟩, g1_5, by decide +kernel⟩
theorem cX5_rangesMeet_ok (l : Launch) {w : Wp} {σ : St} {r : Int32} {x0 : Int64} {x2 : Int64} {x4 : Int64} {x6 : Int64}   (hf : fX5_rangesMeet x0 x2 x4 x6 = r) : CM l w yX5_rangesMeet cX5_rangesMeet 8 (some .boolean) (rmz 1 23) [.long x0, .long x2, .long x4, .long x6] σ (Qz w σ r) := CM.of miX5_rangesMeet.2.2.2 (Nat.le_of_ble_eq_true rfl) (fun X hcl hX => J.sub [0, 1, 2, 3] rfl (wX5_rangesMeet_b0 hX   hf))
-- J13_compare_74951
set_option maxRecDepth 20000 in
set_option maxHeartbeats 2000000 in
theorem wJ13_compare_74951_b0 {X : Cx} {w : Wp} {σ : St} {r : Int32}  {x0 : Int64} {x2 : Int64} (hX : OK X w cJ13_compare_74951 4 RJ13 (some .int) (rmz 0 0) (Qi w σ r))    (hf : fJ13_compare_74951 x0 x2 = r) : J X w 4 σ 0 [(0, .long x0), (2, .long x2)] [] := by
  rw [fJ13_compare_74951] at hf
  refine r_lload_n hX dJ13_compare_74951_0 rfl 0 rfl ?_
  refine r_lload_n hX dJ13_compare_74951_1 rfl 1 rfl ?_
  refine r_lcmp_ge hX dJ13_compare_74951_2 dJ13_compare_74951_3 (tgt := 10) (by decide) (fun h => ?_) (fun h => ?_)
  · have hf := ite_t h hf
    refine r_lload_n hX dJ13_compare_74951_10 rfl 0 rfl ?_
    refine r_lload_n hX dJ13_compare_74951_11 rfl 1 rfl ?_
    refine r_lcmp_ne hX dJ13_compare_74951_12 dJ13_compare_74951_13 (tgt := 20) (by decide) (fun h => ?_) (fun h => ?_)
    · have hf := ite_f h hf
      refine r_iconst hX dJ13_compare_74951_20 (v := (1 : Int32)) (by decide) ?_
      subst hf
      exact r_iret hX dJ13_compare_74951_21
    · have hf := ite_t h hf
      refine r_iconst hX dJ13_compare_74951_16 (v := (0 : Int32)) (by decide) ?_
      refine r_goto hX dJ13_compare_74951_17 (tgt := 21) (by decide) ?_
      subst hf
      exact r_iret hX dJ13_compare_74951_21
  · have hf := ite_f h hf
    refine r_iconst hX dJ13_compare_74951_6 (v := (-1 : Int32)) (by decide) ?_
    refine r_goto hX dJ13_compare_74951_7 (tgt := 21) (by decide) ?_
    subst hf
    exact r_iret hX dJ13_compare_74951_21
theorem miJ13_compare_74951 : MI yJ13_compare_74951 cJ13_compare_74951 4 (some .int) 2 := ⟨g2_168, ⟨by decide, by decide, by decide +kernel⟩, g1_11, by decide +kernel⟩
theorem cJ13_compare_74951_ok (l : Launch) {w : Wp} {σ : St} {r : Int32} {x0 : Int64} {x2 : Int64}   (hf : fJ13_compare_74951 x0 x2 = r) : CM l w yJ13_compare_74951 cJ13_compare_74951 4 (some .int) (rmz 0 0) [.long x0, .long x2] σ (Qi w σ r) := CM.of miJ13_compare_74951.2.2.2 (Nat.le_of_ble_eq_true rfl) (fun X hcl hX => J.sub [0, 1] rfl (wJ13_compare_74951_b0 hX   hf))
-- X5_side
set_option maxRecDepth 20000 in
set_option maxHeartbeats 2000000 in
theorem wX5_side_b35 {X : Cx} {w : Wp} {σ : St} {r : Int32} {t0 : Nat}  {x5 : Int64} (hX : OK X w cX5_side 7 RX5 (some .int) (rmz 1 23) (Qi w σ r)) (hW : CW w) (h0 : wK w t0 = 6)   (hf : fX5_side_b35 σ t0 x5 = r) : J X w 7 σ 35 [(5, .long x5)] [] := by
  rw [fX5_side_b35] at hf
  refine r_lload hX dX5_side_35 0 rfl ?_
  refine r_lconst hX dX5_side_37 (v := (0 : Int64)) (by decide) ?_
  refine J.calli (fun H locs ls a b c => runS hX miJ13_compare_74951 (cJ13_compare_74951_ok (xl X)  rfl) g2_166 g2_167 ⟨Nat.le_of_ble_eq_true rfl, Nat.le_of_ble_eq_true rfl⟩ dX5_side_38 rfl (As := [.long x5, .long (0 : Int64)]) (rest := []) rfl (Nat.le_of_ble_eq_true rfl) a b c) ?_
  subst hf
  exact r_iret hX dX5_side_41
set_option maxRecDepth 20000 in
set_option maxHeartbeats 2000000 in
theorem wX5_side_b0 {X : Cx} {w : Wp} {σ : St} {r : Int32} {t0 : Nat}  {x1 : Int64} {x3 : Int64} (hX : OK X w cX5_side 7 RX5 (some .int) (rmz 1 23) (Qi w σ r)) (hW : CW w) (h0 : wK w t0 = 6)   (hf : fX5_side σ t0 x1 x3 = r) : J X w 7 σ 0 [(0, rf w t0), (1, .long x1), (3, .long x3)] [] := by
  rw [fX5_side] at hf
  refine r_aload_n hX dX5_side_0 rfl 0 rfl ?_
  refine r_get hX cls5 h0 (by decide) (ce6 h0) 2 (by decide) g1_110 rfl dX5_side_1 (.long (σ.2.1 t0 2)) rfl ?_
  refine r_aload_n hX dX5_side_4 rfl 0 rfl ?_
  refine r_get hX cls5 h0 (by decide) (ce6 h0) 0 (by decide) g1_108 rfl dX5_side_5 (.long (σ.2.1 t0 0)) rfl ?_
  refine r_lsub hX dX5_side_8 ?_
  refine r_lload_n hX dX5_side_9 rfl 2 rfl ?_
  refine r_aload_n hX dX5_side_10 rfl 0 rfl ?_
  refine r_get hX cls5 h0 (by decide) (ce6 h0) 1 (by decide) g1_109 rfl dX5_side_11 (.long (σ.2.1 t0 1)) rfl ?_
  refine r_lsub hX dX5_side_14 ?_
  refine r_lmul hX dX5_side_15 ?_
  refine r_aload_n hX dX5_side_16 rfl 0 rfl ?_
  refine r_get hX cls5 h0 (by decide) (ce6 h0) 3 (by decide) g1_111 rfl dX5_side_17 (.long (σ.2.1 t0 3)) rfl ?_
  refine r_aload_n hX dX5_side_20 rfl 0 rfl ?_
  refine r_get hX cls5 h0 (by decide) (ce6 h0) 1 (by decide) g1_109 rfl dX5_side_21 (.long (σ.2.1 t0 1)) rfl ?_
  refine r_lsub hX dX5_side_24 ?_
  refine r_lload_n hX dX5_side_25 rfl 1 rfl ?_
  refine r_aload_n hX dX5_side_26 rfl 0 rfl ?_
  refine r_get hX cls5 h0 (by decide) (ce6 h0) 0 (by decide) g1_108 rfl dX5_side_27 (.long (σ.2.1 t0 0)) rfl ?_
  refine r_lsub hX dX5_side_30 ?_
  refine r_lmul hX dX5_side_31 ?_
  refine r_lsub hX dX5_side_32 ?_
  refine r_lstore hX (i := 5) dX5_side_33 (by decide) rfl ?_
  exact J.sub [0] rfl (wX5_side_b35 hX hW h0   hf)
theorem miX5_side : MI yX5_side cX5_side 7 (some .int) 2 := ⟨g2_165, ⟨by decide, by decide, by decide +kernel⟩, g1_5, by decide +kernel⟩
theorem cX5_side_ok (l : Launch) {w : Wp} {σ : St} {r : Int32} {t0 : Nat} {x1 : Int64} {x3 : Int64} (hW : CW w) (h0 : wK w t0 = 6)  (hf : fX5_side σ t0 x1 x3 = r) : CM l w yX5_side cX5_side 7 (some .int) (rmz 1 23) [rf w t0, .long x1, .long x3] σ (Qi w σ r) := CM.of miX5_side.2.2.2 (Nat.le_of_ble_eq_true rfl) (fun X hcl hX => J.sub [0, 1, 2] rfl (wX5_side_b0 hX hW h0  hf))
-- X5_lineMeets
set_option maxRecDepth 20000 in
set_option maxHeartbeats 2000000 in
theorem wX5_lineMeets_b0 {X : Cx} {w : Wp} {σ : St} {r : Int32} {t0 : Nat} {t1 : Nat}   (hX : OK X w cX5_lineMeets 2 RX5 (some .boolean) (rmz 2 49) (Qz w σ r)) (hW : CW w) (h0 : wK w t0 = 6) (h1 : wK w t1 = 6)   (hf : fX5_lineMeets σ t0 t1 = r) : J X w 2 σ 0 [(0, rf w t0), (1, rf w t1)] [] := by
  rw [fX5_lineMeets] at hf
  refine r_aload_n hX dX5_lineMeets_0 rfl 0 rfl ?_
  refine r_aload_n hX dX5_lineMeets_1 rfl 1 rfl ?_
  refine r_get hX cls5 h1 (by decide) (ce6 h1) 0 (by decide) g1_108 rfl dX5_lineMeets_2 (.long (σ.2.1 t1 0)) rfl ?_
  refine r_aload_n hX dX5_lineMeets_5 rfl 1 rfl ?_
  refine r_get hX cls5 h1 (by decide) (ce6 h1) 1 (by decide) g1_109 rfl dX5_lineMeets_6 (.long (σ.2.1 t1 1)) rfl ?_
  refine J.calli (fun H locs ls a b c => runV hX miX5_side (As := [.long (σ.2.1 t1 0), .long (σ.2.1 t1 1)]) (cX5_side_ok (xl X) hW h0 rfl) g2_162 g2_164 gs_9 cls5 h0 (by decide) (ce6 h0) ⟨Nat.le_of_ble_eq_true rfl, Nat.le_of_ble_eq_true rfl⟩ dX5_lineMeets_9 rfl (rest := []) rfl (Nat.le_of_ble_eq_true rfl) a b c) ?_
  refine r_aload_n hX dX5_lineMeets_12 rfl 0 rfl ?_
  refine r_aload_n hX dX5_lineMeets_13 rfl 1 rfl ?_
  refine r_get hX cls5 h1 (by decide) (ce6 h1) 2 (by decide) g1_110 rfl dX5_lineMeets_14 (.long (σ.2.1 t1 2)) rfl ?_
  refine r_aload_n hX dX5_lineMeets_17 rfl 1 rfl ?_
  refine r_get hX cls5 h1 (by decide) (ce6 h1) 3 (by decide) g1_111 rfl dX5_lineMeets_18 (.long (σ.2.1 t1 3)) rfl ?_
  refine J.calli (fun H locs ls a b c => runV hX miX5_side (As := [.long (σ.2.1 t1 2), .long (σ.2.1 t1 3)]) (cX5_side_ok (xl X) hW h0 rfl) g2_162 g2_164 gs_9 cls5 h0 (by decide) (ce6 h0) ⟨Nat.le_of_ble_eq_true rfl, Nat.le_of_ble_eq_true rfl⟩ dX5_lineMeets_21 rfl (rest := [.int (fX5_side (σ) t0 (σ.2.1 t1 0) (σ.2.1 t1 1))]) rfl (Nat.le_of_ble_eq_true rfl) a b c) ?_
  refine r_imul hX dX5_lineMeets_24 ?_
  refine r_if_gt hX dX5_lineMeets_25 (tgt := 32) (by decide) (fun h => ?_) (fun h => ?_)
  · have hf := ite_t h hf
    refine r_iconst hX dX5_lineMeets_32 (v := (0 : Int32)) (by decide) ?_
    subst hf
    exact r_zret hX bz0 dX5_lineMeets_33
  · have hf := ite_f h hf
    refine r_iconst hX dX5_lineMeets_28 (v := (1 : Int32)) (by decide) ?_
    refine r_goto hX dX5_lineMeets_29 (tgt := 33) (by decide) ?_
    subst hf
    exact r_zret hX bz1 dX5_lineMeets_33
theorem miX5_lineMeets : MI yX5_lineMeets cX5_lineMeets 2 (some .boolean) 1 := ⟨g2_161, ⟨by decide, by decide, by decide +kernel⟩, g1_5, by decide +kernel⟩
theorem cX5_lineMeets_ok (l : Launch) {w : Wp} {σ : St} {r : Int32} {t0 : Nat} {t1 : Nat}  (hW : CW w) (h0 : wK w t0 = 6) (h1 : wK w t1 = 6)  (hf : fX5_lineMeets σ t0 t1 = r) : CM l w yX5_lineMeets cX5_lineMeets 2 (some .boolean) (rmz 2 49) [rf w t0, rf w t1] σ (Qz w σ r) := CM.of miX5_lineMeets.2.2.2 (Nat.le_of_ble_eq_true rfl) (fun X hcl hX => J.sub [0, 1] rfl (wX5_lineMeets_b0 hX hW h0 h1  hf))
-- X5_meets
set_option maxRecDepth 20000 in
set_option maxHeartbeats 2000000 in
theorem wX5_meets_b0 {X : Cx} {w : Wp} {σ : St} {r : Int32} {t0 : Nat} {t1 : Nat}   (hX : OK X w cX5_meets 2 RX5 (some .boolean) (rmz 3 70) (Qz w σ r)) (hW : CW w) (h0 : wK w t0 = 6) (h1 : wK w t1 = 6)   (hf : fX5_meets σ t0 t1 = r) : J X w 2 σ 0 [(0, rf w t0), (1, rf w t1)] [] := by
  rw [fX5_meets] at hf
  refine r_aload_n hX dX5_meets_0 rfl 0 rfl ?_
  refine r_get hX cls5 h0 (by decide) (ce6 h0) 0 (by decide) g1_108 rfl dX5_meets_1 (.long (σ.2.1 t0 0)) rfl ?_
  refine r_aload_n hX dX5_meets_4 rfl 0 rfl ?_
  refine r_get hX cls5 h0 (by decide) (ce6 h0) 2 (by decide) g1_110 rfl dX5_meets_5 (.long (σ.2.1 t0 2)) rfl ?_
  refine r_aload_n hX dX5_meets_8 rfl 1 rfl ?_
  refine r_get hX cls5 h1 (by decide) (ce6 h1) 0 (by decide) g1_108 rfl dX5_meets_9 (.long (σ.2.1 t1 0)) rfl ?_
  refine r_aload_n hX dX5_meets_12 rfl 1 rfl ?_
  refine r_get hX cls5 h1 (by decide) (ce6 h1) 2 (by decide) g1_110 rfl dX5_meets_13 (.long (σ.2.1 t1 2)) rfl ?_
  refine J.callz (fun H locs ls a b c => runS hX miX5_rangesMeet (cX5_rangesMeet_ok (xl X)  rfl) g2_153 g2_154 ⟨Nat.le_of_ble_eq_true rfl, Nat.le_of_ble_eq_true rfl⟩ dX5_meets_16 rfl (As := [.long (σ.2.1 t0 0), .long (σ.2.1 t0 2), .long (σ.2.1 t1 0), .long (σ.2.1 t1 2)]) (rest := []) rfl (Nat.le_of_ble_eq_true rfl) a b c) (fun hz1 => ?_)
  refine r_if_eq hX dX5_meets_19 (tgt := 64) (by decide) (fun h => ?_) (fun h => ?_)
  · have hf := ite_t h hf
    refine r_iconst hX dX5_meets_64 (v := (0 : Int32)) (by decide) ?_
    subst hf
    exact r_zret hX bz0 dX5_meets_65
  · have hf := ite_f h hf
    refine r_aload_n hX dX5_meets_22 rfl 0 rfl ?_
    refine r_get hX cls5 h0 (by decide) (ce6 h0) 1 (by decide) g1_109 rfl dX5_meets_23 (.long (σ.2.1 t0 1)) rfl ?_
    refine r_aload_n hX dX5_meets_26 rfl 0 rfl ?_
    refine r_get hX cls5 h0 (by decide) (ce6 h0) 3 (by decide) g1_111 rfl dX5_meets_27 (.long (σ.2.1 t0 3)) rfl ?_
    refine r_aload_n hX dX5_meets_30 rfl 1 rfl ?_
    refine r_get hX cls5 h1 (by decide) (ce6 h1) 1 (by decide) g1_109 rfl dX5_meets_31 (.long (σ.2.1 t1 1)) rfl ?_
    refine r_aload_n hX dX5_meets_34 rfl 1 rfl ?_
    refine r_get hX cls5 h1 (by decide) (ce6 h1) 3 (by decide) g1_111 rfl dX5_meets_35 (.long (σ.2.1 t1 3)) rfl ?_
    refine J.callz (fun H locs ls a b c => runS hX miX5_rangesMeet (cX5_rangesMeet_ok (xl X)  rfl) g2_153 g2_154 ⟨Nat.le_of_ble_eq_true rfl, Nat.le_of_ble_eq_true rfl⟩ dX5_meets_38 rfl (As := [.long (σ.2.1 t0 1), .long (σ.2.1 t0 3), .long (σ.2.1 t1 1), .long (σ.2.1 t1 3)]) (rest := []) rfl (Nat.le_of_ble_eq_true rfl) a b c) (fun hz2 => ?_)
    refine r_if_eq hX dX5_meets_41 (tgt := 64) (by decide) (fun h => ?_) (fun h => ?_)
    · have hf := ite_t h hf
      refine r_iconst hX dX5_meets_64 (v := (0 : Int32)) (by decide) ?_
      subst hf
      exact r_zret hX bz0 dX5_meets_65
    · have hf := ite_f h hf
      refine r_aload_n hX dX5_meets_44 rfl 0 rfl ?_
      refine r_aload_n hX dX5_meets_45 rfl 1 rfl ?_
      refine J.callz (fun H locs ls a b c => runV hX miX5_lineMeets (As := [rf w t1]) (cX5_lineMeets_ok (xl X) hW h0 h1 rfl) g2_158 g2_160 gs_8 cls5 h0 (by decide) (ce6 h0) ⟨Nat.le_of_ble_eq_true rfl, Nat.le_of_ble_eq_true rfl⟩ dX5_meets_46 rfl (rest := []) rfl (Nat.le_of_ble_eq_true rfl) a b c) (fun hz3 => ?_)
      refine r_if_eq hX dX5_meets_49 (tgt := 64) (by decide) (fun h => ?_) (fun h => ?_)
      · have hf := ite_t h hf
        refine r_iconst hX dX5_meets_64 (v := (0 : Int32)) (by decide) ?_
        subst hf
        exact r_zret hX bz0 dX5_meets_65
      · have hf := ite_f h hf
        refine r_aload_n hX dX5_meets_52 rfl 1 rfl ?_
        refine r_aload_n hX dX5_meets_53 rfl 0 rfl ?_
        refine J.callz (fun H locs ls a b c => runV hX miX5_lineMeets (As := [rf w t0]) (cX5_lineMeets_ok (xl X) hW h1 h0 rfl) g2_158 g2_160 gs_8 cls5 h1 (by decide) (ce6 h1) ⟨Nat.le_of_ble_eq_true rfl, Nat.le_of_ble_eq_true rfl⟩ dX5_meets_54 rfl (rest := []) rfl (Nat.le_of_ble_eq_true rfl) a b c) (fun hz4 => ?_)
        refine r_if_eq hX dX5_meets_57 (tgt := 64) (by decide) (fun h => ?_) (fun h => ?_)
        · have hf := ite_t h hf
          refine r_iconst hX dX5_meets_64 (v := (0 : Int32)) (by decide) ?_
          subst hf
          exact r_zret hX bz0 dX5_meets_65
        · have hf := ite_f h hf
          refine r_iconst hX dX5_meets_60 (v := (1 : Int32)) (by decide) ?_
          refine r_goto hX dX5_meets_61 (tgt := 65) (by decide) ?_
          subst hf
          exact r_zret hX bz1 dX5_meets_65
theorem miX5_meets : MI yX5_meets cX5_meets 2 (some .boolean) 1 := ⟨g2_152, ⟨by decide, by decide, by decide +kernel⟩, g1_5, by decide +kernel⟩
theorem cX5_meets_ok (l : Launch) {w : Wp} {σ : St} {r : Int32} {t0 : Nat} {t1 : Nat}  (hW : CW w) (h0 : wK w t0 = 6) (h1 : wK w t1 = 6)  (hf : fX5_meets σ t0 t1 = r) : CM l w yX5_meets cX5_meets 2 (some .boolean) (rmz 3 70) [rf w t0, rf w t1] σ (Qz w σ r) := CM.of miX5_meets.2.2.2 (Nat.le_of_ble_eq_true rfl) (fun X hcl hX => J.sub [0, 1] rfl (wX5_meets_b0 hX hW h0 h1  hf))
-- X6_setDistance
set_option maxRecDepth 20000 in
set_option maxHeartbeats 2000000 in
theorem wX6_setDistance_b25 {X : Cx} {w : Wp} {σ : St} {r : Int32} {σ' : St}  {x2 : Int32} (hX : OK X w cX6_setDistance 3 RX6 (some .int) (rmz 1 22) (Qi w σ' r)) (hW : CW w)   (hf : fX6_setDistance_b25 σ x2 = some (r, σ')) : J X w 3 σ 25 [(2, .int x2)] [] := by
  rw [fX6_setDistance_b25] at hf
  refine r_iload_n hX dX6_setDistance_25 rfl 0 rfl ?_
  cases hf
  exact r_iret hX dX6_setDistance_26
set_option maxRecDepth 20000 in
set_option maxHeartbeats 2000000 in
theorem wX6_setDistance_b0 {X : Cx} {w : Wp} {σ : St} {r : Int32} {σ' : St}  {x1 : Int32} (hX : OK X w cX6_setDistance 3 RX6 (some .int) (rmz 1 22) (Qi w σ' r)) (hW : CW w)   (hf : fX6_setDistance σ x1 = some (r, σ')) : J X w 3 σ 0 [(0, rf w 0), (1, .int x1)] [] := by
  rw [fX6_setDistance] at hf
  refine r_iload_n hX dX6_setDistance_0 rfl 1 rfl ?_
  refine r_bipush hX dX6_setDistance_1 (v := (10 : Int32)) (by decide) ?_
  refine r_sipush hX dX6_setDistance_3 (v := (200 : Int32)) (by decide) ?_
  refine J.callz (fun H locs ls a b c => runS hX miX6_inRange (cX6_inRange_ok (xl X)  rfl) g1_153 g1_154 ⟨Nat.le_of_ble_eq_true rfl, Nat.le_of_ble_eq_true rfl⟩ dX6_setDistance_6 rfl (As := [.int x1, .int (10 : Int32), .int (200 : Int32)]) (rest := []) rfl (Nat.le_of_ble_eq_true rfl) a b c) (fun hz1 => ?_)
  refine r_if_ne hX dX6_setDistance_9 (tgt := 15) (by decide) (fun h => ?_) (fun h => ?_)
  · have hf := ite_f h hf
    refine r_aload_n hX dX6_setDistance_15 rfl 0 rfl ?_
    refine r_get hX cls6 (CK0 hW) (by decide) (ce7 (CK0 hW)) 0 (by decide) g1_121 rfl dX6_setDistance_16 (.int (σ.1 0 0)) rfl ?_
    refine r_istore_n hX (i := 2) dX6_setDistance_19 rfl (by decide) rfl ?_
    refine r_aload_n hX dX6_setDistance_20 rfl 1 rfl ?_
    refine r_iload_n hX dX6_setDistance_21 rfl 2 rfl ?_
    refine r_putI hX cls6 (CK0 hW) (by decide) (fun _ _ _ => ce7 (CK0 hW)) 0 (by decide) g1_121 rfl rfl (tyX6_ok 0 (by decide)) (fun _ _ => Nat.le_of_ble_eq_true rfl) dX6_setDistance_22 (fun _ _ => rfl) ?_
    exact J.sub [0] rfl (wX6_setDistance_b25 hX hW   hf)
  · have hf := ite_t h hf
    refine r_bipush hX dX6_setDistance_12 (v := (-3 : Int32)) (by decide) ?_
    cases hf
    exact r_iret hX dX6_setDistance_14
theorem miX6_setDistance : MI yX6_setDistance cX6_setDistance 3 (some .int) 1 := ⟨g1_152, ⟨by decide, by decide, by decide +kernel⟩, g1_1, by decide +kernel⟩
theorem cX6_setDistance_ok (l : Launch) {w : Wp} {σ : St} {r : Int32} {σ' : St} {x1 : Int32} (hW : CW w)  (hf : fX6_setDistance σ x1 = some (r, σ')) : CM l w yX6_setDistance cX6_setDistance 3 (some .int) (rmz 1 22) [rf w 0, .int x1] σ (Qi w σ' r) := CM.of miX6_setDistance.2.2.2 (Nat.le_of_ble_eq_true rfl) (fun X hcl hX => J.sub [0, 1] rfl (wX6_setDistance_b0 hX hW  hf))
-- X6_addFigure
set_option maxRecDepth 20000 in
set_option maxHeartbeats 2000000 in
theorem wX6_addFigure_b84 {X : Cx} {w : Wp} {σ : St} {r : Int32} {σ' : St} {b : Nat} {w0 : Wp}  {x4 : Int32} (hX : OK X w cX6_addFigure 5 RX6 (some .int) { frames := 2, cells := 4, slots := 32, locals := 36 } (QE w0 b σ' r)) (hW : CW w) (hE : Ext w0 w b)   (hf : fX6_addFigure_b84 b σ x4 = some (r, σ')) : J X w 5 σ 84 [(4, .int x4)] [] := by
  rw [fX6_addFigure_b84] at hf
  refine r_iload hX dX6_addFigure_84 0 rfl ?_
  cases hf
  exact r_iretE hX hE hW dX6_addFigure_86
set_option maxRecDepth 20000 in
set_option maxHeartbeats 2000000 in
theorem wX6_addFigure_b74 {X : Cx} {w : Wp} {σ : St} {r : Int32} {σ' : St} {b : Nat} {w0 : Wp}  {x4 : Int32} (hX : OK X w cX6_addFigure 5 RX6 (some .int) { frames := 2, cells := 4, slots := 32, locals := 36 } (QE w0 b σ' r)) (hW : CW w) (hE : Ext w0 w b)   (hf : fX6_addFigure_b74 b σ x4 = some (r, σ')) : J X w 5 σ 74 [(0, rf w 0), (4, .int x4)] [] := by
  rw [fX6_addFigure_b74] at hf
  refine r_aload_n hX dX6_addFigure_74 rfl 0 rfl ?_
  refine r_dup hX dX6_addFigure_75 rfl ?_
  refine r_get hX cls6 (CK0 hW) (by decide) (ce7 (CK0 hW)) 1 (by decide) g1_122 rfl dX6_addFigure_76 (.int (σ.1 0 1)) rfl ?_
  refine r_iconst hX dX6_addFigure_79 (v := (1 : Int32)) (by decide) ?_
  refine r_iadd hX dX6_addFigure_80 ?_
  refine r_putI hX cls6 (CK0 hW) (by decide) (fun _ _ _ => ce7 (CK0 hW)) 1 (by decide) g1_122 rfl rfl (tyX6_ok 1 (by decide)) (fun _ _ => Nat.le_of_ble_eq_true rfl) dX6_addFigure_81 (fun _ _ => rfl) ?_
  exact J.sub [1] rfl (wX6_addFigure_b84 hX hW hE   hf)
set_option maxRecDepth 20000 in
set_option maxHeartbeats 2000000 in
theorem wX6_addFigure_b73 {X : Cx} {w : Wp} {σ : St} {r : Int32} {σ' : St} {b : Nat} {w0 : Wp}  {x4 : Int32} {xs1 : Int32} {ts2 : Nat} (hX : OK X w cX6_addFigure 5 RX6 (some .int) { frames := 2, cells := 4, slots := 32, locals := 36 } (QE w0 b σ' r)) (hW : CW w) (hE : Ext w0 w b)  (hs2 : wK w ts2 = 1) (hf : fX6_addFigure_b73 b σ x4 xs1 ts2 = some (r, σ')) : J X w 5 σ 73 [(0, rf w 0), (4, .int x4)] [rf w ts2, .int xs1, rf w 1] := by
  rw [fX6_addFigure_b73] at hf
  obtain ⟨hi1, hf⟩ := grd_some hf
  refine r_astF hX (o := (some ts2)) (CK1 hW) (CL1 hW) hi1 (fun _ h => by cases h; exact hs2) dX6_addFigure_73 ?_
  exact J.sub [0, 1] rfl (wX6_addFigure_b74 hX hW hE   hf)
set_option maxRecDepth 20000 in
set_option maxHeartbeats 2000000 in
theorem wX6_addFigure_b0 {X : Cx} {w : Wp} {σ : St} {r : Int32} {σ' : St} {b : Nat}  {x1 : Int32} {x2 : Int32} {x3 : Int32} (hX : OK X w cX6_addFigure 5 RX6 (some .int) { frames := 2, cells := 4, slots := 32, locals := 36 } (QE w b σ' r)) (hW : CW w) (hF : Fre w b) (hcl : xcl X = 0 ∧ xsl X = 0)   (hf : fX6_addFigure b σ x1 x2 x3 = some (r, σ')) : J X w 5 σ 0 [(0, rf w 0), (1, .int x1), (2, .int x2), (3, .int x3)] [] := by
  rw [fX6_addFigure] at hf
  refine r_iload_n hX dX6_addFigure_0 rfl 1 rfl ?_
  refine r_bipush hX dX6_addFigure_1 (v := (-100 : Int32)) (by decide) ?_
  refine r_bipush hX dX6_addFigure_3 (v := (100 : Int32)) (by decide) ?_
  refine J.callz (fun H locs ls a b c => runS hX miX6_inRange (cX6_inRange_ok (xl X)  rfl) g1_153 g1_154 ⟨Nat.le_of_ble_eq_true rfl, Nat.le_of_ble_eq_true rfl⟩ dX6_addFigure_5 rfl (As := [.int x1, .int (-100 : Int32), .int (100 : Int32)]) (rest := []) rfl (Nat.le_of_ble_eq_true rfl) a b c) (fun hz1 => ?_)
  refine r_if_eq hX dX6_addFigure_8 (tgt := 34) (by decide) (fun h => ?_) (fun h => ?_)
  · have hf := ite_t h hf
    refine r_bipush hX dX6_addFigure_34 (v := (-3 : Int32)) (by decide) ?_
    cases hf
    exact r_iretE hX (Ext.refl w b) hW dX6_addFigure_36
  · have hf := ite_f h hf
    refine r_iload_n hX dX6_addFigure_11 rfl 2 rfl ?_
    refine r_bipush hX dX6_addFigure_12 (v := (-100 : Int32)) (by decide) ?_
    refine r_bipush hX dX6_addFigure_14 (v := (100 : Int32)) (by decide) ?_
    refine J.callz (fun H locs ls a b c => runS hX miX6_inRange (cX6_inRange_ok (xl X)  rfl) g1_153 g1_154 ⟨Nat.le_of_ble_eq_true rfl, Nat.le_of_ble_eq_true rfl⟩ dX6_addFigure_16 rfl (As := [.int x2, .int (-100 : Int32), .int (100 : Int32)]) (rest := []) rfl (Nat.le_of_ble_eq_true rfl) a b c) (fun hz2 => ?_)
    refine r_if_eq hX dX6_addFigure_19 (tgt := 34) (by decide) (fun h => ?_) (fun h => ?_)
    · have hf := ite_t h hf
      refine r_bipush hX dX6_addFigure_34 (v := (-3 : Int32)) (by decide) ?_
      cases hf
      exact r_iretE hX (Ext.refl w b) hW dX6_addFigure_36
    · have hf := ite_f h hf
      refine r_iload_n hX dX6_addFigure_22 rfl 3 rfl ?_
      refine r_iconst hX dX6_addFigure_23 (v := (1 : Int32)) (by decide) ?_
      refine r_aload_n hX dX6_addFigure_24 rfl 0 rfl ?_
      refine r_get hX cls6 (CK0 hW) (by decide) (ce7 (CK0 hW)) 0 (by decide) g1_121 rfl dX6_addFigure_25 (.int (σ.1 0 0)) rfl ?_
      refine J.callz (fun H locs ls a b c => runS hX miX6_inRange (cX6_inRange_ok (xl X)  rfl) g1_153 g1_154 ⟨Nat.le_of_ble_eq_true rfl, Nat.le_of_ble_eq_true rfl⟩ dX6_addFigure_28 rfl (As := [.int x3, .int (1 : Int32), .int (σ.1 0 0)]) (rest := []) rfl (Nat.le_of_ble_eq_true rfl) a b c) (fun hz3 => ?_)
      refine r_if_ne hX dX6_addFigure_31 (tgt := 37) (by decide) (fun h => ?_) (fun h => ?_)
      · have hf := ite_f h hf
        refine r_aload_n hX dX6_addFigure_37 rfl 0 rfl ?_
        refine r_get hX cls6 (CK0 hW) (by decide) (ce7 (CK0 hW)) 1 (by decide) g1_122 rfl dX6_addFigure_38 (.int (σ.1 0 1)) rfl ?_
        refine r_bipush hX dX6_addFigure_41 (v := (6 : Int32)) (by decide) ?_
        refine r_icmp_lt hX dX6_addFigure_43 (tgt := 49) (by decide) (fun h => ?_) (fun h => ?_)
        · have hf := ite_t h hf
          refine r_aload_n hX dX6_addFigure_49 rfl 0 rfl ?_
          refine r_get hX cls6 (CK0 hW) (by decide) (ce7 (CK0 hW)) 1 (by decide) g1_122 rfl dX6_addFigure_50 (.int (σ.1 0 1)) rfl ?_
          refine r_istore hX (i := 4) dX6_addFigure_53 (by decide) rfl ?_
          refine r_aload_n hX dX6_addFigure_55 rfl 1 rfl ?_
          refine r_get hX cls6 (CK0 hW) (by decide) (ce7 (CK0 hW)) 2 (by decide) g1_123 rfl dX6_addFigure_56 (rf w 1) rfl ?_
          refine r_iload hX dX6_addFigure_59 0 rfl ?_
          have hF0 := hF
          refine J.sub [0, 1, 2, 3, 4] rfl ?_
          refine r_new (w0 := w) (fs := [.int 0, .int 0, .int 0, .int 0, .null, .null, .null, .int 0]) hX hW (Ext.refl w b) hF cls0 (Or.inl ⟨rfl, rfl⟩) (fun _ _ _ _ h => ce13 h) tyX0 tyX0_ok (fun j hj => by rcases (show j = 0 ∨ j = 1 ∨ j = 2 ∨ j = 3 ∨ j = 4 ∨ j = 5 ∨ j = 6 ∨ j = 7 by omega) with rfl | rfl | rfl | rfl | rfl | rfl | rfl | rfl <;> rfl) g1_21 g1_160 g1_7 (by rw [hcl.1]; exact Nat.le_of_ble_eq_true rfl) (by rw [hcl.2]; exact Nat.le_of_ble_eq_true rfl) dX6_addFigure_61 (fun w => [(4, .int (σ.1 0 1)), (0, rf w 0), (1, .int x1), (2, .int x2), (3, .int x3)]) (fun w => [.int (σ.1 0 1), rf w 1]) (fun w' h => ⟨by simp only [rfE h 0 (by rw [(CK0 hW)]; decide)], by simp only [rfE h 1 (by rw [(CK1 hW)]; decide)]⟩) (fun X w hcl2 hX hW hE hkb hF1 hlive => ?_)
          refine r_dup hX dX6_addFigure_64 rfl ?_
          refine r_iload hX dX6_addFigure_65 0 rfl ?_
          refine r_iload_n hX dX6_addFigure_67 rfl 2 rfl ?_
          refine r_iload_n hX dX6_addFigure_68 rfl 3 rfl ?_
          refine r_iload_n hX dX6_addFigure_69 rfl 4 rfl ?_
          refine r_initF hX hW hE hF0 hkb (fun c h e => (hlive c h).elim (fun q => absurd q e) (fun q => hF1 c q)) g1_161 g1_163 g1_7 g1_162 ⟨Nat.le_of_ble_eq_true rfl, Nat.le_of_ble_eq_true rfl⟩ (by rw [hcl2.1, hcl.1]; exact Nat.le_of_ble_eq_true rfl) (by rw [hcl2.2, hcl.2]; exact Nat.le_of_ble_eq_true rfl) dX6_addFigure_70 (fun w => [(4, .int (σ.1 0 1)), (0, rf w 0), (1, .int x1), (2, .int x2), (3, .int x3)]) (fun w => [rf w b, .int (σ.1 0 1), rf w 1]) (fun w' h => ⟨by simp only [rfE h 0 (by rw [(CK0 hW)]; decide)], by simp only [rfE h 1 (by rw [(CK1 hW)]; decide), rfE h b (by rw [hkb]; decide)]⟩) (Nat.le_of_ble_eq_true rfl) (fun X w hX hW hE hkb => ?_)
          exact J.sub [1, 0] rfl (wX6_addFigure_b73 hX hW hE  hkb hf)
        · have hf := ite_f h hf
          refine r_bipush hX dX6_addFigure_46 (v := (-4 : Int32)) (by decide) ?_
          cases hf
          exact r_iretE hX (Ext.refl w b) hW dX6_addFigure_48
      · have hf := ite_t h hf
        refine r_bipush hX dX6_addFigure_34 (v := (-3 : Int32)) (by decide) ?_
        cases hf
        exact r_iretE hX (Ext.refl w b) hW dX6_addFigure_36
theorem miX6_addFigure : MI yX6_addFigure cX6_addFigure 5 (some .int) 3 := ⟨g1_159, ⟨by decide, by decide, by decide +kernel⟩, g1_1, by decide +kernel⟩
theorem cX6_addFigure_ok (l : Launch) {w : Wp} {σ : St} {r : Int32} {σ' : St} {b : Nat} {x1 : Int32} {x2 : Int32} {x3 : Int32} (hW : CW w) (hF : Fre w b)  (hf : fX6_addFigure b σ x1 x2 x3 = some (r, σ')) : CM l w yX6_addFigure cX6_addFigure 5 (some .int) { frames := 2, cells := 4, slots := 32, locals := 36 } [rf w 0, .int x1, .int x2, .int x3] σ (QE w b σ' r) := CM.of miX6_addFigure.2.2.2 (Nat.le_of_ble_eq_true rfl) (fun X hcl hX => J.sub [0, 1, 2, 3] rfl (wX6_addFigure_b0 hX hW hF hcl  hf))
-- X6_figureAt
set_option maxRecDepth 20000 in
set_option maxHeartbeats 2000000 in
theorem wX6_figureAt_b0 {X : Cx} {w : Wp} {σ : St} {r : Option Nat}  {x1 : Int32} (hX : OK X w cX6_figureAt 2 RX6 (some (.object "JointedShadows$Figure")) (rmz 1 22) (Qq w σ 1 r)) (hW : CW w)   (hf : fX6_figureAt σ x1 = some r) : J X w 2 σ 0 [(0, rf w 0), (1, .int x1)] [] := by
  rw [fX6_figureAt] at hf
  refine r_iload_n hX dX6_figureAt_0 rfl 1 rfl ?_
  refine r_iconst hX dX6_figureAt_1 (v := (0 : Int32)) (by decide) ?_
  refine r_aload_n hX dX6_figureAt_2 rfl 0 rfl ?_
  refine r_get hX cls6 (CK0 hW) (by decide) (ce7 (CK0 hW)) 1 (by decide) g1_122 rfl dX6_figureAt_3 (.int (σ.1 0 1)) rfl ?_
  refine r_iconst hX dX6_figureAt_6 (v := (1 : Int32)) (by decide) ?_
  refine r_isub hX dX6_figureAt_7 ?_
  refine J.callz (fun H locs ls a b c => runS hX miX6_inRange (cX6_inRange_ok (xl X)  rfl) g1_153 g1_154 ⟨Nat.le_of_ble_eq_true rfl, Nat.le_of_ble_eq_true rfl⟩ dX6_figureAt_8 rfl (As := [.int x1, .int (0 : Int32), .int ((σ.1 0 1) - (1 : Int32))]) (rest := []) rfl (Nat.le_of_ble_eq_true rfl) a b c) (fun hz1 => ?_)
  refine r_if_eq hX dX6_figureAt_11 (tgt := 23) (by decide) (fun h => ?_) (fun h => ?_)
  · have hf := ite_t h hf
    refine r_null hX dX6_figureAt_23 ?_
    cases hf
    exact r_aret (r := none) hX (fun _ h => by cases h) dX6_figureAt_24
  · have hf := ite_f h hf
    refine r_aload_n hX dX6_figureAt_14 rfl 0 rfl ?_
    refine r_get hX cls6 (CK0 hW) (by decide) (ce7 (CK0 hW)) 2 (by decide) g1_123 rfl dX6_figureAt_15 (rf w 1) rfl ?_
    refine r_iload_n hX dX6_figureAt_18 rfl 1 rfl ?_
    obtain ⟨hi3, hf⟩ := grd_some hf
    refine r_aldF hX (CK1 hW) (CL1 hW) hi3 dX6_figureAt_19 (fun oo2 heoo2 htoo2 => ?_)
    have hf := app1_s heoo2 hf
    refine r_goto hX dX6_figureAt_20 (tgt := 24) (by decide) ?_
    cases hf
    exact r_aret hX htoo2 dX6_figureAt_24
theorem miX6_figureAt : MI yX6_figureAt cX6_figureAt 2 (some (.object "JointedShadows$Figure")) 1 := ⟨g1_206, ⟨by decide, by decide, by decide +kernel⟩, g1_1, by decide +kernel⟩
theorem cX6_figureAt_ok (l : Launch) {w : Wp} {σ : St} {r : Option Nat} {x1 : Int32} (hW : CW w)  (hf : fX6_figureAt σ x1 = some r) : CM l w yX6_figureAt cX6_figureAt 2 (some (.object "JointedShadows$Figure")) (rmz 1 22) [rf w 0, .int x1] σ (Qq w σ 1 r) := CM.of miX6_figureAt.2.2.2 (Nat.le_of_ble_eq_true rfl) (fun X hcl hX => J.sub [0, 1] rfl (wX6_figureAt_b0 hX hW  hf))
-- X6_addLimb
set_option maxRecDepth 20000 in
set_option maxHeartbeats 2000000 in
theorem wX6_addLimb_b31 {X : Cx} {w : Wp} {σ : St} {r : Int32} {σ' : St}  {x2 : Int32} {x3 : Int32} {x4 : Int32} {t5 : Nat} (hX : OK X w cX6_addLimb 6 RX6 (some .int) (rmz 2 43) (Qi w σ' r)) (hW : CW w)  (h5 : wK w t5 = 1) (hf : fX6_addLimb_b31 σ x2 x3 x4 t5 = some (r, σ')) : J X w 6 σ 31 [(2, .int x2), (3, .int x3), (4, .int x4), (5, rf w t5)] [] := by
  rw [fX6_addLimb_b31] at hf
  refine r_iload_n hX dX6_addLimb_31 rfl 1 rfl ?_
  refine r_iconst hX dX6_addLimb_32 (v := (1 : Int32)) (by decide) ?_
  refine r_bipush hX dX6_addLimb_33 (v := (20 : Int32)) (by decide) ?_
  refine J.callz (fun H locs ls a b c => runS hX miX6_inRange (cX6_inRange_ok (xl X)  rfl) g1_153 g1_154 ⟨Nat.le_of_ble_eq_true rfl, Nat.le_of_ble_eq_true rfl⟩ dX6_addLimb_35 rfl (As := [.int x3, .int (1 : Int32), .int (20 : Int32)]) (rest := []) rfl (Nat.le_of_ble_eq_true rfl) a b c) (fun hz1 => ?_)
  refine r_if_eq hX dX6_addLimb_38 (tgt := 52) (by decide) (fun h => ?_) (fun h => ?_)
  · have hf := ite_t h hf
    refine r_bipush hX dX6_addLimb_52 (v := (-3 : Int32)) (by decide) ?_
    cases hf
    exact r_iret hX dX6_addLimb_54
  · have hf := ite_f h hf
    refine r_iload hX dX6_addLimb_41 2 rfl ?_
    refine r_iconst hX dX6_addLimb_43 (v := (0 : Int32)) (by decide) ?_
    refine r_bipush hX dX6_addLimb_44 (v := (7 : Int32)) (by decide) ?_
    refine J.callz (fun H locs ls a b c => runS hX miX6_inRange (cX6_inRange_ok (xl X)  rfl) g1_153 g1_154 ⟨Nat.le_of_ble_eq_true rfl, Nat.le_of_ble_eq_true rfl⟩ dX6_addLimb_46 rfl (As := [.int x4, .int (0 : Int32), .int (7 : Int32)]) (rest := []) rfl (Nat.le_of_ble_eq_true rfl) a b c) (fun hz2 => ?_)
    refine r_if_ne hX dX6_addLimb_49 (tgt := 55) (by decide) (fun h => ?_) (fun h => ?_)
    · have hf := ite_f h hf
      refine r_aload hX dX6_addLimb_55 3 rfl ?_
      refine r_iload_n hX dX6_addLimb_57 rfl 0 rfl ?_
      refine r_iload_n hX dX6_addLimb_58 rfl 1 rfl ?_
      refine r_iload hX dX6_addLimb_59 2 rfl ?_
      obtain ⟨r3, σ4, hr5, hf⟩ := bd2_s hf
      refine J.calli (fun H locs ls a b c => runV hX miX0_grow (As := [.int x2, .int x3, .int x4]) (cX0_grow_ok (xl X) hW h5 hr5) g1_212 g1_213 g1_214 cls0 h5 (by decide) (ce1 h5) ⟨Nat.le_of_ble_eq_true rfl, Nat.le_of_ble_eq_true rfl⟩ dX6_addLimb_61 rfl (rest := []) rfl (Nat.le_of_ble_eq_true rfl) a b c) ?_
      cases hf
      exact r_iret hX dX6_addLimb_64
    · have hf := ite_t h hf
      refine r_bipush hX dX6_addLimb_52 (v := (-3 : Int32)) (by decide) ?_
      cases hf
      exact r_iret hX dX6_addLimb_54
set_option maxRecDepth 20000 in
set_option maxHeartbeats 2000000 in
theorem wX6_addLimb_b0 {X : Cx} {w : Wp} {σ : St} {r : Int32} {σ' : St}  {x1 : Int32} {x2 : Int32} {x3 : Int32} {x4 : Int32} (hX : OK X w cX6_addLimb 6 RX6 (some .int) (rmz 2 43) (Qi w σ' r)) (hW : CW w)   (hf : fX6_addLimb σ x1 x2 x3 x4 = some (r, σ')) : J X w 6 σ 0 [(0, rf w 0), (1, .int x1), (2, .int x2), (3, .int x3), (4, .int x4)] [] := by
  rw [fX6_addLimb] at hf
  refine r_aload_n hX dX6_addLimb_0 rfl 0 rfl ?_
  refine r_iload_n hX dX6_addLimb_1 rfl 1 rfl ?_
  obtain ⟨r1, hr3, hf⟩ := bd_s hf
  refine J.callq (fun H locs ls a b c => runV hX miX6_figureAt (As := [.int x1]) (cX6_figureAt_ok (xl X) hW  hr3) g1_203 g1_205 gs_0 cls6 (CK0 hW) (by decide) (ce7 (CK0 hW)) ⟨Nat.le_of_ble_eq_true rfl, Nat.le_of_ble_eq_true rfl⟩ dX6_addLimb_2 rfl (rest := []) rfl (Nat.le_of_ble_eq_true rfl) a b c) (fun ht2 => ?_)
  refine r_astoreQ hX (i := 5) dX6_addLimb_5 (by decide) rfl ?_
  refine r_aloadQ hX dX6_addLimb_7 0 rfl ?_
  refine r_ifnonnull hX dX6_addLimb_9 (tgt := 14) (by decide) (fun u4 h => ?_) (fun h => ?_)
  · subst h
    have hf := elim_s hf
    refine r_iload_n hX dX6_addLimb_14 rfl 3 rfl ?_
    refine r_iconst hX dX6_addLimb_15 (v := (-1 : Int32)) (by decide) ?_
    refine r_icmp_eq hX dX6_addLimb_16 (tgt := 31) (by decide) (fun h => ?_) (fun h => ?_)
    · have hf := ite_t h hf
      exact J.sub [3, 4, 5, 0] rfl (wX6_addLimb_b31 hX hW  (ht2 u4 rfl) hf)
    · have hf := ite_f h hf
      refine r_aload hX dX6_addLimb_19 0 rfl ?_
      refine r_iload_n hX dX6_addLimb_21 rfl 3 rfl ?_
      refine J.callz (fun H locs ls a b c => runV hX miX0_hasLimb (As := [.int x2]) (cX0_hasLimb_ok (xl X) hW (ht2 u4 rfl) rfl) g1_207 g1_208 g1_209 cls0 (ht2 u4 rfl) (by decide) (ce1 (ht2 u4 rfl)) ⟨Nat.le_of_ble_eq_true rfl, Nat.le_of_ble_eq_true rfl⟩ dX6_addLimb_22 rfl (rest := []) rfl (Nat.le_of_ble_eq_true rfl) a b c) (fun hz5 => ?_)
      refine r_if_ne hX dX6_addLimb_25 (tgt := 31) (by decide) (fun h => ?_) (fun h => ?_)
      · have hf := ite_f h hf
        exact J.sub [3, 4, 5, 0] rfl (wX6_addLimb_b31 hX hW  (ht2 u4 rfl) hf)
      · have hf := ite_t h hf
        refine r_bipush hX dX6_addLimb_28 (v := (-2 : Int32)) (by decide) ?_
        cases hf
        exact r_iret hX dX6_addLimb_30
  · subst h
    have hf := elim_n hf
    refine r_iconst hX dX6_addLimb_12 (v := (-1 : Int32)) (by decide) ?_
    cases hf
    exact r_iret hX dX6_addLimb_13
theorem miX6_addLimb : MI yX6_addLimb cX6_addLimb 6 (some .int) 4 := ⟨g1_202, ⟨by decide, by decide, by decide +kernel⟩, g1_1, by decide +kernel⟩
theorem cX6_addLimb_ok (l : Launch) {w : Wp} {σ : St} {r : Int32} {σ' : St} {x1 : Int32} {x2 : Int32} {x3 : Int32} {x4 : Int32} (hW : CW w)  (hf : fX6_addLimb σ x1 x2 x3 x4 = some (r, σ')) : CM l w yX6_addLimb cX6_addLimb 6 (some .int) (rmz 2 43) [rf w 0, .int x1, .int x2, .int x3, .int x4] σ (Qi w σ' r) := CM.of miX6_addLimb.2.2.2 (Nat.le_of_ble_eq_true rfl) (fun X hcl hX => J.sub [0, 1, 2, 3, 4] rfl (wX6_addLimb_b0 hX hW  hf))
-- X6_limbsOfAll
set_option maxRecDepth 20000 in
set_option maxHeartbeats 2000000 in
theorem wX6_limbsOfAll_b40 {X : Cx} {w : Wp} {σ : St} {r : Int32} {k13 : Int32 → Int32 → Int32 → Option Int32} {x3 : Int32} {x4 : Int32} {xs0 : Int32} {xs1 : Int32} (hX : OK X w cX6_limbsOfAll 6 RX6 (some .int) (rmz 0 0) (Qi w σ r)) (hW : CW w) (hk13 : ∀ (x1 : Int32) (x3 : Int32) (x4 : Int32), k13 x1 x3 x4 = some r → J X w 6 σ 13 [(1, .int x1), (2, rf w 1), (3, .int x3), (4, .int x4)] [])  (hf : fX6_limbsOfAll_b40 σ k13 x3 x4 xs0 xs1 = some r) : J X w 6 σ 40 [(2, rf w 1), (3, .int x3), (4, .int x4)] [.int xs1, .int xs0] := by
  rw [fX6_limbsOfAll_b40] at hf
  refine r_iadd hX dX6_limbsOfAll_40 ?_
  refine r_istore_n hX (i := 1) dX6_limbsOfAll_41 rfl (by decide) rfl ?_
  refine r_iincC hX dX6_limbsOfAll_42 3 rfl (d := (1 : Int32)) (by decide) (by decide) rfl ?_
  refine r_goto hX dX6_limbsOfAll_45 (tgt := 13) (by decide) ?_
  exact J.sub [1, 2, 3, 0] rfl (hk13 _ _ _  hf)
set_option maxRecDepth 20000 in
set_option maxHeartbeats 2000000 in
theorem wX6_limbsOfAll_L13 {X : Cx} {w : Wp} {σ : St} {r : Int32}  (hX : OK X w cX6_limbsOfAll 6 RX6 (some .int) (rmz 0 0) (Qi w σ r)) (hW : CW w)  : ∀ (n : Nat) (x1 : Int32) (x3 : Int32) (x4 : Int32), fX6_limbsOfAll_L13 σ n x1 x3 x4 = some r → J X w 6 σ 13 [(1, .int x1), (2, rf w 1), (3, .int x3), (4, .int x4)] [] := by
  intro n
  induction n with
  | zero =>
    intro x1 x3 x4 hf
    cases hf
  | succ n ih =>
    intro x1 x3 x4 hf
    rw [fX6_limbsOfAll_L13] at hf
    refine r_iload hX dX6_limbsOfAll_13 3 rfl ?_
    refine r_iload_n hX dX6_limbsOfAll_15 rfl 2 rfl ?_
    refine r_icmp_ge hX dX6_limbsOfAll_16 (tgt := 48) (by decide) (fun h => ?_) (fun h => ?_)
    · have hf := ite_t h hf
      refine r_iload_n hX dX6_limbsOfAll_48 rfl 0 rfl ?_
      cases hf
      exact r_iret hX dX6_limbsOfAll_49
    · have hf := ite_f h hf
      refine r_aload_n hX dX6_limbsOfAll_19 rfl 1 rfl ?_
      refine r_iload hX dX6_limbsOfAll_20 3 rfl ?_
      obtain ⟨hi3, hf⟩ := grd_some hf
      refine r_aldF hX (CK1 hW) (CL1 hW) hi3 dX6_limbsOfAll_22 (fun oo1 heoo1 htoo1 => ?_)
      have hf := app1_s heoo1 hf
      refine r_astoreQ hX (i := 5) dX6_limbsOfAll_23 (by decide) rfl ?_
      refine r_iload_n hX dX6_limbsOfAll_25 rfl 1 rfl ?_
      refine r_aloadQ hX dX6_limbsOfAll_26 0 rfl ?_
      refine r_ifnonnull hX dX6_limbsOfAll_28 (tgt := 35) (by decide) (fun u2 h => ?_) (fun h => ?_)
      · subst h
        have hf := elim_s hf
        refine r_aload hX dX6_limbsOfAll_35 0 rfl ?_
        refine r_get hX cls0 (htoo1 u2 rfl) (by decide) (ce1 (htoo1 u2 rfl)) 7 (by decide) g1_181 rfl dX6_limbsOfAll_37 (.int (σ.1 u2 7)) rfl ?_
        exact J.sub [2, 3, 4] rfl (wX6_limbsOfAll_b40 hX hW ih  hf)
      · subst h
        have hf := elim_n hf
        refine r_iconst hX dX6_limbsOfAll_31 (v := (0 : Int32)) (by decide) ?_
        refine r_goto hX dX6_limbsOfAll_32 (tgt := 40) (by decide) ?_
        exact J.sub [2, 3, 4] rfl (wX6_limbsOfAll_b40 hX hW ih  hf)
set_option maxRecDepth 20000 in
set_option maxHeartbeats 2000000 in
theorem wX6_limbsOfAll_b0 {X : Cx} {w : Wp} {σ : St} {r : Int32}   (hX : OK X w cX6_limbsOfAll 6 RX6 (some .int) (rmz 0 0) (Qi w σ r)) (hW : CW w)   (hf : fX6_limbsOfAll σ = some r) : J X w 6 σ 0 [(0, rf w 0)] [] := by
  rw [fX6_limbsOfAll] at hf
  refine r_iconst hX dX6_limbsOfAll_0 (v := (0 : Int32)) (by decide) ?_
  refine r_istore_n hX (i := 1) dX6_limbsOfAll_1 rfl (by decide) rfl ?_
  refine r_aload_n hX dX6_limbsOfAll_2 rfl 1 rfl ?_
  refine r_get hX cls6 (CK0 hW) (by decide) (ce7 (CK0 hW)) 2 (by decide) g1_123 rfl dX6_limbsOfAll_3 (rf w 1) rfl ?_
  refine r_astore_n hX (i := 2) dX6_limbsOfAll_6 rfl (by decide) rfl ?_
  refine r_aload_n hX dX6_limbsOfAll_7 rfl 0 rfl ?_
  refine r_alen hX (t0 := 2) (n := 6) (by rw [(CK1 hW)]; decide) (ce11 (CK1 hW)) rfl (CL1 hW) (v := (6 : Int32)) (by decide) dX6_limbsOfAll_8 ?_
  refine r_istore_n hX (i := 3) dX6_limbsOfAll_9 rfl (by decide) rfl ?_
  refine r_iconst hX dX6_limbsOfAll_10 (v := (0 : Int32)) (by decide) ?_
  refine r_istore hX (i := 4) dX6_limbsOfAll_11 (by decide) rfl ?_
  exact J.sub [3, 2, 1, 0] rfl (wX6_limbsOfAll_L13 hX hW  _ _ _ _  hf)
theorem miX6_limbsOfAll : MI yX6_limbsOfAll cX6_limbsOfAll 6 (some .int) 0 := ⟨g1_223, ⟨by decide, by decide, by decide +kernel⟩, g1_1, by decide +kernel⟩
theorem cX6_limbsOfAll_ok (l : Launch) {w : Wp} {σ : St} {r : Int32}  (hW : CW w)  (hf : fX6_limbsOfAll σ = some r) : CM l w yX6_limbsOfAll cX6_limbsOfAll 6 (some .int) (rmz 0 0) [rf w 0] σ (Qi w σ r) := CM.of miX6_limbsOfAll.2.2.2 (Nat.le_of_ble_eq_true rfl) (fun X hcl hX => J.sub [0] rfl (wX6_limbsOfAll_b0 hX hW  hf))
-- X6_count
set_option maxRecDepth 20000 in
set_option maxHeartbeats 2000000 in
theorem wX6_count_b0 {X : Cx} {w : Wp} {σ : St} {r : Int32}  {x1 : Int32} (hX : OK X w cX6_count 2 RX6 (some .int) (rmz 1 25) (Qi w σ r)) (hW : CW w)   (hf : fX6_count σ x1 = some r) : J X w 2 σ 0 [(0, rf w 0), (1, .int x1)] [] := by
  rw [fX6_count] at hf
  refine r_iload_n hX dX6_count_0 rfl 1 rfl ?_
  refine r_sw4 (x := x1) (fun h => ?_) (fun h => ?_) (fun h => ?_) (fun h => ?_) (fun h => ?_)
  · refine r_tabOut hX dX6_count_1 (by first | exact h | omega) (tgt := 58) (by decide) ?_
    have hf := ite_f (sw_ne h 0 (by decide) (by decide)) hf
    have hf := ite_f (sw_ne h 1 (by decide) (by decide)) hf
    have hf := ite_f (sw_ne h 2 (by decide) (by decide)) hf
    have hf := ite_f (sw_ne h 3 (by decide) (by decide)) hf
    refine r_bipush hX dX6_count_58 (v := (-3 : Int32)) (by decide) ?_
    cases hf
    exact r_iret hX dX6_count_60
  · have hf := ite_t h hf
    refine r_tabIn hX dX6_count_1 (by rw [h]; decide) (by rw [h]; decide) (off := 31) (by rw [h]; rfl) (tgt := 32) (by decide) ?_
    refine r_aload_n hX dX6_count_32 rfl 0 rfl ?_
    refine r_get hX cls6 (CK0 hW) (by decide) (ce7 (CK0 hW)) 1 (by decide) g1_122 rfl dX6_count_33 (.int (σ.1 0 1)) rfl ?_
    cases hf
    exact r_iret hX dX6_count_36
  · have hf := ite_f (sw_nk (j := 0) h (by decide)) hf
    have hf := ite_t h hf
    refine r_tabIn hX dX6_count_1 (by rw [h]; decide) (by rw [h]; decide) (off := 36) (by rw [h]; rfl) (tgt := 37) (by decide) ?_
    refine r_aload_n hX dX6_count_37 rfl 0 rfl ?_
    refine r_get hX cls6 (CK0 hW) (by decide) (ce7 (CK0 hW)) 3 (by decide) g1_124 rfl dX6_count_38 (rf w 2) rfl ?_
    refine r_get hX cls4 (CK2 hW) (by decide) (ce5 (CK2 hW)) 1 (by decide) g1_34 rfl dX6_count_41 (.int (σ.1 2 1)) rfl ?_
    cases hf
    exact r_iret hX dX6_count_44
  · have hf := ite_f (sw_nk (j := 0) h (by decide)) hf
    have hf := ite_f (sw_nk (j := 1) h (by decide)) hf
    have hf := ite_t h hf
    refine r_tabIn hX dX6_count_1 (by rw [h]; decide) (by rw [h]; decide) (off := 44) (by rw [h]; rfl) (tgt := 45) (by decide) ?_
    refine r_aload_n hX dX6_count_45 rfl 0 rfl ?_
    refine r_get hX cls6 (CK0 hW) (by decide) (ce7 (CK0 hW)) 4 (by decide) g1_125 rfl dX6_count_46 (rf w 4) rfl ?_
    refine r_get hX cls3 (CK4 hW) (by decide) (ce4 (CK4 hW)) 1 (by decide) g1_48 rfl dX6_count_49 (.int (σ.1 4 1)) rfl ?_
    cases hf
    exact r_iret hX dX6_count_52
  · have hf := ite_f (sw_nk (j := 0) h (by decide)) hf
    have hf := ite_f (sw_nk (j := 1) h (by decide)) hf
    have hf := ite_f (sw_nk (j := 2) h (by decide)) hf
    have hf := ite_t h hf
    refine r_tabIn hX dX6_count_1 (by rw [h]; decide) (by rw [h]; decide) (off := 52) (by rw [h]; rfl) (tgt := 53) (by decide) ?_
    refine r_aload_n hX dX6_count_53 rfl 0 rfl ?_
    obtain ⟨r3, hr4, hf⟩ := bd_s hf
    refine J.calli (fun H locs ls a b c => runV hX miX6_limbsOfAll (As := []) (cX6_limbsOfAll_ok (xl X) hW  hr4) g1_220 g1_222 gs_1 cls6 (CK0 hW) (by decide) (ce7 (CK0 hW)) ⟨Nat.le_of_ble_eq_true rfl, Nat.le_of_ble_eq_true rfl⟩ dX6_count_54 rfl (rest := []) rfl (Nat.le_of_ble_eq_true rfl) a b c) ?_
    cases hf
    exact r_iret hX dX6_count_57
theorem miX6_count : MI yX6_count cX6_count 2 (some .int) 1 := ⟨g1_219, ⟨by decide, by decide, by decide +kernel⟩, g1_1, by decide +kernel⟩
theorem cX6_count_ok (l : Launch) {w : Wp} {σ : St} {r : Int32} {x1 : Int32} (hW : CW w)  (hf : fX6_count σ x1 = some r) : CM l w yX6_count cX6_count 2 (some .int) (rmz 1 25) [rf w 0, .int x1] σ (Qi w σ r) := CM.of miX6_count.2.2.2 (Nat.le_of_ble_eq_true rfl) (fun X hcl hX => J.sub [0, 1] rfl (wX6_count_b0 hX hW  hf))
-- X6_isBeat
set_option maxRecDepth 20000 in
set_option maxHeartbeats 2000000 in
theorem wX6_isBeat_b0 {X : Cx} {w : Wp} {σ : St} {r : Int32}  {x0 : Int32} (hX : OK X w cX6_isBeat 1 RX6 (some .boolean) (rmz 1 22) (Qz w σ r))    (hf : fX6_isBeat x0 = r) : J X w 1 σ 0 [(0, .int x0)] [] := by
  rw [fX6_isBeat] at hf
  refine r_iload_n hX dX6_isBeat_0 rfl 0 rfl ?_
  refine r_iconst hX dX6_isBeat_1 (v := (0 : Int32)) (by decide) ?_
  refine r_bipush hX dX6_isBeat_2 (v := (99 : Int32)) (by decide) ?_
  refine J.callz (fun H locs ls a b c => runS hX miX6_inRange (cX6_inRange_ok (xl X)  rfl) g1_153 g1_154 ⟨Nat.le_of_ble_eq_true rfl, Nat.le_of_ble_eq_true rfl⟩ dX6_isBeat_4 rfl (As := [.int x0, .int (0 : Int32), .int (99 : Int32)]) (rest := []) rfl (Nat.le_of_ble_eq_true rfl) a b c) (fun hz1 => ?_)
  subst hf
  exact r_zret hX hz1 dX6_isBeat_7
theorem miX6_isBeat : MI yX6_isBeat cX6_isBeat 1 (some .boolean) 1 := ⟨g1_230, ⟨by decide, by decide, by decide +kernel⟩, g1_1, by decide +kernel⟩
theorem cX6_isBeat_ok (l : Launch) {w : Wp} {σ : St} {r : Int32} {x0 : Int32}   (hf : fX6_isBeat x0 = r) : CM l w yX6_isBeat cX6_isBeat 1 (some .boolean) (rmz 1 22) [.int x0] σ (Qz w σ r) := CM.of miX6_isBeat.2.2.2 (Nat.le_of_ble_eq_true rfl) (fun X hcl hX => J.sub [0] rfl (wX6_isBeat_b0 hX   hf))
-- X6_addTurn
set_option maxRecDepth 20000 in
set_option maxHeartbeats 2000000 in
theorem wX6_addTurn_b80 {X : Cx} {w : Wp} {σ : St} {r : Int32} {σ' : St} {b : Nat} {w0 : Wp}  {t6 : Nat} (hX : OK X w cX6_addTurn 7 RX6 (some .int) { frames := 3, cells := 1, slots := 8, locals := 61 } (QE w0 b σ' r)) (hW : CW w) (hE : Ext w0 w b)  (h6 : wK w t6 = 2) (hf : fX6_addTurn_b80 b σ t6 = some (r, σ')) : J X w 7 σ 80 [(6, rf w t6)] [] := by
  rw [fX6_addTurn_b80] at hf
  refine r_aload hX dX6_addTurn_80 0 rfl ?_
  refine r_get hX cls1 h6 (by decide) (ce2 h6) 0 (by decide) g2_2 rfl dX6_addTurn_82 (.int (σ.1 t6 0)) rfl ?_
  cases hf
  exact r_iretE hX hE hW dX6_addTurn_85
set_option maxRecDepth 20000 in
set_option maxHeartbeats 2000000 in
theorem wX6_addTurn_b0 {X : Cx} {w : Wp} {σ : St} {r : Int32} {σ' : St} {b : Nat}  {x1 : Int32} {x2 : Int32} {x3 : Int32} {x4 : Int32} (hX : OK X w cX6_addTurn 7 RX6 (some .int) { frames := 3, cells := 1, slots := 8, locals := 61 } (QE w b σ' r)) (hW : CW w) (hF : Fre w b) (hcl : xcl X = 0 ∧ xsl X = 0)   (hf : fX6_addTurn b σ x1 x2 x3 x4 = some (r, σ')) : J X w 7 σ 0 [(0, rf w 0), (1, .int x1), (2, .int x2), (3, .int x3), (4, .int x4)] [] := by
  rw [fX6_addTurn] at hf
  refine r_aload_n hX dX6_addTurn_0 rfl 0 rfl ?_
  refine r_iload_n hX dX6_addTurn_1 rfl 2 rfl ?_
  obtain ⟨r1, hr3, hf⟩ := bd_s hf
  refine J.callq (fun H locs ls a b c => runV hX miX6_figureAt (As := [.int x2]) (cX6_figureAt_ok (xl X) hW  hr3) g1_203 g1_205 gs_0 cls6 (CK0 hW) (by decide) (ce7 (CK0 hW)) ⟨Nat.le_of_ble_eq_true rfl, Nat.le_of_ble_eq_true rfl⟩ dX6_addTurn_2 rfl (rest := []) rfl (Nat.le_of_ble_eq_true rfl) a b c) (fun ht2 => ?_)
  refine r_astoreQ hX (i := 5) dX6_addTurn_5 (by decide) rfl ?_
  refine r_aloadQ hX dX6_addTurn_7 0 rfl ?_
  refine r_ifnonnull hX dX6_addTurn_9 (tgt := 14) (by decide) (fun u4 h => ?_) (fun h => ?_)
  · subst h
    have hf := elim_s hf
    refine r_aload hX dX6_addTurn_14 0 rfl ?_
    refine r_iload_n hX dX6_addTurn_16 rfl 4 rfl ?_
    refine J.callz (fun H locs ls a b c => runV hX miX0_hasLimb (As := [.int x3]) (cX0_hasLimb_ok (xl X) hW (ht2 u4 rfl) rfl) g1_207 g1_208 g1_209 cls0 (ht2 u4 rfl) (by decide) (ce1 (ht2 u4 rfl)) ⟨Nat.le_of_ble_eq_true rfl, Nat.le_of_ble_eq_true rfl⟩ dX6_addTurn_17 rfl (rest := []) rfl (Nat.le_of_ble_eq_true rfl) a b c) (fun hz5 => ?_)
    refine r_if_ne hX dX6_addTurn_20 (tgt := 26) (by decide) (fun h => ?_) (fun h => ?_)
    · have hf := ite_f h hf
      refine r_iload_n hX dX6_addTurn_26 rfl 2 rfl ?_
      refine J.callz (fun H locs ls a b c => runS hX miX6_isBeat (cX6_isBeat_ok (xl X)  rfl) g1_228 g1_229 ⟨Nat.le_of_ble_eq_true rfl, Nat.le_of_ble_eq_true rfl⟩ dX6_addTurn_27 rfl (As := [.int x1]) (rest := []) rfl (Nat.le_of_ble_eq_true rfl) a b c) (fun hz6 => ?_)
      refine r_if_eq hX dX6_addTurn_30 (tgt := 50) (by decide) (fun h => ?_) (fun h => ?_)
      · have hf := ite_t h hf
        refine r_bipush hX dX6_addTurn_50 (v := (-3 : Int32)) (by decide) ?_
        cases hf
        exact r_iretE hX (Ext.refl w b) hW dX6_addTurn_52
      · have hf := ite_f h hf
        refine r_iload hX dX6_addTurn_33 5 rfl ?_
        refine r_bipush hX dX6_addTurn_35 (v := (-7 : Int32)) (by decide) ?_
        refine r_bipush hX dX6_addTurn_37 (v := (7 : Int32)) (by decide) ?_
        refine J.callz (fun H locs ls a b c => runS hX miX6_inRange (cX6_inRange_ok (xl X)  rfl) g1_153 g1_154 ⟨Nat.le_of_ble_eq_true rfl, Nat.le_of_ble_eq_true rfl⟩ dX6_addTurn_39 rfl (As := [.int x4, .int (-7 : Int32), .int (7 : Int32)]) (rest := []) rfl (Nat.le_of_ble_eq_true rfl) a b c) (fun hz7 => ?_)
        refine r_if_eq hX dX6_addTurn_42 (tgt := 50) (by decide) (fun h => ?_) (fun h => ?_)
        · have hf := ite_t h hf
          refine r_bipush hX dX6_addTurn_50 (v := (-3 : Int32)) (by decide) ?_
          cases hf
          exact r_iretE hX (Ext.refl w b) hW dX6_addTurn_52
        · have hf := ite_f h hf
          refine r_iload hX dX6_addTurn_45 5 rfl ?_
          refine r_if_ne hX dX6_addTurn_47 (tgt := 53) (by decide) (fun h => ?_) (fun h => ?_)
          · have hf := ite_f h hf
            refine r_aload_n hX dX6_addTurn_53 rfl 1 rfl ?_
            refine r_get hX cls6 (CK0 hW) (by decide) (ce7 (CK0 hW)) 3 (by decide) g1_124 rfl dX6_addTurn_54 (rf w 2) rfl ?_
            refine r_iload_n hX dX6_addTurn_57 rfl 2 rfl ?_
            refine r_iload_n hX dX6_addTurn_58 rfl 3 rfl ?_
            refine r_iload_n hX dX6_addTurn_59 rfl 4 rfl ?_
            obtain ⟨r8, σ9, hr10, hf⟩ := bd2_s hf
            refine J.sub [5] rfl ?_
            refine r_callqE (st := [.int x3, .int x2, .int x1, rf w 2]) hX miX4_newMove (As := [.int x1, .int x2, .int x3]) (cX4_newMove_ok (xl X) hW  hF hr10) g1_231 g1_232 g1_233 cls4 (CK2 hW) (by decide) (ce5 (CK2 hW)) ⟨Nat.le_of_ble_eq_true rfl, Nat.le_of_ble_eq_true rfl⟩ (by rw [hcl.1, hcl.2]; exact ⟨Nat.le_of_ble_eq_true rfl, Nat.le_of_ble_eq_true rfl⟩) dX6_addTurn_60 rfl (fun w => [(4, .int x4)]) (fun w => []) rfl (Nat.le_of_ble_eq_true rfl) (fun w' h => ⟨rfl, rfl⟩) (fun X w hX hW hE ht11 => ?_)
            refine r_astoreQ hX (i := 6) dX6_addTurn_63 (by decide) rfl ?_
            refine r_aloadQ hX dX6_addTurn_65 0 rfl ?_
            refine r_ifnonnull hX dX6_addTurn_67 (tgt := 73) (by decide) (fun u12 h => ?_) (fun h => ?_)
            · subst h
              have hf := elim_s hf
              refine r_aload hX dX6_addTurn_73 0 rfl ?_
              refine r_iload hX dX6_addTurn_75 1 rfl ?_
              refine r_putI hX cls1 (ht11 u12 rfl) (by decide) (fun _ _ _ => ce2 (ht11 u12 rfl)) 4 (by decide) g2_14 rfl rfl (tyX1_ok 4 (by decide)) (fun _ _ => Nat.le_of_ble_eq_true rfl) dX6_addTurn_77 (fun _ _ => rfl) ?_
              exact J.sub [0] rfl (wX6_addTurn_b80 hX hW hE  (ht11 u12 rfl) hf)
            · subst h
              have hf := elim_n hf
              refine r_bipush hX dX6_addTurn_70 (v := (-4 : Int32)) (by decide) ?_
              cases hf
              exact r_iretE hX hE hW dX6_addTurn_72
          · have hf := ite_t h hf
            refine r_bipush hX dX6_addTurn_50 (v := (-3 : Int32)) (by decide) ?_
            cases hf
            exact r_iretE hX (Ext.refl w b) hW dX6_addTurn_52
    · have hf := ite_t h hf
      refine r_bipush hX dX6_addTurn_23 (v := (-2 : Int32)) (by decide) ?_
      cases hf
      exact r_iretE hX (Ext.refl w b) hW dX6_addTurn_25
  · subst h
    have hf := elim_n hf
    refine r_iconst hX dX6_addTurn_12 (v := (-1 : Int32)) (by decide) ?_
    cases hf
    exact r_iretE hX (Ext.refl w b) hW dX6_addTurn_13
theorem miX6_addTurn : MI yX6_addTurn cX6_addTurn 7 (some .int) 4 := ⟨g1_227, ⟨by decide, by decide, by decide +kernel⟩, g1_1, by decide +kernel⟩
theorem cX6_addTurn_ok (l : Launch) {w : Wp} {σ : St} {r : Int32} {σ' : St} {b : Nat} {x1 : Int32} {x2 : Int32} {x3 : Int32} {x4 : Int32} (hW : CW w) (hF : Fre w b)  (hf : fX6_addTurn b σ x1 x2 x3 x4 = some (r, σ')) : CM l w yX6_addTurn cX6_addTurn 7 (some .int) { frames := 3, cells := 1, slots := 8, locals := 61 } [rf w 0, .int x1, .int x2, .int x3, .int x4] σ (QE w b σ' r) := CM.of miX6_addTurn.2.2.2 (Nat.le_of_ble_eq_true rfl) (fun X hcl hX => J.sub [0, 1, 2, 3, 4] rfl (wX6_addTurn_b0 hX hW hF hcl  hf))
-- X6_addShift
set_option maxRecDepth 20000 in
set_option maxHeartbeats 2000000 in
theorem wX6_addShift_b95 {X : Cx} {w : Wp} {σ : St} {r : Int32} {σ' : St} {b : Nat} {w0 : Wp}  {t6 : Nat} (hX : OK X w cX6_addShift 7 RX6 (some .int) { frames := 3, cells := 1, slots := 8, locals := 61 } (QE w0 b σ' r)) (hW : CW w) (hE : Ext w0 w b)  (h6 : wK w t6 = 2) (hf : fX6_addShift_b95 b σ t6 = some (r, σ')) : J X w 7 σ 95 [(6, rf w t6)] [] := by
  rw [fX6_addShift_b95] at hf
  refine r_aload hX dX6_addShift_95 0 rfl ?_
  refine r_get hX cls1 h6 (by decide) (ce2 h6) 0 (by decide) g2_2 rfl dX6_addShift_97 (.int (σ.1 t6 0)) rfl ?_
  cases hf
  exact r_iretE hX hE hW dX6_addShift_100
set_option maxRecDepth 20000 in
set_option maxHeartbeats 2000000 in
theorem wX6_addShift_b88 {X : Cx} {w : Wp} {σ : St} {r : Int32} {σ' : St} {b : Nat} {w0 : Wp}  {x5 : Int32} {t6 : Nat} (hX : OK X w cX6_addShift 7 RX6 (some .int) { frames := 3, cells := 1, slots := 8, locals := 61 } (QE w0 b σ' r)) (hW : CW w) (hE : Ext w0 w b)  (h6 : wK w t6 = 2) (hf : fX6_addShift_b88 b σ x5 t6 = some (r, σ')) : J X w 7 σ 88 [(5, .int x5), (6, rf w t6)] [] := by
  rw [fX6_addShift_b88] at hf
  refine r_aload hX dX6_addShift_88 1 rfl ?_
  refine r_iload hX dX6_addShift_90 0 rfl ?_
  refine r_putI hX cls1 h6 (by decide) (fun _ _ _ => ce2 h6) 7 (by decide) g2_23 rfl rfl (tyX1_ok 7 (by decide)) (fun _ _ => Nat.le_of_ble_eq_true rfl) dX6_addShift_92 (fun _ _ => rfl) ?_
  exact J.sub [1] rfl (wX6_addShift_b95 hX hW hE  h6 hf)
set_option maxRecDepth 20000 in
set_option maxHeartbeats 2000000 in
theorem wX6_addShift_b81 {X : Cx} {w : Wp} {σ : St} {r : Int32} {σ' : St} {b : Nat} {w0 : Wp}  {x4 : Int32} {x5 : Int32} {t6 : Nat} (hX : OK X w cX6_addShift 7 RX6 (some .int) { frames := 3, cells := 1, slots := 8, locals := 61 } (QE w0 b σ' r)) (hW : CW w) (hE : Ext w0 w b)  (h6 : wK w t6 = 2) (hf : fX6_addShift_b81 b σ x4 x5 t6 = some (r, σ')) : J X w 7 σ 81 [(4, .int x4), (5, .int x5), (6, rf w t6)] [] := by
  rw [fX6_addShift_b81] at hf
  refine r_aload hX dX6_addShift_81 2 rfl ?_
  refine r_iload hX dX6_addShift_83 0 rfl ?_
  refine r_putI hX cls1 h6 (by decide) (fun _ _ _ => ce2 h6) 6 (by decide) g2_20 rfl rfl (tyX1_ok 6 (by decide)) (fun _ _ => Nat.le_of_ble_eq_true rfl) dX6_addShift_85 (fun _ _ => rfl) ?_
  exact J.sub [1, 2] rfl (wX6_addShift_b88 hX hW hE  h6 hf)
set_option maxRecDepth 20000 in
set_option maxHeartbeats 2000000 in
theorem wX6_addShift_b0 {X : Cx} {w : Wp} {σ : St} {r : Int32} {σ' : St} {b : Nat}  {x1 : Int32} {x2 : Int32} {x3 : Int32} {x4 : Int32} {x5 : Int32} (hX : OK X w cX6_addShift 7 RX6 (some .int) { frames := 3, cells := 1, slots := 8, locals := 61 } (QE w b σ' r)) (hW : CW w) (hF : Fre w b) (hcl : xcl X = 0 ∧ xsl X = 0)   (hf : fX6_addShift b σ x1 x2 x3 x4 x5 = some (r, σ')) : J X w 7 σ 0 [(0, rf w 0), (1, .int x1), (2, .int x2), (3, .int x3), (4, .int x4), (5, .int x5)] [] := by
  rw [fX6_addShift] at hf
  refine r_aload_n hX dX6_addShift_0 rfl 0 rfl ?_
  refine r_iload_n hX dX6_addShift_1 rfl 2 rfl ?_
  obtain ⟨r1, hr3, hf⟩ := bd_s hf
  refine J.callq (fun H locs ls a b c => runV hX miX6_figureAt (As := [.int x2]) (cX6_figureAt_ok (xl X) hW  hr3) g1_203 g1_205 gs_0 cls6 (CK0 hW) (by decide) (ce7 (CK0 hW)) ⟨Nat.le_of_ble_eq_true rfl, Nat.le_of_ble_eq_true rfl⟩ dX6_addShift_2 rfl (rest := []) rfl (Nat.le_of_ble_eq_true rfl) a b c) (fun ht2 => ?_)
  refine r_ifnonnull hX dX6_addShift_5 (tgt := 10) (by decide) (fun u4 h => ?_) (fun h => ?_)
  · subst h
    have hf := elim_s hf
    refine r_iload_n hX dX6_addShift_10 rfl 1 rfl ?_
    refine J.callz (fun H locs ls a b c => runS hX miX6_isBeat (cX6_isBeat_ok (xl X)  rfl) g1_228 g1_229 ⟨Nat.le_of_ble_eq_true rfl, Nat.le_of_ble_eq_true rfl⟩ dX6_addShift_11 rfl (As := [.int x1]) (rest := []) rfl (Nat.le_of_ble_eq_true rfl) a b c) (fun hz5 => ?_)
    refine r_if_eq hX dX6_addShift_14 (tgt := 52) (by decide) (fun h => ?_) (fun h => ?_)
    · have hf := ite_t h hf
      refine r_bipush hX dX6_addShift_52 (v := (-3 : Int32)) (by decide) ?_
      cases hf
      exact r_iretE hX (Ext.refl w b) hW dX6_addShift_54
    · have hf := ite_f h hf
      refine r_iload_n hX dX6_addShift_17 rfl 3 rfl ?_
      refine r_bipush hX dX6_addShift_18 (v := (-50 : Int32)) (by decide) ?_
      refine r_bipush hX dX6_addShift_20 (v := (50 : Int32)) (by decide) ?_
      refine J.callz (fun H locs ls a b c => runS hX miX6_inRange (cX6_inRange_ok (xl X)  rfl) g1_153 g1_154 ⟨Nat.le_of_ble_eq_true rfl, Nat.le_of_ble_eq_true rfl⟩ dX6_addShift_22 rfl (As := [.int x3, .int (-50 : Int32), .int (50 : Int32)]) (rest := []) rfl (Nat.le_of_ble_eq_true rfl) a b c) (fun hz6 => ?_)
      refine r_if_eq hX dX6_addShift_25 (tgt := 52) (by decide) (fun h => ?_) (fun h => ?_)
      · have hf := ite_t h hf
        refine r_bipush hX dX6_addShift_52 (v := (-3 : Int32)) (by decide) ?_
        cases hf
        exact r_iretE hX (Ext.refl w b) hW dX6_addShift_54
      · have hf := ite_f h hf
        refine r_iload hX dX6_addShift_28 4 rfl ?_
        refine r_bipush hX dX6_addShift_30 (v := (-50 : Int32)) (by decide) ?_
        refine r_bipush hX dX6_addShift_32 (v := (50 : Int32)) (by decide) ?_
        refine J.callz (fun H locs ls a b c => runS hX miX6_inRange (cX6_inRange_ok (xl X)  rfl) g1_153 g1_154 ⟨Nat.le_of_ble_eq_true rfl, Nat.le_of_ble_eq_true rfl⟩ dX6_addShift_34 rfl (As := [.int x4, .int (-50 : Int32), .int (50 : Int32)]) (rest := []) rfl (Nat.le_of_ble_eq_true rfl) a b c) (fun hz7 => ?_)
        refine r_if_eq hX dX6_addShift_37 (tgt := 52) (by decide) (fun h => ?_) (fun h => ?_)
        · have hf := ite_t h hf
          refine r_bipush hX dX6_addShift_52 (v := (-3 : Int32)) (by decide) ?_
          cases hf
          exact r_iretE hX (Ext.refl w b) hW dX6_addShift_54
        · have hf := ite_f h hf
          refine r_iload hX dX6_addShift_40 5 rfl ?_
          refine r_bipush hX dX6_addShift_42 (v := (-100 : Int32)) (by decide) ?_
          refine r_bipush hX dX6_addShift_44 (v := (100 : Int32)) (by decide) ?_
          refine J.callz (fun H locs ls a b c => runS hX miX6_inRange (cX6_inRange_ok (xl X)  rfl) g1_153 g1_154 ⟨Nat.le_of_ble_eq_true rfl, Nat.le_of_ble_eq_true rfl⟩ dX6_addShift_46 rfl (As := [.int x5, .int (-100 : Int32), .int (100 : Int32)]) (rest := []) rfl (Nat.le_of_ble_eq_true rfl) a b c) (fun hz8 => ?_)
          refine r_if_ne hX dX6_addShift_49 (tgt := 55) (by decide) (fun h => ?_) (fun h => ?_)
          · have hf := ite_f h hf
            refine r_aload_n hX dX6_addShift_55 rfl 0 rfl ?_
            refine r_get hX cls6 (CK0 hW) (by decide) (ce7 (CK0 hW)) 3 (by decide) g1_124 rfl dX6_addShift_56 (rf w 2) rfl ?_
            refine r_iload_n hX dX6_addShift_59 rfl 1 rfl ?_
            refine r_iload_n hX dX6_addShift_60 rfl 2 rfl ?_
            refine r_iconst hX dX6_addShift_61 (v := (-1 : Int32)) (by decide) ?_
            obtain ⟨r9, σ10, hr11, hf⟩ := bd2_s hf
            refine J.sub [3, 4, 5] rfl ?_
            refine r_callqE (st := [.int (-1 : Int32), .int x2, .int x1, rf w 2]) hX miX4_newMove (As := [.int x1, .int x2, .int (-1 : Int32)]) (cX4_newMove_ok (xl X) hW  hF hr11) g1_231 g1_232 g1_233 cls4 (CK2 hW) (by decide) (ce5 (CK2 hW)) ⟨Nat.le_of_ble_eq_true rfl, Nat.le_of_ble_eq_true rfl⟩ (by rw [hcl.1, hcl.2]; exact ⟨Nat.le_of_ble_eq_true rfl, Nat.le_of_ble_eq_true rfl⟩) dX6_addShift_62 rfl (fun w => [(3, .int x3), (4, .int x4), (5, .int x5)]) (fun w => []) rfl (Nat.le_of_ble_eq_true rfl) (fun w' h => ⟨rfl, rfl⟩) (fun X w hX hW hE ht12 => ?_)
            refine r_astoreQ hX (i := 6) dX6_addShift_65 (by decide) rfl ?_
            refine r_aloadQ hX dX6_addShift_67 0 rfl ?_
            refine r_ifnonnull hX dX6_addShift_69 (tgt := 75) (by decide) (fun u13 h => ?_) (fun h => ?_)
            · subst h
              have hf := elim_s hf
              refine r_aload hX dX6_addShift_75 0 rfl ?_
              refine r_iload_n hX dX6_addShift_77 rfl 1 rfl ?_
              refine r_putI hX cls1 (ht12 u13 rfl) (by decide) (fun _ _ _ => ce2 (ht12 u13 rfl)) 5 (by decide) g2_17 rfl rfl (tyX1_ok 5 (by decide)) (fun _ _ => Nat.le_of_ble_eq_true rfl) dX6_addShift_78 (fun _ _ => rfl) ?_
              exact J.sub [2, 3, 0] rfl (wX6_addShift_b81 hX hW hE  (ht12 u13 rfl) hf)
            · subst h
              have hf := elim_n hf
              refine r_bipush hX dX6_addShift_72 (v := (-4 : Int32)) (by decide) ?_
              cases hf
              exact r_iretE hX hE hW dX6_addShift_74
          · have hf := ite_t h hf
            refine r_bipush hX dX6_addShift_52 (v := (-3 : Int32)) (by decide) ?_
            cases hf
            exact r_iretE hX (Ext.refl w b) hW dX6_addShift_54
  · subst h
    have hf := elim_n hf
    refine r_iconst hX dX6_addShift_8 (v := (-1 : Int32)) (by decide) ?_
    cases hf
    exact r_iretE hX (Ext.refl w b) hW dX6_addShift_9
theorem miX6_addShift : MI yX6_addShift cX6_addShift 7 (some .int) 5 := ⟨g2_47, ⟨by decide, by decide, by decide +kernel⟩, g1_1, by decide +kernel⟩
theorem cX6_addShift_ok (l : Launch) {w : Wp} {σ : St} {r : Int32} {σ' : St} {b : Nat} {x1 : Int32} {x2 : Int32} {x3 : Int32} {x4 : Int32} {x5 : Int32} (hW : CW w) (hF : Fre w b)  (hf : fX6_addShift b σ x1 x2 x3 x4 x5 = some (r, σ')) : CM l w yX6_addShift cX6_addShift 7 (some .int) { frames := 3, cells := 1, slots := 8, locals := 61 } [rf w 0, .int x1, .int x2, .int x3, .int x4, .int x5] σ (QE w b σ' r) := CM.of miX6_addShift.2.2.2 (Nat.le_of_ble_eq_true rfl) (fun X hcl hX => J.sub [0, 1, 2, 3, 4, 5] rfl (wX6_addShift_b0 hX hW hF hcl  hf))
-- X6_removeMoves
set_option maxRecDepth 20000 in
set_option maxHeartbeats 2000000 in
theorem wX6_removeMoves_b0 {X : Cx} {w : Wp} {σ : St} {r : Int32} {σ' : St}  {x1 : Int32} (hX : OK X w cX6_removeMoves 2 RX6 (some .int) (rmz 1 24) (Qi w σ' r)) (hW : CW w)   (hf : fX6_removeMoves σ x1 = some (r, σ')) : J X w 2 σ 0 [(0, rf w 0), (1, .int x1)] [] := by
  rw [fX6_removeMoves] at hf
  refine r_iload_n hX dX6_removeMoves_0 rfl 1 rfl ?_
  refine r_iconst hX dX6_removeMoves_1 (v := (0 : Int32)) (by decide) ?_
  refine r_aload_n hX dX6_removeMoves_2 rfl 0 rfl ?_
  refine r_get hX cls6 (CK0 hW) (by decide) (ce7 (CK0 hW)) 3 (by decide) g1_124 rfl dX6_removeMoves_3 (rf w 2) rfl ?_
  refine r_get hX cls4 (CK2 hW) (by decide) (ce5 (CK2 hW)) 1 (by decide) g1_34 rfl dX6_removeMoves_6 (.int (σ.1 2 1)) rfl ?_
  refine J.callz (fun H locs ls a b c => runS hX miX6_inRange (cX6_inRange_ok (xl X)  rfl) g1_153 g1_154 ⟨Nat.le_of_ble_eq_true rfl, Nat.le_of_ble_eq_true rfl⟩ dX6_removeMoves_9 rfl (As := [.int x1, .int (0 : Int32), .int (σ.1 2 1)]) (rest := []) rfl (Nat.le_of_ble_eq_true rfl) a b c) (fun hz1 => ?_)
  refine r_if_ne hX dX6_removeMoves_12 (tgt := 18) (by decide) (fun h => ?_) (fun h => ?_)
  · have hf := ite_f h hf
    refine r_aload_n hX dX6_removeMoves_18 rfl 0 rfl ?_
    refine r_get hX cls6 (CK0 hW) (by decide) (ce7 (CK0 hW)) 3 (by decide) g1_124 rfl dX6_removeMoves_19 (rf w 2) rfl ?_
    refine r_aload_n hX dX6_removeMoves_22 rfl 0 rfl ?_
    refine r_get hX cls6 (CK0 hW) (by decide) (ce7 (CK0 hW)) 3 (by decide) g1_124 rfl dX6_removeMoves_23 (rf w 2) rfl ?_
    refine r_get hX cls4 (CK2 hW) (by decide) (ce5 (CK2 hW)) 1 (by decide) g1_34 rfl dX6_removeMoves_26 (.int (σ.1 2 1)) rfl ?_
    refine r_iload_n hX dX6_removeMoves_29 rfl 1 rfl ?_
    refine r_isub hX dX6_removeMoves_30 ?_
    obtain ⟨σ2, hr3, hf⟩ := bd_s hf
    refine J.callv (fun H locs ls a b c => runV hX miX4_keepFirst (As := [.int ((σ.1 2 1) - x1)]) (cX4_keepFirst_ok (xl X) hW  hr3) g2_52 g2_53 g2_54 cls4 (CK2 hW) (by decide) (ce5 (CK2 hW)) ⟨Nat.le_of_ble_eq_true rfl, Nat.le_of_ble_eq_true rfl⟩ dX6_removeMoves_31 rfl (rest := []) rfl (Nat.le_of_ble_eq_true rfl) a b c) ?_
    refine r_aload_n hX dX6_removeMoves_34 rfl 0 rfl ?_
    refine r_get hX cls6 (CK0 hW) (by decide) (ce7 (CK0 hW)) 3 (by decide) g1_124 rfl dX6_removeMoves_35 (rf w 2) rfl ?_
    refine r_get hX cls4 (CK2 hW) (by decide) (ce5 (CK2 hW)) 1 (by decide) g1_34 rfl dX6_removeMoves_38 (.int (σ2.1 2 1)) rfl ?_
    cases hf
    exact r_iret hX dX6_removeMoves_41
  · have hf := ite_t h hf
    refine r_bipush hX dX6_removeMoves_15 (v := (-3 : Int32)) (by decide) ?_
    cases hf
    exact r_iret hX dX6_removeMoves_17
theorem miX6_removeMoves : MI yX6_removeMoves cX6_removeMoves 2 (some .int) 1 := ⟨g2_51, ⟨by decide, by decide, by decide +kernel⟩, g1_1, by decide +kernel⟩
theorem cX6_removeMoves_ok (l : Launch) {w : Wp} {σ : St} {r : Int32} {σ' : St} {x1 : Int32} (hW : CW w)  (hf : fX6_removeMoves σ x1 = some (r, σ')) : CM l w yX6_removeMoves cX6_removeMoves 2 (some .int) (rmz 1 24) [rf w 0, .int x1] σ (Qi w σ' r) := CM.of miX6_removeMoves.2.2.2 (Nat.le_of_ble_eq_true rfl) (fun X hcl hX => J.sub [0, 1] rfl (wX6_removeMoves_b0 hX hW  hf))
-- X6_position
set_option maxRecDepth 20000 in
set_option maxHeartbeats 2000000 in
theorem wX6_position_b42 {X : Cx} {w : Wp} {σ : St} {r : Int64} {σ' : St}   (hX : OK X w cX6_position 6 RX6 (some .long) (rmz 3 75) (Ql w σ' r)) (hW : CW w)   (hf : fX6_position_b42 σ = some (r, σ')) : J X w 6 σ 42 [] [] := by
  rw [fX6_position_b42] at hf
  refine r_ldc2 hX (v := (-9223372036854775808 : Int64)) g2_60 dX6_position_42 ?_
  cases hf
  exact r_lret hX dX6_position_45
set_option maxRecDepth 20000 in
set_option maxHeartbeats 2000000 in
theorem wX6_position_b0 {X : Cx} {w : Wp} {σ : St} {r : Int64} {σ' : St}  {x1 : Int32} {x2 : Int32} {x3 : Int32} {x4 : Int32} (hX : OK X w cX6_position 6 RX6 (some .long) (rmz 3 75) (Ql w σ' r)) (hW : CW w)   (hf : fX6_position σ x1 x2 x3 x4 = some (r, σ')) : J X w 6 σ 0 [(0, rf w 0), (1, .int x1), (2, .int x2), (3, .int x3), (4, .int x4)] [] := by
  rw [fX6_position] at hf
  refine r_aload_n hX dX6_position_0 rfl 0 rfl ?_
  refine r_iload_n hX dX6_position_1 rfl 1 rfl ?_
  obtain ⟨r1, hr3, hf⟩ := bd_s hf
  refine J.callq (fun H locs ls a b c => runV hX miX6_figureAt (As := [.int x1]) (cX6_figureAt_ok (xl X) hW  hr3) g1_203 g1_205 gs_0 cls6 (CK0 hW) (by decide) (ce7 (CK0 hW)) ⟨Nat.le_of_ble_eq_true rfl, Nat.le_of_ble_eq_true rfl⟩ dX6_position_2 rfl (rest := []) rfl (Nat.le_of_ble_eq_true rfl) a b c) (fun ht2 => ?_)
  refine r_astoreQ hX (i := 5) dX6_position_5 (by decide) rfl ?_
  refine r_aloadQ hX dX6_position_7 0 rfl ?_
  refine r_ifnull hX dX6_position_9 (tgt := 42) (by decide) (fun h => ?_) (fun u4 h => ?_)
  · subst h
    have hf := elim_n hf
    exact J.sub [] rfl (wX6_position_b42 hX hW   hf)
  · subst h
    have hf := elim_s hf
    refine r_iload_n hX dX6_position_12 rfl 3 rfl ?_
    refine r_iconst hX dX6_position_13 (v := (0 : Int32)) (by decide) ?_
    refine r_aload hX dX6_position_14 0 rfl ?_
    refine r_get hX cls0 (ht2 u4 rfl) (by decide) (ce1 (ht2 u4 rfl)) 7 (by decide) g1_181 rfl dX6_position_16 (.int (σ.1 u4 7)) rfl ?_
    refine J.callz (fun H locs ls a b c => runS hX miX6_inRange (cX6_inRange_ok (xl X)  rfl) g1_153 g1_154 ⟨Nat.le_of_ble_eq_true rfl, Nat.le_of_ble_eq_true rfl⟩ dX6_position_19 rfl (As := [.int x2, .int (0 : Int32), .int (σ.1 u4 7)]) (rest := []) rfl (Nat.le_of_ble_eq_true rfl) a b c) (fun hz5 => ?_)
    refine r_if_eq hX dX6_position_22 (tgt := 42) (by decide) (fun h => ?_) (fun h => ?_)
    · have hf := ite_t h hf
      exact J.sub [] rfl (wX6_position_b42 hX hW   hf)
    · have hf := ite_f h hf
      refine r_iload_n hX dX6_position_25 rfl 4 rfl ?_
      refine J.callz (fun H locs ls a b c => runS hX miX6_isBeat (cX6_isBeat_ok (xl X)  rfl) g1_228 g1_229 ⟨Nat.le_of_ble_eq_true rfl, Nat.le_of_ble_eq_true rfl⟩ dX6_position_26 rfl (As := [.int x3]) (rest := []) rfl (Nat.le_of_ble_eq_true rfl) a b c) (fun hz6 => ?_)
      refine r_if_eq hX dX6_position_29 (tgt := 42) (by decide) (fun h => ?_) (fun h => ?_)
      · have hf := ite_t h hf
        exact J.sub [] rfl (wX6_position_b42 hX hW   hf)
      · have hf := ite_f h hf
        refine r_iload hX dX6_position_32 5 rfl ?_
        refine r_iconst hX dX6_position_34 (v := (0 : Int32)) (by decide) ?_
        refine r_iconst hX dX6_position_35 (v := (3 : Int32)) (by decide) ?_
        refine J.callz (fun H locs ls a b c => runS hX miX6_inRange (cX6_inRange_ok (xl X)  rfl) g1_153 g1_154 ⟨Nat.le_of_ble_eq_true rfl, Nat.le_of_ble_eq_true rfl⟩ dX6_position_36 rfl (As := [.int x4, .int (0 : Int32), .int (3 : Int32)]) (rest := []) rfl (Nat.le_of_ble_eq_true rfl) a b c) (fun hz7 => ?_)
        refine r_if_ne hX dX6_position_39 (tgt := 46) (by decide) (fun h => ?_) (fun h => ?_)
        · have hf := ite_f h hf
          refine r_aload_n hX dX6_position_46 rfl 1 rfl ?_
          refine r_get hX cls6 (CK0 hW) (by decide) (ce7 (CK0 hW)) 5 (by decide) g1_126 rfl dX6_position_47 (rf w 7) rfl ?_
          refine r_aload hX dX6_position_50 0 rfl ?_
          refine r_aload_n hX dX6_position_52 rfl 1 rfl ?_
          refine r_get hX cls6 (CK0 hW) (by decide) (ce7 (CK0 hW)) 3 (by decide) g1_124 rfl dX6_position_53 (rf w 2) rfl ?_
          refine r_iload_n hX dX6_position_56 rfl 4 rfl ?_
          refine r_aload_n hX dX6_position_57 rfl 1 rfl ?_
          refine r_get hX cls6 (CK0 hW) (by decide) (ce7 (CK0 hW)) 0 (by decide) g1_121 rfl dX6_position_58 (.int (σ.1 0 0)) rfl ?_
          obtain ⟨σ8, hr9, hf⟩ := bd_s hf
          refine J.callq (fun H locs ls a b c => runV hX miX2_take (As := [rf w u4, rf w 2, .int x3, .int (σ.1 0 0)]) (cX2_take_ok (xl X) hW (CK7 hW) (ht2 u4 rfl) hr9) g2_61 g2_62 g2_63 cls2 (CK7 hW) (by decide) (ce3 (CK7 hW)) ⟨Nat.le_of_ble_eq_true rfl, Nat.le_of_ble_eq_true rfl⟩ dX6_position_61 rfl (rest := []) rfl (Nat.le_of_ble_eq_true rfl) a b c) (fun _ => ?_)
          refine r_pop hX dX6_position_64 rfl ?_
          refine r_iload hX dX6_position_65 5 rfl ?_
          refine r_sw3 (x := x4) (fun h => ?_) (fun h => ?_) (fun h => ?_) (fun h => ?_)
          · refine r_tabOut hX dX6_position_67 (by first | exact h | omega) (tgt := 125) (by decide) ?_
            have hf := ite_f (sw_ne h 0 (by decide) (by decide)) hf
            have hf := ite_f (sw_ne h 1 (by decide) (by decide)) hf
            have hf := ite_f (sw_ne h 2 (by decide) (by decide)) hf
            refine r_aload_n hX dX6_position_125 rfl 1 rfl ?_
            refine r_get hX cls6 (CK0 hW) (by decide) (ce7 (CK0 hW)) 5 (by decide) g1_126 rfl dX6_position_126 (rf w 7) rfl ?_
            refine r_get hX cls2 (CK7 hW) (by decide) (ce3 (CK7 hW)) 4 (by decide) g1_74 rfl dX6_position_129 (.int (σ8.1 7 4)) rfl ?_
            refine r_i2l hX dX6_position_132 ?_
            cases hf
            exact r_lret hX dX6_position_133
          · have hf := ite_t h hf
            refine r_tabIn hX dX6_position_67 (by rw [h]; decide) (by rw [h]; decide) (off := 25) (by rw [h]; rfl) (tgt := 92) (by decide) ?_
            refine r_aload_n hX dX6_position_92 rfl 1 rfl ?_
            refine r_get hX cls6 (CK0 hW) (by decide) (ce7 (CK0 hW)) 5 (by decide) g1_126 rfl dX6_position_93 (rf w 7) rfl ?_
            refine r_get hX cls2 (CK7 hW) (by decide) (ce3 (CK7 hW)) 1 (by decide) g1_67 rfl dX6_position_96 (rf w 9) rfl ?_
            refine r_iload_n hX dX6_position_99 rfl 3 rfl ?_
            obtain ⟨hi13, hf⟩ := grd_some hf
            refine r_iald hX (CK9 hW) (CL9 hW) hi13 dX6_position_100 ?_
            refine r_i2l hX dX6_position_101 ?_
            cases hf
            exact r_lret hX dX6_position_102
          · have hf := ite_f (sw_nk (j := 0) h (by decide)) hf
            have hf := ite_t h hf
            refine r_tabIn hX dX6_position_67 (by rw [h]; decide) (by rw [h]; decide) (off := 36) (by rw [h]; rfl) (tgt := 103) (by decide) ?_
            refine r_aload_n hX dX6_position_103 rfl 1 rfl ?_
            refine r_get hX cls6 (CK0 hW) (by decide) (ce7 (CK0 hW)) 5 (by decide) g1_126 rfl dX6_position_104 (rf w 7) rfl ?_
            refine r_get hX cls2 (CK7 hW) (by decide) (ce3 (CK7 hW)) 2 (by decide) g1_70 rfl dX6_position_107 (rf w 10) rfl ?_
            refine r_iload_n hX dX6_position_110 rfl 3 rfl ?_
            obtain ⟨hi14, hf⟩ := grd_some hf
            refine r_iald hX (CK10 hW) (CL10 hW) hi14 dX6_position_111 ?_
            refine r_i2l hX dX6_position_112 ?_
            cases hf
            exact r_lret hX dX6_position_113
          · have hf := ite_f (sw_nk (j := 0) h (by decide)) hf
            have hf := ite_f (sw_nk (j := 1) h (by decide)) hf
            have hf := ite_t h hf
            refine r_tabIn hX dX6_position_67 (by rw [h]; decide) (by rw [h]; decide) (off := 47) (by rw [h]; rfl) (tgt := 114) (by decide) ?_
            refine r_aload_n hX dX6_position_114 rfl 1 rfl ?_
            refine r_get hX cls6 (CK0 hW) (by decide) (ce7 (CK0 hW)) 5 (by decide) g1_126 rfl dX6_position_115 (rf w 7) rfl ?_
            refine r_get hX cls2 (CK7 hW) (by decide) (ce3 (CK7 hW)) 3 (by decide) g1_72 rfl dX6_position_118 (rf w 11) rfl ?_
            refine r_iload_n hX dX6_position_121 rfl 3 rfl ?_
            obtain ⟨hi15, hf⟩ := grd_some hf
            refine r_iald hX (CK11 hW) (CL11 hW) hi15 dX6_position_122 ?_
            refine r_i2l hX dX6_position_123 ?_
            cases hf
            exact r_lret hX dX6_position_124
        · have hf := ite_t h hf
          exact J.sub [] rfl (wX6_position_b42 hX hW   hf)
theorem miX6_position : MI yX6_position cX6_position 6 (some .long) 4 := ⟨g2_59, ⟨by decide, by decide, by decide +kernel⟩, g1_1, by decide +kernel⟩
theorem cX6_position_ok (l : Launch) {w : Wp} {σ : St} {r : Int64} {σ' : St} {x1 : Int32} {x2 : Int32} {x3 : Int32} {x4 : Int32} (hW : CW w)  (hf : fX6_position σ x1 x2 x3 x4 = some (r, σ')) : CM l w yX6_position cX6_position 6 (some .long) (rmz 3 75) [rf w 0, .int x1, .int x2, .int x3, .int x4] σ (Ql w σ' r) := CM.of miX6_position.2.2.2 (Nat.le_of_ble_eq_true rfl) (fun X hcl hX => J.sub [0, 1, 2, 3, 4] rfl (wX6_position_b0 hX hW  hf))
-- J9_abs_067f4
set_option maxRecDepth 20000 in
set_option maxHeartbeats 2000000 in
theorem wJ9_abs_067f4_b0 {X : Cx} {w : Wp} {σ : St} {r : Int64}  {x0 : Int64} (hX : OK X w cJ9_abs_067f4 2 RJ9 (some .long) (rmz 0 0) (Ql w σ r))    (hf : fJ9_abs_067f4 x0 = r) : J X w 2 σ 0 [(0, .long x0)] [] := by
  rw [fJ9_abs_067f4] at hf
  refine r_lload_n hX dJ9_abs_067f4_0 rfl 0 rfl ?_
  refine r_lconst hX dJ9_abs_067f4_1 (v := (0 : Int64)) (by decide) ?_
  refine r_lcmp_ge hX dJ9_abs_067f4_2 dJ9_abs_067f4_3 (tgt := 11) (by decide) (fun h => ?_) (fun h => ?_)
  · have hf := ite_t h hf
    refine r_lload_n hX dJ9_abs_067f4_11 rfl 0 rfl ?_
    subst hf
    exact r_lret hX dJ9_abs_067f4_12
  · have hf := ite_f h hf
    refine r_lload_n hX dJ9_abs_067f4_6 rfl 0 rfl ?_
    refine r_lneg hX dJ9_abs_067f4_7 ?_
    refine r_goto hX dJ9_abs_067f4_8 (tgt := 12) (by decide) ?_
    subst hf
    exact r_lret hX dJ9_abs_067f4_12
theorem miJ9_abs_067f4 : MI yJ9_abs_067f4 cJ9_abs_067f4 2 (some .long) 1 := ⟨g2_118, ⟨by decide, by decide, by decide +kernel⟩, g1_9, by decide +kernel⟩
theorem cJ9_abs_067f4_ok (l : Launch) {w : Wp} {σ : St} {r : Int64} {x0 : Int64}   (hf : fJ9_abs_067f4 x0 = r) : CM l w yJ9_abs_067f4 cJ9_abs_067f4 2 (some .long) (rmz 0 0) [.long x0] σ (Ql w σ r) := CM.of miJ9_abs_067f4.2.2.2 (Nat.le_of_ble_eq_true rfl) (fun X hcl hX => J.sub [0] rfl (wJ9_abs_067f4_b0 hX   hf))
-- X6_commonDivisor
set_option maxRecDepth 20000 in
set_option maxHeartbeats 2000000 in
theorem wX6_commonDivisor_b44 {X : Cx} {w : Wp} {σ : St} {r : Int64}  {x4 : Int64} (hX : OK X w cX6_commonDivisor 11 RX6 (some .long) (rmz 1 23) (Ql w σ r))    (hf : fX6_commonDivisor_b44 x4 = some r) : J X w 11 σ 44 [(4, .long x4)] [] := by
  rw [fX6_commonDivisor_b44] at hf
  refine r_lconst hX dX6_commonDivisor_44 (v := (1 : Int64)) (by decide) ?_
  refine r_lload hX dX6_commonDivisor_45 0 rfl ?_
  refine J.calll (fun H locs ls a b c => runS hX miJ9_max_f86c9 (cJ9_max_f86c9_ok (xl X)  rfl) g2_122 g2_123 ⟨Nat.le_of_ble_eq_true rfl, Nat.le_of_ble_eq_true rfl⟩ dX6_commonDivisor_47 rfl (As := [.long (1 : Int64), .long x4]) (rest := []) rfl (Nat.le_of_ble_eq_true rfl) a b c) ?_
  cases hf
  exact r_lret hX dX6_commonDivisor_50
set_option maxRecDepth 20000 in
set_option maxHeartbeats 2000000 in
theorem wX6_commonDivisor_L9 {X : Cx} {w : Wp} {σ : St} {r : Int64}  (hX : OK X w cX6_commonDivisor 11 RX6 (some .long) (rmz 1 23) (Ql w σ r))   : ∀ (n : Nat) (x4 : Int64) (x6 : Int64) (x8 : Int32), fX6_commonDivisor_L9 n x4 x6 x8 = some r → J X w 11 σ 9 [(4, .long x4), (6, .long x6), (8, .int x8)] [] := by
  intro n
  induction n with
  | zero =>
    intro x4 x6 x8 hf
    cases hf
  | succ n ih =>
    intro x4 x6 x8 hf
    rw [fX6_commonDivisor_L9] at hf
    refine r_iload hX dX6_commonDivisor_9 2 rfl ?_
    refine r_bipush hX dX6_commonDivisor_11 (v := (100 : Int32)) (by decide) ?_
    refine r_icmp_ge hX dX6_commonDivisor_13 (tgt := 44) (by decide) (fun h => ?_) (fun h => ?_)
    · have hf := ite_t h hf
      exact J.sub [0] rfl (wX6_commonDivisor_b44 hX    hf)
    · have hf := ite_f h hf
      refine r_lload hX dX6_commonDivisor_16 1 rfl ?_
      refine r_lconst hX dX6_commonDivisor_18 (v := (0 : Int64)) (by decide) ?_
      refine r_lcmp_eq hX dX6_commonDivisor_19 dX6_commonDivisor_20 (tgt := 44) (by decide) (fun h => ?_) (fun h => ?_)
      · have hf := ite_t h hf
        exact J.sub [0] rfl (wX6_commonDivisor_b44 hX    hf)
      · have hf := ite_f h hf
        refine r_lload hX dX6_commonDivisor_23 0 rfl ?_
        refine r_lload hX dX6_commonDivisor_25 1 rfl ?_
        obtain ⟨hd1, hf⟩ := dvL_some hf
        refine r_lrem hX dX6_commonDivisor_27 hd1 ?_
        refine r_lstore hX (i := 9) dX6_commonDivisor_28 (by decide) rfl ?_
        refine r_lload hX dX6_commonDivisor_30 2 rfl ?_
        refine r_lstore hX (i := 4) dX6_commonDivisor_32 (by decide) rfl ?_
        refine r_lload hX dX6_commonDivisor_34 1 rfl ?_
        refine r_lstore hX (i := 6) dX6_commonDivisor_36 (by decide) rfl ?_
        refine r_iincC hX dX6_commonDivisor_38 3 rfl (d := (1 : Int32)) (by decide) (by decide) rfl ?_
        refine r_goto hX dX6_commonDivisor_41 (tgt := 9) (by decide) ?_
        exact J.sub [2, 1, 0] rfl (ih _ _ _  hf)
set_option maxRecDepth 20000 in
set_option maxHeartbeats 2000000 in
theorem wX6_commonDivisor_b0 {X : Cx} {w : Wp} {σ : St} {r : Int64}  {x0 : Int64} {x2 : Int64} (hX : OK X w cX6_commonDivisor 11 RX6 (some .long) (rmz 1 23) (Ql w σ r))    (hf : fX6_commonDivisor x0 x2 = some r) : J X w 11 σ 0 [(0, .long x0), (2, .long x2)] [] := by
  rw [fX6_commonDivisor] at hf
  refine r_lload_n hX dX6_commonDivisor_0 rfl 0 rfl ?_
  refine r_lstore hX (i := 4) dX6_commonDivisor_1 (by decide) rfl ?_
  refine r_lload_n hX dX6_commonDivisor_3 rfl 2 rfl ?_
  refine r_lstore hX (i := 6) dX6_commonDivisor_4 (by decide) rfl ?_
  refine r_iconst hX dX6_commonDivisor_6 (v := (0 : Int32)) (by decide) ?_
  refine r_istore hX (i := 8) dX6_commonDivisor_7 (by decide) rfl ?_
  exact J.sub [2, 1, 0] rfl (wX6_commonDivisor_L9 hX   _ _ _ _  hf)
theorem miX6_commonDivisor : MI yX6_commonDivisor cX6_commonDivisor 11 (some .long) 2 := ⟨g2_121, ⟨by decide, by decide, by decide +kernel⟩, g1_1, by decide +kernel⟩
theorem cX6_commonDivisor_ok (l : Launch) {w : Wp} {σ : St} {r : Int64} {x0 : Int64} {x2 : Int64}   (hf : fX6_commonDivisor x0 x2 = some r) : CM l w yX6_commonDivisor cX6_commonDivisor 11 (some .long) (rmz 1 23) [.long x0, .long x2] σ (Ql w σ r) := CM.of miX6_commonDivisor.2.2.2 (Nat.le_of_ble_eq_true rfl) (fun X hcl hX => J.sub [0, 1] rfl (wX6_commonDivisor_b0 hX   hf))
