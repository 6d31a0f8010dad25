-- ===== the steps that class and reference must do alike, and the law's cases =====
abbrev RelT : Type := St → St → Nat → Prop
def StS {α : Type} (R : RelT) (f g : St → Option (α × St)) : Prop := ∀ σ τ bd, R σ τ bd → ∃ r σ' τ', f σ = some (r, σ') ∧ g τ = some (r, τ') ∧ R σ' τ' bd
def StR {α : Type} (R : RelT) (f g : St → Option α) : Prop := ∀ σ τ bd, R σ τ bd → ∃ r, f σ = some r ∧ g τ = some r
def StM {α : Type} (R : RelT) (f : St → Option α) (g : St → Option (α × St)) : Prop := ∀ σ τ bd, R σ τ bd → ∃ r τ', f σ = some r ∧ g τ = some (r, τ') ∧ R σ τ' bd
def StA {α : Type} (R : RelT) (f : Nat → St → Option (α × St)) (g : St → Option (α × St)) : Prop := ∀ σ τ bd, R σ τ bd → ∃ r σ' τ', f bd σ = some (r, σ') ∧ g τ = some (r, τ') ∧ R σ' τ' (bd + 28)
theorem vin5 {j L : Nat} (h : 6 * j + 6 ≤ L) (hL : L ≤ 3072) (k : Nat) (hk : k ≤ 5) : vp_in (nI (6 * j) + nI k) L := by
  rw [nI_add]
  exact vp_in_nI (by omega) (by omega)
/-- the law's own end -/
def OQ (X : Cx) (b : Nat) : Prop := xa X = #[Value.ref b] ∧ xQ X = lw_Z (xb X) #[Value.ref b] (xs X) ∧ (xM X).sig.returnType = ret ∧ (xM X).locks = false
def LawOK (R : RelT) : Prop := (∀ x1 : Int32, StS R (fun σ => fX6_setDistance σ x1) (fun τ => fX7_setDistance τ x1)) ∧ (∀ x1 x2 x3 : Int32, StA R (fun b σ => fX6_addFigure b σ x1 x2 x3) (fun τ => fX7_addFigure τ x1 x2 x3)) ∧ (∀ x1 x2 x3 x4 : Int32, StS R (fun σ => fX6_addLimb σ x1 x2 x3 x4) (fun τ => fX7_addLimb τ x1 x2 x3 x4)) ∧ (∀ x1 : Int32, StR R (fun σ => fX6_count σ x1) (fun τ => fX7_count τ x1)) ∧ (∀ x1 x2 x3 x4 : Int32, StA R (fun b σ => fX6_addTurn b σ x1 x2 x3 x4) (fun τ => fX7_addTurn τ x1 x2 x3 x4)) ∧ (∀ x1 x2 x3 x4 x5 : Int32, StA R (fun b σ => fX6_addShift b σ x1 x2 x3 x4 x5) (fun τ => fX7_addShift τ x1 x2 x3 x4 x5)) ∧ (∀ x1 : Int32, StS R (fun σ => fX6_removeMoves σ x1) (fun τ => fX7_removeMoves τ x1)) ∧ (∀ x1 x2 x3 x4 : Int32, StS R (fun σ => fX6_position σ x1 x2 x3 x4) (fun τ => fX7_position τ x1 x2 x3 x4)) ∧ (∀ x1 x2 x3 x4 : Int32, StS R (fun σ => fX6_box σ x1 x2 x3 x4) (fun τ => fX7_box τ x1 x2 x3 x4)) ∧ (∀ x1 x2 x3 x4 : Int32, StS R (fun σ => fX6_overlap σ x1 x2 x3 x4) (fun τ => fX7_overlap τ x1 x2 x3 x4)) ∧ (∀ x1 x2 x3 : Int32, StS R (fun σ => fX6_crossings σ x1 x2 x3) (fun τ => fX7_crossings τ x1 x2 x3)) ∧ (∀ x1 x2 x3 : Int32, StS R (fun σ => fX6_nextCrossing σ x1 x2 x3) (fun τ => fX7_nextCrossing τ x1 x2 x3)) ∧ (∀ x1 x2 x3 : Int32, StS R (fun σ => fX6_within σ x1 x2 x3) (fun τ => fX7_within τ x1 x2 x3)) ∧ (∀ x1 : Int32, StS R (fun σ => fX6_highest σ x1) (fun τ => fX7_highest τ x1)) ∧ (∀ x1 x2 x3 : Int32, StS R (fun σ => fX6_planeFor σ x1 x2 x3) (fun τ => fX7_planeFor τ x1 x2 x3)) ∧ (∀ x1 : Int32, StR R (fun σ => fX6_hands σ x1) (fun τ => fX7_hands τ x1)) ∧ (StR R (fun σ => fX6_busiestBeat σ ) (fun τ => fX7_busiestBeat τ )) ∧ (∀ x1 x2 : Int32, StR R (fun σ => fX6_activeRods σ x1 x2) (fun τ => fX7_activeRods τ x1 x2)) ∧ (∀ x1 : Int32, StS R (fun σ => fX6_addScene σ x1) (fun τ => fX7_addScene τ x1)) ∧ (StS R (fun σ => fX6_clearScenes σ ) (fun τ => fX7_clearScenes τ )) ∧ (∀ x1 : Int32, StM R (fun σ => fX6_bestScene σ x1) (fun τ => fX7_bestScene τ x1)) ∧ (StM R (fun σ => fX6_bestCost σ ) (fun τ => fX7_bestCost τ ))

set_option maxRecDepth 20000 in
set_option maxHeartbeats 2000000 in
theorem lc_0 {R : RelT} {X : Cx} {w v : Wp} {σ τ : St} {b L j bd : Nat} {xs' : Nat → Int32} (hstep : ∀ x1 : Int32, StS R (fun σ => fX6_setDistance σ x1) (fun τ => fX7_setDistance τ x1)) (hX : OL X w v b L xs') (hW : CW w) (hV : MW v) (hF : Fre w bd) (hRel : R σ τ bd) (hj : 6 * j + 6 ≤ L) (hL : L ≤ 3072) (hcap : xcl X + 104 ≤ 600000 ∧ xsl X + 3032 ≤ 7302249) (hq : OQ X b) (kk : ∀ (X' : Cx) (w' : Wp) (σ' τ' : St) (bd' : Nat), OL X' w' v b L xs' → CW w' → Fre w' bd' → R σ' τ' bd' → (xcl X' ≤ xcl X + 4 ∧ xsl X' ≤ xsl X + 32) → OQ X' b → JL X' w' v σ' τ' 915 [(3, .int (nI (6 * j))), (1, rf w' 0), (2, rf v 0), (0, .ref b)] []) : JL X w v σ τ 136 [(3, .int (nI (6 * j))), (1, rf w 0), (2, rf v 0), (0, .ref b)] [] := by
  obtain ⟨r, σ', τ', hf1, hf2, hR⟩ := hstep (xs' (ix (nI (6 * j) + (1 : Int32)))) σ τ bd hRel
  refine l_aload hX dL_law_136 rfl 1 rfl ?_
  refine l_aload hX dL_law_137 rfl 3 rfl ?_
  refine l_iload hX dL_law_138 rfl 0 rfl ?_
  refine l_iconst hX dL_law_139 (z := (1 : Int32)) (by decide) ?_
  refine l_iadd hX dL_law_140 ?_
  refine l_sld hX (vin5 hj hL 1 (by decide)) rfl dL_law_141 ?_
  refine l_callCi hX miX6_setDistance hW (fun u hu => cX6_setDistance_ok (xl X) hu hf1) cls6 g1_149 g1_150 g1_151 ⟨(Nat.le_of_ble_eq_true rfl), (Nat.le_of_ble_eq_true rfl)⟩ dL_law_142 rfl (As := [.int (xs' (ix (nI (6 * j) + (1 : Int32))))]) (rest := []) rfl (Nat.le_of_ble_eq_true rfl) ?_
  refine l_aload hX dL_law_145 rfl 2 rfl ?_
  refine l_aload hX dL_law_146 rfl 3 rfl ?_
  refine l_iload hX dL_law_147 rfl 0 rfl ?_
  refine l_iconst hX dL_law_148 (z := (1 : Int32)) (by decide) ?_
  refine l_iadd hX dL_law_149 ?_
  refine l_sld hX (vin5 hj hL 1 (by decide)) rfl dL_law_150 ?_
  refine l_callMi hX miX7_setDistance hV (fun u hu => cX7_setDistance_ok (xl X) hu hf2) cls7 g3_144 g3_145 g3_146 ⟨(Nat.le_of_ble_eq_true rfl), (Nat.le_of_ble_eq_true rfl)⟩ dL_law_151 rfl (As := [.int (xs' (ix (nI (6 * j) + (1 : Int32))))]) (rest := [.int r]) rfl (Nat.le_of_ble_eq_true rfl) ?_
  refine l_same hX dL_law_154 (tgt := 915) (by decide) ?_
  exact kk _ _ _ _ _ hX hW hF hR ⟨by omega, by omega⟩ hq
set_option maxRecDepth 20000 in
set_option maxHeartbeats 2000000 in
theorem lc_1 {R : RelT} {X : Cx} {w v : Wp} {σ τ : St} {b L j bd : Nat} {xs' : Nat → Int32} (hstep : ∀ x1 x2 x3 : Int32, StA R (fun b σ => fX6_addFigure b σ x1 x2 x3) (fun τ => fX7_addFigure τ x1 x2 x3)) (hX : OL X w v b L xs') (hW : CW w) (hV : MW v) (hF : Fre w bd) (hRel : R σ τ bd) (hj : 6 * j + 6 ≤ L) (hL : L ≤ 3072) (hcap : xcl X + 104 ≤ 600000 ∧ xsl X + 3032 ≤ 7302249) (hq : OQ X b) (kk : ∀ (X' : Cx) (w' : Wp) (σ' τ' : St) (bd' : Nat), OL X' w' v b L xs' → CW w' → Fre w' bd' → R σ' τ' bd' → (xcl X' ≤ xcl X + 4 ∧ xsl X' ≤ xsl X + 32) → OQ X' b → JL X' w' v σ' τ' 915 [(3, .int (nI (6 * j))), (1, rf w' 0), (2, rf v 0), (0, .ref b)] []) : JL X w v σ τ 159 [(3, .int (nI (6 * j))), (1, rf w 0), (2, rf v 0), (0, .ref b)] [] := by
  obtain ⟨r, σ', τ', hf1, hf2, hR⟩ := hstep (xs' (ix (nI (6 * j) + (1 : Int32)))) (xs' (ix (nI (6 * j) + (2 : Int32)))) (xs' (ix (nI (6 * j) + (3 : Int32)))) σ τ bd hRel
  refine l_aload hX dL_law_159 rfl 1 rfl ?_
  refine l_aload hX dL_law_160 rfl 3 rfl ?_
  refine l_iload hX dL_law_161 rfl 0 rfl ?_
  refine l_iconst hX dL_law_162 (z := (1 : Int32)) (by decide) ?_
  refine l_iadd hX dL_law_163 ?_
  refine l_sld hX (vin5 hj hL 1 (by decide)) rfl dL_law_164 ?_
  refine l_aload hX dL_law_165 rfl 3 rfl ?_
  refine l_iload hX dL_law_166 rfl 0 rfl ?_
  refine l_iconst hX dL_law_167 (z := (2 : Int32)) (by decide) ?_
  refine l_iadd hX dL_law_168 ?_
  refine l_sld hX (vin5 hj hL 2 (by decide)) rfl dL_law_169 ?_
  refine l_aload hX dL_law_170 rfl 3 rfl ?_
  refine l_iload hX dL_law_171 rfl 0 rfl ?_
  refine l_iconst hX dL_law_172 (z := (3 : Int32)) (by decide) ?_
  refine l_iadd hX dL_law_173 ?_
  refine l_sld hX (vin5 hj hL 3 (by decide)) rfl dL_law_174 ?_
  refine l_callE hX miX6_addFigure hW hF (fun u hu hFu => cX6_addFigure_ok (xl X) hu hFu hf1) cls6 g1_156 g1_157 g1_158 ⟨(Nat.le_of_ble_eq_true rfl), (Nat.le_of_ble_eq_true rfl)⟩ ⟨(Nat.le_of_ble_eq_true rfl), (Nat.le_of_ble_eq_true rfl)⟩ dL_law_175 rfl (As := [.int (xs' (ix (nI (6 * j) + (1 : Int32)))), .int (xs' (ix (nI (6 * j) + (2 : Int32)))), .int (xs' (ix (nI (6 * j) + (3 : Int32))))]) (rest := []) rfl (Nat.le_of_ble_eq_true rfl) hcap (fun w' hX hW hF e0 => ?_)
  rw [show rf w 0 = rf w' 0 from congrArg Value.ref e0.symm]
  refine l_aload hX dL_law_178 rfl 2 rfl ?_
  refine l_aload hX dL_law_179 rfl 3 rfl ?_
  refine l_iload hX dL_law_180 rfl 0 rfl ?_
  refine l_iconst hX dL_law_181 (z := (1 : Int32)) (by decide) ?_
  refine l_iadd hX dL_law_182 ?_
  refine l_sld hX (vin5 hj hL 1 (by decide)) rfl dL_law_183 ?_
  refine l_aload hX dL_law_184 rfl 3 rfl ?_
  refine l_iload hX dL_law_185 rfl 0 rfl ?_
  refine l_iconst hX dL_law_186 (z := (2 : Int32)) (by decide) ?_
  refine l_iadd hX dL_law_187 ?_
  refine l_sld hX (vin5 hj hL 2 (by decide)) rfl dL_law_188 ?_
  refine l_aload hX dL_law_189 rfl 3 rfl ?_
  refine l_iload hX dL_law_190 rfl 0 rfl ?_
  refine l_iconst hX dL_law_191 (z := (3 : Int32)) (by decide) ?_
  refine l_iadd hX dL_law_192 ?_
  refine l_sld hX (vin5 hj hL 3 (by decide)) rfl dL_law_193 ?_
  refine l_callMi hX miX7_addFigure hV (fun u hu => cX7_addFigure_ok (xl X) hu hf2) cls7 g3_151 g3_152 g3_153 ⟨(Nat.le_of_ble_eq_true rfl), (Nat.le_of_ble_eq_true rfl)⟩ dL_law_194 rfl (As := [.int (xs' (ix (nI (6 * j) + (1 : Int32)))), .int (xs' (ix (nI (6 * j) + (2 : Int32)))), .int (xs' (ix (nI (6 * j) + (3 : Int32))))]) (rest := [.int r]) rfl (Nat.le_of_ble_eq_true rfl) ?_
  refine l_same hX dL_law_197 (tgt := 915) (by decide) ?_
  exact kk _ _ _ _ _ hX hW hF hR ⟨by show xcl X + _ ≤ _; omega, by show xsl X + _ ≤ _; omega⟩ hq
set_option maxRecDepth 20000 in
set_option maxHeartbeats 2000000 in
theorem lc_2 {R : RelT} {X : Cx} {w v : Wp} {σ τ : St} {b L j bd : Nat} {xs' : Nat → Int32} (hstep : ∀ x1 x2 x3 x4 : Int32, StS R (fun σ => fX6_addLimb σ x1 x2 x3 x4) (fun τ => fX7_addLimb τ x1 x2 x3 x4)) (hX : OL X w v b L xs') (hW : CW w) (hV : MW v) (hF : Fre w bd) (hRel : R σ τ bd) (hj : 6 * j + 6 ≤ L) (hL : L ≤ 3072) (hcap : xcl X + 104 ≤ 600000 ∧ xsl X + 3032 ≤ 7302249) (hq : OQ X b) (kk : ∀ (X' : Cx) (w' : Wp) (σ' τ' : St) (bd' : Nat), OL X' w' v b L xs' → CW w' → Fre w' bd' → R σ' τ' bd' → (xcl X' ≤ xcl X + 4 ∧ xsl X' ≤ xsl X + 32) → OQ X' b → JL X' w' v σ' τ' 915 [(3, .int (nI (6 * j))), (1, rf w' 0), (2, rf v 0), (0, .ref b)] []) : JL X w v σ τ 202 [(3, .int (nI (6 * j))), (1, rf w 0), (2, rf v 0), (0, .ref b)] [] := by
  obtain ⟨r, σ', τ', hf1, hf2, hR⟩ := hstep (xs' (ix (nI (6 * j) + (1 : Int32)))) (xs' (ix (nI (6 * j) + (2 : Int32)))) (xs' (ix (nI (6 * j) + (3 : Int32)))) (xs' (ix (nI (6 * j) + (4 : Int32)))) σ τ bd hRel
  refine l_aload hX dL_law_202 rfl 1 rfl ?_
  refine l_aload hX dL_law_203 rfl 3 rfl ?_
  refine l_iload hX dL_law_204 rfl 0 rfl ?_
  refine l_iconst hX dL_law_205 (z := (1 : Int32)) (by decide) ?_
  refine l_iadd hX dL_law_206 ?_
  refine l_sld hX (vin5 hj hL 1 (by decide)) rfl dL_law_207 ?_
  refine l_aload hX dL_law_208 rfl 3 rfl ?_
  refine l_iload hX dL_law_209 rfl 0 rfl ?_
  refine l_iconst hX dL_law_210 (z := (2 : Int32)) (by decide) ?_
  refine l_iadd hX dL_law_211 ?_
  refine l_sld hX (vin5 hj hL 2 (by decide)) rfl dL_law_212 ?_
  refine l_aload hX dL_law_213 rfl 3 rfl ?_
  refine l_iload hX dL_law_214 rfl 0 rfl ?_
  refine l_iconst hX dL_law_215 (z := (3 : Int32)) (by decide) ?_
  refine l_iadd hX dL_law_216 ?_
  refine l_sld hX (vin5 hj hL 3 (by decide)) rfl dL_law_217 ?_
  refine l_aload hX dL_law_218 rfl 3 rfl ?_
  refine l_iload hX dL_law_219 rfl 0 rfl ?_
  refine l_iconst hX dL_law_220 (z := (4 : Int32)) (by decide) ?_
  refine l_iadd hX dL_law_221 ?_
  refine l_sld hX (vin5 hj hL 4 (by decide)) rfl dL_law_222 ?_
  refine l_callCi hX miX6_addLimb hW (fun u hu => cX6_addLimb_ok (xl X) hu hf1) cls6 g1_199 g1_200 g1_201 ⟨(Nat.le_of_ble_eq_true rfl), (Nat.le_of_ble_eq_true rfl)⟩ dL_law_223 rfl (As := [.int (xs' (ix (nI (6 * j) + (1 : Int32)))), .int (xs' (ix (nI (6 * j) + (2 : Int32)))), .int (xs' (ix (nI (6 * j) + (3 : Int32)))), .int (xs' (ix (nI (6 * j) + (4 : Int32))))]) (rest := []) rfl (Nat.le_of_ble_eq_true rfl) ?_
  refine l_aload hX dL_law_226 rfl 2 rfl ?_
  refine l_aload hX dL_law_227 rfl 3 rfl ?_
  refine l_iload hX dL_law_228 rfl 0 rfl ?_
  refine l_iconst hX dL_law_229 (z := (1 : Int32)) (by decide) ?_
  refine l_iadd hX dL_law_230 ?_
  refine l_sld hX (vin5 hj hL 1 (by decide)) rfl dL_law_231 ?_
  refine l_aload hX dL_law_232 rfl 3 rfl ?_
  refine l_iload hX dL_law_233 rfl 0 rfl ?_
  refine l_iconst hX dL_law_234 (z := (2 : Int32)) (by decide) ?_
  refine l_iadd hX dL_law_235 ?_
  refine l_sld hX (vin5 hj hL 2 (by decide)) rfl dL_law_236 ?_
  refine l_aload hX dL_law_237 rfl 3 rfl ?_
  refine l_iload hX dL_law_238 rfl 0 rfl ?_
  refine l_iconst hX dL_law_239 (z := (3 : Int32)) (by decide) ?_
  refine l_iadd hX dL_law_240 ?_
  refine l_sld hX (vin5 hj hL 3 (by decide)) rfl dL_law_241 ?_
  refine l_aload hX dL_law_242 rfl 3 rfl ?_
  refine l_iload hX dL_law_243 rfl 0 rfl ?_
  refine l_iconst hX dL_law_244 (z := (4 : Int32)) (by decide) ?_
  refine l_iadd hX dL_law_245 ?_
  refine l_sld hX (vin5 hj hL 4 (by decide)) rfl dL_law_246 ?_
  refine l_callMi hX miX7_addLimb hV (fun u hu => cX7_addLimb_ok (xl X) hu hf2) cls7 g3_155 g3_156 g3_157 ⟨(Nat.le_of_ble_eq_true rfl), (Nat.le_of_ble_eq_true rfl)⟩ dL_law_247 rfl (As := [.int (xs' (ix (nI (6 * j) + (1 : Int32)))), .int (xs' (ix (nI (6 * j) + (2 : Int32)))), .int (xs' (ix (nI (6 * j) + (3 : Int32)))), .int (xs' (ix (nI (6 * j) + (4 : Int32))))]) (rest := [.int r]) rfl (Nat.le_of_ble_eq_true rfl) ?_
  refine l_same hX dL_law_250 (tgt := 915) (by decide) ?_
  exact kk _ _ _ _ _ hX hW hF hR ⟨by omega, by omega⟩ hq
set_option maxRecDepth 20000 in
set_option maxHeartbeats 2000000 in
theorem lc_3 {R : RelT} {X : Cx} {w v : Wp} {σ τ : St} {b L j bd : Nat} {xs' : Nat → Int32} (hstep : ∀ x1 : Int32, StR R (fun σ => fX6_count σ x1) (fun τ => fX7_count τ x1)) (hX : OL X w v b L xs') (hW : CW w) (hV : MW v) (hF : Fre w bd) (hRel : R σ τ bd) (hj : 6 * j + 6 ≤ L) (hL : L ≤ 3072) (hcap : xcl X + 104 ≤ 600000 ∧ xsl X + 3032 ≤ 7302249) (hq : OQ X b) (kk : ∀ (X' : Cx) (w' : Wp) (σ' τ' : St) (bd' : Nat), OL X' w' v b L xs' → CW w' → Fre w' bd' → R σ' τ' bd' → (xcl X' ≤ xcl X + 4 ∧ xsl X' ≤ xsl X + 32) → OQ X' b → JL X' w' v σ' τ' 915 [(3, .int (nI (6 * j))), (1, rf w' 0), (2, rf v 0), (0, .ref b)] []) : JL X w v σ τ 255 [(3, .int (nI (6 * j))), (1, rf w 0), (2, rf v 0), (0, .ref b)] [] := by
  obtain ⟨r, hf1, hf2⟩ := hstep (xs' (ix (nI (6 * j) + (1 : Int32)))) σ τ bd hRel
  refine l_aload hX dL_law_255 rfl 1 rfl ?_
  refine l_aload hX dL_law_256 rfl 3 rfl ?_
  refine l_iload hX dL_law_257 rfl 0 rfl ?_
  refine l_iconst hX dL_law_258 (z := (1 : Int32)) (by decide) ?_
  refine l_iadd hX dL_law_259 ?_
  refine l_sld hX (vin5 hj hL 1 (by decide)) rfl dL_law_260 ?_
  refine l_callCi hX miX6_count hW (fun u hu => cX6_count_ok (xl X) hu hf1) cls6 g1_216 g1_217 g1_218 ⟨(Nat.le_of_ble_eq_true rfl), (Nat.le_of_ble_eq_true rfl)⟩ dL_law_261 rfl (As := [.int (xs' (ix (nI (6 * j) + (1 : Int32))))]) (rest := []) rfl (Nat.le_of_ble_eq_true rfl) ?_
  refine l_aload hX dL_law_264 rfl 2 rfl ?_
  refine l_aload hX dL_law_265 rfl 3 rfl ?_
  refine l_iload hX dL_law_266 rfl 0 rfl ?_
  refine l_iconst hX dL_law_267 (z := (1 : Int32)) (by decide) ?_
  refine l_iadd hX dL_law_268 ?_
  refine l_sld hX (vin5 hj hL 1 (by decide)) rfl dL_law_269 ?_
  refine l_callMi hX miX7_count hV (fun u hu => cX7_count_ok (xl X) hu hf2) cls7 g3_167 g3_168 g3_169 ⟨(Nat.le_of_ble_eq_true rfl), (Nat.le_of_ble_eq_true rfl)⟩ dL_law_270 rfl (As := [.int (xs' (ix (nI (6 * j) + (1 : Int32))))]) (rest := [.int r]) rfl (Nat.le_of_ble_eq_true rfl) ?_
  refine l_same hX dL_law_273 (tgt := 915) (by decide) ?_
  exact kk _ _ _ _ _ hX hW hF hRel ⟨by omega, by omega⟩ hq
set_option maxRecDepth 20000 in
set_option maxHeartbeats 2000000 in
theorem lc_4 {R : RelT} {X : Cx} {w v : Wp} {σ τ : St} {b L j bd : Nat} {xs' : Nat → Int32} (hstep : ∀ x1 x2 x3 x4 : Int32, StA R (fun b σ => fX6_addTurn b σ x1 x2 x3 x4) (fun τ => fX7_addTurn τ x1 x2 x3 x4)) (hX : OL X w v b L xs') (hW : CW w) (hV : MW v) (hF : Fre w bd) (hRel : R σ τ bd) (hj : 6 * j + 6 ≤ L) (hL : L ≤ 3072) (hcap : xcl X + 104 ≤ 600000 ∧ xsl X + 3032 ≤ 7302249) (hq : OQ X b) (kk : ∀ (X' : Cx) (w' : Wp) (σ' τ' : St) (bd' : Nat), OL X' w' v b L xs' → CW w' → Fre w' bd' → R σ' τ' bd' → (xcl X' ≤ xcl X + 4 ∧ xsl X' ≤ xsl X + 32) → OQ X' b → JL X' w' v σ' τ' 915 [(3, .int (nI (6 * j))), (1, rf w' 0), (2, rf v 0), (0, .ref b)] []) : JL X w v σ τ 278 [(3, .int (nI (6 * j))), (1, rf w 0), (2, rf v 0), (0, .ref b)] [] := by
  obtain ⟨r, σ', τ', hf1, hf2, hR⟩ := hstep (xs' (ix (nI (6 * j) + (1 : Int32)))) (xs' (ix (nI (6 * j) + (2 : Int32)))) (xs' (ix (nI (6 * j) + (3 : Int32)))) (xs' (ix (nI (6 * j) + (4 : Int32)))) σ τ bd hRel
  refine l_aload hX dL_law_278 rfl 1 rfl ?_
  refine l_aload hX dL_law_279 rfl 3 rfl ?_
  refine l_iload hX dL_law_280 rfl 0 rfl ?_
  refine l_iconst hX dL_law_281 (z := (1 : Int32)) (by decide) ?_
  refine l_iadd hX dL_law_282 ?_
  refine l_sld hX (vin5 hj hL 1 (by decide)) rfl dL_law_283 ?_
  refine l_aload hX dL_law_284 rfl 3 rfl ?_
  refine l_iload hX dL_law_285 rfl 0 rfl ?_
  refine l_iconst hX dL_law_286 (z := (2 : Int32)) (by decide) ?_
  refine l_iadd hX dL_law_287 ?_
  refine l_sld hX (vin5 hj hL 2 (by decide)) rfl dL_law_288 ?_
  refine l_aload hX dL_law_289 rfl 3 rfl ?_
  refine l_iload hX dL_law_290 rfl 0 rfl ?_
  refine l_iconst hX dL_law_291 (z := (3 : Int32)) (by decide) ?_
  refine l_iadd hX dL_law_292 ?_
  refine l_sld hX (vin5 hj hL 3 (by decide)) rfl dL_law_293 ?_
  refine l_aload hX dL_law_294 rfl 3 rfl ?_
  refine l_iload hX dL_law_295 rfl 0 rfl ?_
  refine l_iconst hX dL_law_296 (z := (4 : Int32)) (by decide) ?_
  refine l_iadd hX dL_law_297 ?_
  refine l_sld hX (vin5 hj hL 4 (by decide)) rfl dL_law_298 ?_
  refine l_callE hX miX6_addTurn hW hF (fun u hu hFu => cX6_addTurn_ok (xl X) hu hFu hf1) cls6 g1_224 g1_225 g1_226 ⟨(Nat.le_of_ble_eq_true rfl), (Nat.le_of_ble_eq_true rfl)⟩ ⟨(Nat.le_of_ble_eq_true rfl), (Nat.le_of_ble_eq_true rfl)⟩ dL_law_299 rfl (As := [.int (xs' (ix (nI (6 * j) + (1 : Int32)))), .int (xs' (ix (nI (6 * j) + (2 : Int32)))), .int (xs' (ix (nI (6 * j) + (3 : Int32)))), .int (xs' (ix (nI (6 * j) + (4 : Int32))))]) (rest := []) rfl (Nat.le_of_ble_eq_true rfl) hcap (fun w' hX hW hF e0 => ?_)
  rw [show rf w 0 = rf w' 0 from congrArg Value.ref e0.symm]
  refine l_aload hX dL_law_302 rfl 2 rfl ?_
  refine l_aload hX dL_law_303 rfl 3 rfl ?_
  refine l_iload hX dL_law_304 rfl 0 rfl ?_
  refine l_iconst hX dL_law_305 (z := (1 : Int32)) (by decide) ?_
  refine l_iadd hX dL_law_306 ?_
  refine l_sld hX (vin5 hj hL 1 (by decide)) rfl dL_law_307 ?_
  refine l_aload hX dL_law_308 rfl 3 rfl ?_
  refine l_iload hX dL_law_309 rfl 0 rfl ?_
  refine l_iconst hX dL_law_310 (z := (2 : Int32)) (by decide) ?_
  refine l_iadd hX dL_law_311 ?_
  refine l_sld hX (vin5 hj hL 2 (by decide)) rfl dL_law_312 ?_
  refine l_aload hX dL_law_313 rfl 3 rfl ?_
  refine l_iload hX dL_law_314 rfl 0 rfl ?_
  refine l_iconst hX dL_law_315 (z := (3 : Int32)) (by decide) ?_
  refine l_iadd hX dL_law_316 ?_
  refine l_sld hX (vin5 hj hL 3 (by decide)) rfl dL_law_317 ?_
  refine l_aload hX dL_law_318 rfl 3 rfl ?_
  refine l_iload hX dL_law_319 rfl 0 rfl ?_
  refine l_iconst hX dL_law_320 (z := (4 : Int32)) (by decide) ?_
  refine l_iadd hX dL_law_321 ?_
  refine l_sld hX (vin5 hj hL 4 (by decide)) rfl dL_law_322 ?_
  refine l_callMi hX miX7_addTurn hV (fun u hu => cX7_addTurn_ok (xl X) hu hf2) cls7 g3_171 g3_172 g3_173 ⟨(Nat.le_of_ble_eq_true rfl), (Nat.le_of_ble_eq_true rfl)⟩ dL_law_323 rfl (As := [.int (xs' (ix (nI (6 * j) + (1 : Int32)))), .int (xs' (ix (nI (6 * j) + (2 : Int32)))), .int (xs' (ix (nI (6 * j) + (3 : Int32)))), .int (xs' (ix (nI (6 * j) + (4 : Int32))))]) (rest := [.int r]) rfl (Nat.le_of_ble_eq_true rfl) ?_
  refine l_same hX dL_law_326 (tgt := 915) (by decide) ?_
  exact kk _ _ _ _ _ hX hW hF hR ⟨by show xcl X + _ ≤ _; omega, by show xsl X + _ ≤ _; omega⟩ hq
set_option maxRecDepth 20000 in
set_option maxHeartbeats 2000000 in
theorem lc_5 {R : RelT} {X : Cx} {w v : Wp} {σ τ : St} {b L j bd : Nat} {xs' : Nat → Int32} (hstep : ∀ x1 x2 x3 x4 x5 : Int32, StA R (fun b σ => fX6_addShift b σ x1 x2 x3 x4 x5) (fun τ => fX7_addShift τ x1 x2 x3 x4 x5)) (hX : OL X w v b L xs') (hW : CW w) (hV : MW v) (hF : Fre w bd) (hRel : R σ τ bd) (hj : 6 * j + 6 ≤ L) (hL : L ≤ 3072) (hcap : xcl X + 104 ≤ 600000 ∧ xsl X + 3032 ≤ 7302249) (hq : OQ X b) (kk : ∀ (X' : Cx) (w' : Wp) (σ' τ' : St) (bd' : Nat), OL X' w' v b L xs' → CW w' → Fre w' bd' → R σ' τ' bd' → (xcl X' ≤ xcl X + 4 ∧ xsl X' ≤ xsl X + 32) → OQ X' b → JL X' w' v σ' τ' 915 [(3, .int (nI (6 * j))), (1, rf w' 0), (2, rf v 0), (0, .ref b)] []) : JL X w v σ τ 331 [(3, .int (nI (6 * j))), (1, rf w 0), (2, rf v 0), (0, .ref b)] [] := by
  obtain ⟨r, σ', τ', hf1, hf2, hR⟩ := hstep (xs' (ix (nI (6 * j) + (1 : Int32)))) (xs' (ix (nI (6 * j) + (2 : Int32)))) (xs' (ix (nI (6 * j) + (3 : Int32)))) (xs' (ix (nI (6 * j) + (4 : Int32)))) (xs' (ix (nI (6 * j) + (5 : Int32)))) σ τ bd hRel
  refine l_aload hX dL_law_331 rfl 1 rfl ?_
  refine l_aload hX dL_law_332 rfl 3 rfl ?_
  refine l_iload hX dL_law_333 rfl 0 rfl ?_
  refine l_iconst hX dL_law_334 (z := (1 : Int32)) (by decide) ?_
  refine l_iadd hX dL_law_335 ?_
  refine l_sld hX (vin5 hj hL 1 (by decide)) rfl dL_law_336 ?_
  refine l_aload hX dL_law_337 rfl 3 rfl ?_
  refine l_iload hX dL_law_338 rfl 0 rfl ?_
  refine l_iconst hX dL_law_339 (z := (2 : Int32)) (by decide) ?_
  refine l_iadd hX dL_law_340 ?_
  refine l_sld hX (vin5 hj hL 2 (by decide)) rfl dL_law_341 ?_
  refine l_aload hX dL_law_342 rfl 3 rfl ?_
  refine l_iload hX dL_law_343 rfl 0 rfl ?_
  refine l_iconst hX dL_law_344 (z := (3 : Int32)) (by decide) ?_
  refine l_iadd hX dL_law_345 ?_
  refine l_sld hX (vin5 hj hL 3 (by decide)) rfl dL_law_346 ?_
  refine l_aload hX dL_law_347 rfl 3 rfl ?_
  refine l_iload hX dL_law_348 rfl 0 rfl ?_
  refine l_iconst hX dL_law_349 (z := (4 : Int32)) (by decide) ?_
  refine l_iadd hX dL_law_350 ?_
  refine l_sld hX (vin5 hj hL 4 (by decide)) rfl dL_law_351 ?_
  refine l_aload hX dL_law_352 rfl 3 rfl ?_
  refine l_iload hX dL_law_353 rfl 0 rfl ?_
  refine l_iconst hX dL_law_354 (z := (5 : Int32)) (by decide) ?_
  refine l_iadd hX dL_law_355 ?_
  refine l_sld hX (vin5 hj hL 5 (by decide)) rfl dL_law_356 ?_
  refine l_callE hX miX6_addShift hW hF (fun u hu hFu => cX6_addShift_ok (xl X) hu hFu hf1) cls6 g2_44 g2_45 g2_46 ⟨(Nat.le_of_ble_eq_true rfl), (Nat.le_of_ble_eq_true rfl)⟩ ⟨(Nat.le_of_ble_eq_true rfl), (Nat.le_of_ble_eq_true rfl)⟩ dL_law_357 rfl (As := [.int (xs' (ix (nI (6 * j) + (1 : Int32)))), .int (xs' (ix (nI (6 * j) + (2 : Int32)))), .int (xs' (ix (nI (6 * j) + (3 : Int32)))), .int (xs' (ix (nI (6 * j) + (4 : Int32)))), .int (xs' (ix (nI (6 * j) + (5 : Int32))))]) (rest := []) rfl (Nat.le_of_ble_eq_true rfl) hcap (fun w' hX hW hF e0 => ?_)
  rw [show rf w 0 = rf w' 0 from congrArg Value.ref e0.symm]
  refine l_aload hX dL_law_360 rfl 2 rfl ?_
  refine l_aload hX dL_law_361 rfl 3 rfl ?_
  refine l_iload hX dL_law_362 rfl 0 rfl ?_
  refine l_iconst hX dL_law_363 (z := (1 : Int32)) (by decide) ?_
  refine l_iadd hX dL_law_364 ?_
  refine l_sld hX (vin5 hj hL 1 (by decide)) rfl dL_law_365 ?_
  refine l_aload hX dL_law_366 rfl 3 rfl ?_
  refine l_iload hX dL_law_367 rfl 0 rfl ?_
  refine l_iconst hX dL_law_368 (z := (2 : Int32)) (by decide) ?_
  refine l_iadd hX dL_law_369 ?_
  refine l_sld hX (vin5 hj hL 2 (by decide)) rfl dL_law_370 ?_
  refine l_aload hX dL_law_371 rfl 3 rfl ?_
  refine l_iload hX dL_law_372 rfl 0 rfl ?_
  refine l_iconst hX dL_law_373 (z := (3 : Int32)) (by decide) ?_
  refine l_iadd hX dL_law_374 ?_
  refine l_sld hX (vin5 hj hL 3 (by decide)) rfl dL_law_375 ?_
  refine l_aload hX dL_law_376 rfl 3 rfl ?_
  refine l_iload hX dL_law_377 rfl 0 rfl ?_
  refine l_iconst hX dL_law_378 (z := (4 : Int32)) (by decide) ?_
  refine l_iadd hX dL_law_379 ?_
  refine l_sld hX (vin5 hj hL 4 (by decide)) rfl dL_law_380 ?_
  refine l_aload hX dL_law_381 rfl 3 rfl ?_
  refine l_iload hX dL_law_382 rfl 0 rfl ?_
  refine l_iconst hX dL_law_383 (z := (5 : Int32)) (by decide) ?_
  refine l_iadd hX dL_law_384 ?_
  refine l_sld hX (vin5 hj hL 5 (by decide)) rfl dL_law_385 ?_
  refine l_callMi hX miX7_addShift hV (fun u hu => cX7_addShift_ok (xl X) hu hf2) cls7 g3_182 g3_183 g3_184 ⟨(Nat.le_of_ble_eq_true rfl), (Nat.le_of_ble_eq_true rfl)⟩ dL_law_386 rfl (As := [.int (xs' (ix (nI (6 * j) + (1 : Int32)))), .int (xs' (ix (nI (6 * j) + (2 : Int32)))), .int (xs' (ix (nI (6 * j) + (3 : Int32)))), .int (xs' (ix (nI (6 * j) + (4 : Int32)))), .int (xs' (ix (nI (6 * j) + (5 : Int32))))]) (rest := [.int r]) rfl (Nat.le_of_ble_eq_true rfl) ?_
  refine l_same hX dL_law_389 (tgt := 915) (by decide) ?_
  exact kk _ _ _ _ _ hX hW hF hR ⟨by show xcl X + _ ≤ _; omega, by show xsl X + _ ≤ _; omega⟩ hq
set_option maxRecDepth 20000 in
set_option maxHeartbeats 2000000 in
theorem lc_6 {R : RelT} {X : Cx} {w v : Wp} {σ τ : St} {b L j bd : Nat} {xs' : Nat → Int32} (hstep : ∀ x1 : Int32, StS R (fun σ => fX6_removeMoves σ x1) (fun τ => fX7_removeMoves τ x1)) (hX : OL X w v b L xs') (hW : CW w) (hV : MW v) (hF : Fre w bd) (hRel : R σ τ bd) (hj : 6 * j + 6 ≤ L) (hL : L ≤ 3072) (hcap : xcl X + 104 ≤ 600000 ∧ xsl X + 3032 ≤ 7302249) (hq : OQ X b) (kk : ∀ (X' : Cx) (w' : Wp) (σ' τ' : St) (bd' : Nat), OL X' w' v b L xs' → CW w' → Fre w' bd' → R σ' τ' bd' → (xcl X' ≤ xcl X + 4 ∧ xsl X' ≤ xsl X + 32) → OQ X' b → JL X' w' v σ' τ' 915 [(3, .int (nI (6 * j))), (1, rf w' 0), (2, rf v 0), (0, .ref b)] []) : JL X w v σ τ 394 [(3, .int (nI (6 * j))), (1, rf w 0), (2, rf v 0), (0, .ref b)] [] := by
  obtain ⟨r, σ', τ', hf1, hf2, hR⟩ := hstep (xs' (ix (nI (6 * j) + (1 : Int32)))) σ τ bd hRel
  refine l_aload hX dL_law_394 rfl 1 rfl ?_
  refine l_aload hX dL_law_395 rfl 3 rfl ?_
  refine l_iload hX dL_law_396 rfl 0 rfl ?_
  refine l_iconst hX dL_law_397 (z := (1 : Int32)) (by decide) ?_
  refine l_iadd hX dL_law_398 ?_
  refine l_sld hX (vin5 hj hL 1 (by decide)) rfl dL_law_399 ?_
  refine l_callCi hX miX6_removeMoves hW (fun u hu => cX6_removeMoves_ok (xl X) hu hf1) cls6 g2_48 g2_49 g2_50 ⟨(Nat.le_of_ble_eq_true rfl), (Nat.le_of_ble_eq_true rfl)⟩ dL_law_400 rfl (As := [.int (xs' (ix (nI (6 * j) + (1 : Int32))))]) (rest := []) rfl (Nat.le_of_ble_eq_true rfl) ?_
  refine l_aload hX dL_law_403 rfl 2 rfl ?_
  refine l_aload hX dL_law_404 rfl 3 rfl ?_
  refine l_iload hX dL_law_405 rfl 0 rfl ?_
  refine l_iconst hX dL_law_406 (z := (1 : Int32)) (by decide) ?_
  refine l_iadd hX dL_law_407 ?_
  refine l_sld hX (vin5 hj hL 1 (by decide)) rfl dL_law_408 ?_
  refine l_callMi hX miX7_removeMoves hV (fun u hu => cX7_removeMoves_ok (xl X) hu hf2) cls7 g3_186 g3_187 g3_188 ⟨(Nat.le_of_ble_eq_true rfl), (Nat.le_of_ble_eq_true rfl)⟩ dL_law_409 rfl (As := [.int (xs' (ix (nI (6 * j) + (1 : Int32))))]) (rest := [.int r]) rfl (Nat.le_of_ble_eq_true rfl) ?_
  refine l_same hX dL_law_412 (tgt := 915) (by decide) ?_
  exact kk _ _ _ _ _ hX hW hF hR ⟨by omega, by omega⟩ hq
set_option maxRecDepth 20000 in
set_option maxHeartbeats 2000000 in
theorem lc_7 {R : RelT} {X : Cx} {w v : Wp} {σ τ : St} {b L j bd : Nat} {xs' : Nat → Int32} (hstep : ∀ x1 x2 x3 x4 : Int32, StS R (fun σ => fX6_position σ x1 x2 x3 x4) (fun τ => fX7_position τ x1 x2 x3 x4)) (hX : OL X w v b L xs') (hW : CW w) (hV : MW v) (hF : Fre w bd) (hRel : R σ τ bd) (hj : 6 * j + 6 ≤ L) (hL : L ≤ 3072) (hcap : xcl X + 104 ≤ 600000 ∧ xsl X + 3032 ≤ 7302249) (hq : OQ X b) (kk : ∀ (X' : Cx) (w' : Wp) (σ' τ' : St) (bd' : Nat), OL X' w' v b L xs' → CW w' → Fre w' bd' → R σ' τ' bd' → (xcl X' ≤ xcl X + 4 ∧ xsl X' ≤ xsl X + 32) → OQ X' b → JL X' w' v σ' τ' 915 [(3, .int (nI (6 * j))), (1, rf w' 0), (2, rf v 0), (0, .ref b)] []) : JL X w v σ τ 417 [(3, .int (nI (6 * j))), (1, rf w 0), (2, rf v 0), (0, .ref b)] [] := by
  obtain ⟨r, σ', τ', hf1, hf2, hR⟩ := hstep (xs' (ix (nI (6 * j) + (1 : Int32)))) (xs' (ix (nI (6 * j) + (2 : Int32)))) (xs' (ix (nI (6 * j) + (3 : Int32)))) (xs' (ix (nI (6 * j) + (4 : Int32)))) σ τ bd hRel
  refine l_aload hX dL_law_417 rfl 1 rfl ?_
  refine l_aload hX dL_law_418 rfl 3 rfl ?_
  refine l_iload hX dL_law_419 rfl 0 rfl ?_
  refine l_iconst hX dL_law_420 (z := (1 : Int32)) (by decide) ?_
  refine l_iadd hX dL_law_421 ?_
  refine l_sld hX (vin5 hj hL 1 (by decide)) rfl dL_law_422 ?_
  refine l_aload hX dL_law_423 rfl 3 rfl ?_
  refine l_iload hX dL_law_424 rfl 0 rfl ?_
  refine l_iconst hX dL_law_425 (z := (2 : Int32)) (by decide) ?_
  refine l_iadd hX dL_law_426 ?_
  refine l_sld hX (vin5 hj hL 2 (by decide)) rfl dL_law_427 ?_
  refine l_aload hX dL_law_428 rfl 3 rfl ?_
  refine l_iload hX dL_law_429 rfl 0 rfl ?_
  refine l_iconst hX dL_law_430 (z := (3 : Int32)) (by decide) ?_
  refine l_iadd hX dL_law_431 ?_
  refine l_sld hX (vin5 hj hL 3 (by decide)) rfl dL_law_432 ?_
  refine l_aload hX dL_law_433 rfl 3 rfl ?_
  refine l_iload hX dL_law_434 rfl 0 rfl ?_
  refine l_iconst hX dL_law_435 (z := (4 : Int32)) (by decide) ?_
  refine l_iadd hX dL_law_436 ?_
  refine l_sld hX (vin5 hj hL 4 (by decide)) rfl dL_law_437 ?_
  refine l_callCl hX miX6_position hW (fun u hu => cX6_position_ok (xl X) hu hf1) cls6 g2_56 g2_57 g2_58 ⟨(Nat.le_of_ble_eq_true rfl), (Nat.le_of_ble_eq_true rfl)⟩ dL_law_438 rfl (As := [.int (xs' (ix (nI (6 * j) + (1 : Int32)))), .int (xs' (ix (nI (6 * j) + (2 : Int32)))), .int (xs' (ix (nI (6 * j) + (3 : Int32)))), .int (xs' (ix (nI (6 * j) + (4 : Int32))))]) (rest := []) rfl (Nat.le_of_ble_eq_true rfl) ?_
  refine l_aload hX dL_law_441 rfl 2 rfl ?_
  refine l_aload hX dL_law_442 rfl 3 rfl ?_
  refine l_iload hX dL_law_443 rfl 0 rfl ?_
  refine l_iconst hX dL_law_444 (z := (1 : Int32)) (by decide) ?_
  refine l_iadd hX dL_law_445 ?_
  refine l_sld hX (vin5 hj hL 1 (by decide)) rfl dL_law_446 ?_
  refine l_aload hX dL_law_447 rfl 3 rfl ?_
  refine l_iload hX dL_law_448 rfl 0 rfl ?_
  refine l_iconst hX dL_law_449 (z := (2 : Int32)) (by decide) ?_
  refine l_iadd hX dL_law_450 ?_
  refine l_sld hX (vin5 hj hL 2 (by decide)) rfl dL_law_451 ?_
  refine l_aload hX dL_law_452 rfl 3 rfl ?_
  refine l_iload hX dL_law_453 rfl 0 rfl ?_
  refine l_iconst hX dL_law_454 (z := (3 : Int32)) (by decide) ?_
  refine l_iadd hX dL_law_455 ?_
  refine l_sld hX (vin5 hj hL 3 (by decide)) rfl dL_law_456 ?_
  refine l_aload hX dL_law_457 rfl 3 rfl ?_
  refine l_iload hX dL_law_458 rfl 0 rfl ?_
  refine l_iconst hX dL_law_459 (z := (4 : Int32)) (by decide) ?_
  refine l_iadd hX dL_law_460 ?_
  refine l_sld hX (vin5 hj hL 4 (by decide)) rfl dL_law_461 ?_
  refine l_callMl hX miX7_position hV (fun u hu => cX7_position_ok (xl X) hu hf2) cls7 g3_190 g3_191 g3_192 ⟨(Nat.le_of_ble_eq_true rfl), (Nat.le_of_ble_eq_true rfl)⟩ dL_law_462 rfl (As := [.int (xs' (ix (nI (6 * j) + (1 : Int32)))), .int (xs' (ix (nI (6 * j) + (2 : Int32)))), .int (xs' (ix (nI (6 * j) + (3 : Int32)))), .int (xs' (ix (nI (6 * j) + (4 : Int32))))]) (rest := [.long r]) rfl (Nat.le_of_ble_eq_true rfl) ?_
  refine l_sameL hX dL_law_465 dL_law_466 (tgt := 915) (by decide) ?_
  exact kk _ _ _ _ _ hX hW hF hR ⟨by omega, by omega⟩ hq
set_option maxRecDepth 20000 in
set_option maxHeartbeats 2000000 in
theorem lc_8 {R : RelT} {X : Cx} {w v : Wp} {σ τ : St} {b L j bd : Nat} {xs' : Nat → Int32} (hstep : ∀ x1 x2 x3 x4 : Int32, StS R (fun σ => fX6_box σ x1 x2 x3 x4) (fun τ => fX7_box τ x1 x2 x3 x4)) (hX : OL X w v b L xs') (hW : CW w) (hV : MW v) (hF : Fre w bd) (hRel : R σ τ bd) (hj : 6 * j + 6 ≤ L) (hL : L ≤ 3072) (hcap : xcl X + 104 ≤ 600000 ∧ xsl X + 3032 ≤ 7302249) (hq : OQ X b) (kk : ∀ (X' : Cx) (w' : Wp) (σ' τ' : St) (bd' : Nat), OL X' w' v b L xs' → CW w' → Fre w' bd' → R σ' τ' bd' → (xcl X' ≤ xcl X + 4 ∧ xsl X' ≤ xsl X + 32) → OQ X' b → JL X' w' v σ' τ' 915 [(3, .int (nI (6 * j))), (1, rf w' 0), (2, rf v 0), (0, .ref b)] []) : JL X w v σ τ 471 [(3, .int (nI (6 * j))), (1, rf w 0), (2, rf v 0), (0, .ref b)] [] := by
  obtain ⟨r, σ', τ', hf1, hf2, hR⟩ := hstep (xs' (ix (nI (6 * j) + (1 : Int32)))) (xs' (ix (nI (6 * j) + (2 : Int32)))) (xs' (ix (nI (6 * j) + (3 : Int32)))) (xs' (ix (nI (6 * j) + (4 : Int32)))) σ τ bd hRel
  refine l_aload hX dL_law_471 rfl 1 rfl ?_
  refine l_aload hX dL_law_472 rfl 3 rfl ?_
  refine l_iload hX dL_law_473 rfl 0 rfl ?_
  refine l_iconst hX dL_law_474 (z := (1 : Int32)) (by decide) ?_
  refine l_iadd hX dL_law_475 ?_
  refine l_sld hX (vin5 hj hL 1 (by decide)) rfl dL_law_476 ?_
  refine l_aload hX dL_law_477 rfl 3 rfl ?_
  refine l_iload hX dL_law_478 rfl 0 rfl ?_
  refine l_iconst hX dL_law_479 (z := (2 : Int32)) (by decide) ?_
  refine l_iadd hX dL_law_480 ?_
  refine l_sld hX (vin5 hj hL 2 (by decide)) rfl dL_law_481 ?_
  refine l_aload hX dL_law_482 rfl 3 rfl ?_
  refine l_iload hX dL_law_483 rfl 0 rfl ?_
  refine l_iconst hX dL_law_484 (z := (3 : Int32)) (by decide) ?_
  refine l_iadd hX dL_law_485 ?_
  refine l_sld hX (vin5 hj hL 3 (by decide)) rfl dL_law_486 ?_
  refine l_aload hX dL_law_487 rfl 3 rfl ?_
  refine l_iload hX dL_law_488 rfl 0 rfl ?_
  refine l_iconst hX dL_law_489 (z := (4 : Int32)) (by decide) ?_
  refine l_iadd hX dL_law_490 ?_
  refine l_sld hX (vin5 hj hL 4 (by decide)) rfl dL_law_491 ?_
  refine l_callCl hX miX6_box hW (fun u hu => cX6_box_ok (xl X) hu hf1) cls6 g2_101 g2_102 g2_103 ⟨(Nat.le_of_ble_eq_true rfl), (Nat.le_of_ble_eq_true rfl)⟩ dL_law_492 rfl (As := [.int (xs' (ix (nI (6 * j) + (1 : Int32)))), .int (xs' (ix (nI (6 * j) + (2 : Int32)))), .int (xs' (ix (nI (6 * j) + (3 : Int32)))), .int (xs' (ix (nI (6 * j) + (4 : Int32))))]) (rest := []) rfl (Nat.le_of_ble_eq_true rfl) ?_
  refine l_aload hX dL_law_495 rfl 2 rfl ?_
  refine l_aload hX dL_law_496 rfl 3 rfl ?_
  refine l_iload hX dL_law_497 rfl 0 rfl ?_
  refine l_iconst hX dL_law_498 (z := (1 : Int32)) (by decide) ?_
  refine l_iadd hX dL_law_499 ?_
  refine l_sld hX (vin5 hj hL 1 (by decide)) rfl dL_law_500 ?_
  refine l_aload hX dL_law_501 rfl 3 rfl ?_
  refine l_iload hX dL_law_502 rfl 0 rfl ?_
  refine l_iconst hX dL_law_503 (z := (2 : Int32)) (by decide) ?_
  refine l_iadd hX dL_law_504 ?_
  refine l_sld hX (vin5 hj hL 2 (by decide)) rfl dL_law_505 ?_
  refine l_aload hX dL_law_506 rfl 3 rfl ?_
  refine l_iload hX dL_law_507 rfl 0 rfl ?_
  refine l_iconst hX dL_law_508 (z := (3 : Int32)) (by decide) ?_
  refine l_iadd hX dL_law_509 ?_
  refine l_sld hX (vin5 hj hL 3 (by decide)) rfl dL_law_510 ?_
  refine l_aload hX dL_law_511 rfl 3 rfl ?_
  refine l_iload hX dL_law_512 rfl 0 rfl ?_
  refine l_iconst hX dL_law_513 (z := (4 : Int32)) (by decide) ?_
  refine l_iadd hX dL_law_514 ?_
  refine l_sld hX (vin5 hj hL 4 (by decide)) rfl dL_law_515 ?_
  refine l_callMl hX miX7_box hV (fun u hu => cX7_box_ok (xl X) hu hf2) cls7 g3_220 g3_221 g3_222 ⟨(Nat.le_of_ble_eq_true rfl), (Nat.le_of_ble_eq_true rfl)⟩ dL_law_516 rfl (As := [.int (xs' (ix (nI (6 * j) + (1 : Int32)))), .int (xs' (ix (nI (6 * j) + (2 : Int32)))), .int (xs' (ix (nI (6 * j) + (3 : Int32)))), .int (xs' (ix (nI (6 * j) + (4 : Int32))))]) (rest := [.long r]) rfl (Nat.le_of_ble_eq_true rfl) ?_
  refine l_sameL hX dL_law_519 dL_law_520 (tgt := 915) (by decide) ?_
  exact kk _ _ _ _ _ hX hW hF hR ⟨by omega, by omega⟩ hq
set_option maxRecDepth 20000 in
set_option maxHeartbeats 2000000 in
theorem lc_9 {R : RelT} {X : Cx} {w v : Wp} {σ τ : St} {b L j bd : Nat} {xs' : Nat → Int32} (hstep : ∀ x1 x2 x3 x4 : Int32, StS R (fun σ => fX6_overlap σ x1 x2 x3 x4) (fun τ => fX7_overlap τ x1 x2 x3 x4)) (hX : OL X w v b L xs') (hW : CW w) (hV : MW v) (hF : Fre w bd) (hRel : R σ τ bd) (hj : 6 * j + 6 ≤ L) (hL : L ≤ 3072) (hcap : xcl X + 104 ≤ 600000 ∧ xsl X + 3032 ≤ 7302249) (hq : OQ X b) (kk : ∀ (X' : Cx) (w' : Wp) (σ' τ' : St) (bd' : Nat), OL X' w' v b L xs' → CW w' → Fre w' bd' → R σ' τ' bd' → (xcl X' ≤ xcl X + 4 ∧ xsl X' ≤ xsl X + 32) → OQ X' b → JL X' w' v σ' τ' 915 [(3, .int (nI (6 * j))), (1, rf w' 0), (2, rf v 0), (0, .ref b)] []) : JL X w v σ τ 525 [(3, .int (nI (6 * j))), (1, rf w 0), (2, rf v 0), (0, .ref b)] [] := by
  obtain ⟨r, σ', τ', hf1, hf2, hR⟩ := hstep (xs' (ix (nI (6 * j) + (1 : Int32)))) (xs' (ix (nI (6 * j) + (2 : Int32)))) (xs' (ix (nI (6 * j) + (3 : Int32)))) (xs' (ix (nI (6 * j) + (4 : Int32)))) σ τ bd hRel
  refine l_aload hX dL_law_525 rfl 1 rfl ?_
  refine l_aload hX dL_law_526 rfl 3 rfl ?_
  refine l_iload hX dL_law_527 rfl 0 rfl ?_
  refine l_iconst hX dL_law_528 (z := (1 : Int32)) (by decide) ?_
  refine l_iadd hX dL_law_529 ?_
  refine l_sld hX (vin5 hj hL 1 (by decide)) rfl dL_law_530 ?_
  refine l_aload hX dL_law_531 rfl 3 rfl ?_
  refine l_iload hX dL_law_532 rfl 0 rfl ?_
  refine l_iconst hX dL_law_533 (z := (2 : Int32)) (by decide) ?_
  refine l_iadd hX dL_law_534 ?_
  refine l_sld hX (vin5 hj hL 2 (by decide)) rfl dL_law_535 ?_
  refine l_aload hX dL_law_536 rfl 3 rfl ?_
  refine l_iload hX dL_law_537 rfl 0 rfl ?_
  refine l_iconst hX dL_law_538 (z := (3 : Int32)) (by decide) ?_
  refine l_iadd hX dL_law_539 ?_
  refine l_sld hX (vin5 hj hL 3 (by decide)) rfl dL_law_540 ?_
  refine l_aload hX dL_law_541 rfl 3 rfl ?_
  refine l_iload hX dL_law_542 rfl 0 rfl ?_
  refine l_iconst hX dL_law_543 (z := (4 : Int32)) (by decide) ?_
  refine l_iadd hX dL_law_544 ?_
  refine l_sld hX (vin5 hj hL 4 (by decide)) rfl dL_law_545 ?_
  refine l_callCl hX miX6_overlap hW (fun u hu => cX6_overlap_ok (xl X) hu hf1) cls6 g2_125 g2_126 g2_127 ⟨(Nat.le_of_ble_eq_true rfl), (Nat.le_of_ble_eq_true rfl)⟩ dL_law_546 rfl (As := [.int (xs' (ix (nI (6 * j) + (1 : Int32)))), .int (xs' (ix (nI (6 * j) + (2 : Int32)))), .int (xs' (ix (nI (6 * j) + (3 : Int32)))), .int (xs' (ix (nI (6 * j) + (4 : Int32))))]) (rest := []) rfl (Nat.le_of_ble_eq_true rfl) ?_
  refine l_aload hX dL_law_549 rfl 2 rfl ?_
  refine l_aload hX dL_law_550 rfl 3 rfl ?_
  refine l_iload hX dL_law_551 rfl 0 rfl ?_
  refine l_iconst hX dL_law_552 (z := (1 : Int32)) (by decide) ?_
  refine l_iadd hX dL_law_553 ?_
  refine l_sld hX (vin5 hj hL 1 (by decide)) rfl dL_law_554 ?_
  refine l_aload hX dL_law_555 rfl 3 rfl ?_
  refine l_iload hX dL_law_556 rfl 0 rfl ?_
  refine l_iconst hX dL_law_557 (z := (2 : Int32)) (by decide) ?_
  refine l_iadd hX dL_law_558 ?_
  refine l_sld hX (vin5 hj hL 2 (by decide)) rfl dL_law_559 ?_
  refine l_aload hX dL_law_560 rfl 3 rfl ?_
  refine l_iload hX dL_law_561 rfl 0 rfl ?_
  refine l_iconst hX dL_law_562 (z := (3 : Int32)) (by decide) ?_
  refine l_iadd hX dL_law_563 ?_
  refine l_sld hX (vin5 hj hL 3 (by decide)) rfl dL_law_564 ?_
  refine l_aload hX dL_law_565 rfl 3 rfl ?_
  refine l_iload hX dL_law_566 rfl 0 rfl ?_
  refine l_iconst hX dL_law_567 (z := (4 : Int32)) (by decide) ?_
  refine l_iadd hX dL_law_568 ?_
  refine l_sld hX (vin5 hj hL 4 (by decide)) rfl dL_law_569 ?_
  refine l_callMl hX miX7_overlap hV (fun u hu => cX7_overlap_ok (xl X) hu hf2) cls7 g4_1 g4_2 g4_3 ⟨(Nat.le_of_ble_eq_true rfl), (Nat.le_of_ble_eq_true rfl)⟩ dL_law_570 rfl (As := [.int (xs' (ix (nI (6 * j) + (1 : Int32)))), .int (xs' (ix (nI (6 * j) + (2 : Int32)))), .int (xs' (ix (nI (6 * j) + (3 : Int32)))), .int (xs' (ix (nI (6 * j) + (4 : Int32))))]) (rest := [.long r]) rfl (Nat.le_of_ble_eq_true rfl) ?_
  refine l_sameL hX dL_law_573 dL_law_574 (tgt := 915) (by decide) ?_
  exact kk _ _ _ _ _ hX hW hF hR ⟨by omega, by omega⟩ hq
set_option maxRecDepth 20000 in
set_option maxHeartbeats 2000000 in
theorem lc_10 {R : RelT} {X : Cx} {w v : Wp} {σ τ : St} {b L j bd : Nat} {xs' : Nat → Int32} (hstep : ∀ x1 x2 x3 : Int32, StS R (fun σ => fX6_crossings σ x1 x2 x3) (fun τ => fX7_crossings τ x1 x2 x3)) (hX : OL X w v b L xs') (hW : CW w) (hV : MW v) (hF : Fre w bd) (hRel : R σ τ bd) (hj : 6 * j + 6 ≤ L) (hL : L ≤ 3072) (hcap : xcl X + 104 ≤ 600000 ∧ xsl X + 3032 ≤ 7302249) (hq : OQ X b) (kk : ∀ (X' : Cx) (w' : Wp) (σ' τ' : St) (bd' : Nat), OL X' w' v b L xs' → CW w' → Fre w' bd' → R σ' τ' bd' → (xcl X' ≤ xcl X + 4 ∧ xsl X' ≤ xsl X + 32) → OQ X' b → JL X' w' v σ' τ' 915 [(3, .int (nI (6 * j))), (1, rf w' 0), (2, rf v 0), (0, .ref b)] []) : JL X w v σ τ 579 [(3, .int (nI (6 * j))), (1, rf w 0), (2, rf v 0), (0, .ref b)] [] := by
  obtain ⟨r, σ', τ', hf1, hf2, hR⟩ := hstep (xs' (ix (nI (6 * j) + (1 : Int32)))) (xs' (ix (nI (6 * j) + (2 : Int32)))) (xs' (ix (nI (6 * j) + (3 : Int32)))) σ τ bd hRel
  refine l_aload hX dL_law_579 rfl 1 rfl ?_
  refine l_aload hX dL_law_580 rfl 3 rfl ?_
  refine l_iload hX dL_law_581 rfl 0 rfl ?_
  refine l_iconst hX dL_law_582 (z := (1 : Int32)) (by decide) ?_
  refine l_iadd hX dL_law_583 ?_
  refine l_sld hX (vin5 hj hL 1 (by decide)) rfl dL_law_584 ?_
  refine l_aload hX dL_law_585 rfl 3 rfl ?_
  refine l_iload hX dL_law_586 rfl 0 rfl ?_
  refine l_iconst hX dL_law_587 (z := (2 : Int32)) (by decide) ?_
  refine l_iadd hX dL_law_588 ?_
  refine l_sld hX (vin5 hj hL 2 (by decide)) rfl dL_law_589 ?_
  refine l_aload hX dL_law_590 rfl 3 rfl ?_
  refine l_iload hX dL_law_591 rfl 0 rfl ?_
  refine l_iconst hX dL_law_592 (z := (3 : Int32)) (by decide) ?_
  refine l_iadd hX dL_law_593 ?_
  refine l_sld hX (vin5 hj hL 3 (by decide)) rfl dL_law_594 ?_
  refine l_callCi hX miX6_crossings hW (fun u hu => cX6_crossings_ok (xl X) hu hf1) cls6 g2_136 g2_137 g2_138 ⟨(Nat.le_of_ble_eq_true rfl), (Nat.le_of_ble_eq_true rfl)⟩ dL_law_595 rfl (As := [.int (xs' (ix (nI (6 * j) + (1 : Int32)))), .int (xs' (ix (nI (6 * j) + (2 : Int32)))), .int (xs' (ix (nI (6 * j) + (3 : Int32))))]) (rest := []) rfl (Nat.le_of_ble_eq_true rfl) ?_
  refine l_aload hX dL_law_598 rfl 2 rfl ?_
  refine l_aload hX dL_law_599 rfl 3 rfl ?_
  refine l_iload hX dL_law_600 rfl 0 rfl ?_
  refine l_iconst hX dL_law_601 (z := (1 : Int32)) (by decide) ?_
  refine l_iadd hX dL_law_602 ?_
  refine l_sld hX (vin5 hj hL 1 (by decide)) rfl dL_law_603 ?_
  refine l_aload hX dL_law_604 rfl 3 rfl ?_
  refine l_iload hX dL_law_605 rfl 0 rfl ?_
  refine l_iconst hX dL_law_606 (z := (2 : Int32)) (by decide) ?_
  refine l_iadd hX dL_law_607 ?_
  refine l_sld hX (vin5 hj hL 2 (by decide)) rfl dL_law_608 ?_
  refine l_aload hX dL_law_609 rfl 3 rfl ?_
  refine l_iload hX dL_law_610 rfl 0 rfl ?_
  refine l_iconst hX dL_law_611 (z := (3 : Int32)) (by decide) ?_
  refine l_iadd hX dL_law_612 ?_
  refine l_sld hX (vin5 hj hL 3 (by decide)) rfl dL_law_613 ?_
  refine l_callMi hX miX7_crossings hV (fun u hu => cX7_crossings_ok (xl X) hu hf2) cls7 g4_12 g4_13 g4_14 ⟨(Nat.le_of_ble_eq_true rfl), (Nat.le_of_ble_eq_true rfl)⟩ dL_law_614 rfl (As := [.int (xs' (ix (nI (6 * j) + (1 : Int32)))), .int (xs' (ix (nI (6 * j) + (2 : Int32)))), .int (xs' (ix (nI (6 * j) + (3 : Int32))))]) (rest := [.int r]) rfl (Nat.le_of_ble_eq_true rfl) ?_
  refine l_same hX dL_law_617 (tgt := 915) (by decide) ?_
  exact kk _ _ _ _ _ hX hW hF hR ⟨by omega, by omega⟩ hq
set_option maxRecDepth 20000 in
set_option maxHeartbeats 2000000 in
theorem lc_11 {R : RelT} {X : Cx} {w v : Wp} {σ τ : St} {b L j bd : Nat} {xs' : Nat → Int32} (hstep : ∀ x1 x2 x3 : Int32, StS R (fun σ => fX6_nextCrossing σ x1 x2 x3) (fun τ => fX7_nextCrossing τ x1 x2 x3)) (hX : OL X w v b L xs') (hW : CW w) (hV : MW v) (hF : Fre w bd) (hRel : R σ τ bd) (hj : 6 * j + 6 ≤ L) (hL : L ≤ 3072) (hcap : xcl X + 104 ≤ 600000 ∧ xsl X + 3032 ≤ 7302249) (hq : OQ X b) (kk : ∀ (X' : Cx) (w' : Wp) (σ' τ' : St) (bd' : Nat), OL X' w' v b L xs' → CW w' → Fre w' bd' → R σ' τ' bd' → (xcl X' ≤ xcl X + 4 ∧ xsl X' ≤ xsl X + 32) → OQ X' b → JL X' w' v σ' τ' 915 [(3, .int (nI (6 * j))), (1, rf w' 0), (2, rf v 0), (0, .ref b)] []) : JL X w v σ τ 622 [(3, .int (nI (6 * j))), (1, rf w 0), (2, rf v 0), (0, .ref b)] [] := by
  obtain ⟨r, σ', τ', hf1, hf2, hR⟩ := hstep (xs' (ix (nI (6 * j) + (1 : Int32)))) (xs' (ix (nI (6 * j) + (2 : Int32)))) (xs' (ix (nI (6 * j) + (3 : Int32)))) σ τ bd hRel
  refine l_aload hX dL_law_622 rfl 1 rfl ?_
  refine l_aload hX dL_law_623 rfl 3 rfl ?_
  refine l_iload hX dL_law_624 rfl 0 rfl ?_
  refine l_iconst hX dL_law_625 (z := (1 : Int32)) (by decide) ?_
  refine l_iadd hX dL_law_626 ?_
  refine l_sld hX (vin5 hj hL 1 (by decide)) rfl dL_law_627 ?_
  refine l_aload hX dL_law_628 rfl 3 rfl ?_
  refine l_iload hX dL_law_629 rfl 0 rfl ?_
  refine l_iconst hX dL_law_630 (z := (2 : Int32)) (by decide) ?_
  refine l_iadd hX dL_law_631 ?_
  refine l_sld hX (vin5 hj hL 2 (by decide)) rfl dL_law_632 ?_
  refine l_aload hX dL_law_633 rfl 3 rfl ?_
  refine l_iload hX dL_law_634 rfl 0 rfl ?_
  refine l_iconst hX dL_law_635 (z := (3 : Int32)) (by decide) ?_
  refine l_iadd hX dL_law_636 ?_
  refine l_sld hX (vin5 hj hL 3 (by decide)) rfl dL_law_637 ?_
  refine l_callCi hX miX6_nextCrossing hW (fun u hu => cX6_nextCrossing_ok (xl X) hu hf1) cls6 g2_169 g2_170 g2_171 ⟨(Nat.le_of_ble_eq_true rfl), (Nat.le_of_ble_eq_true rfl)⟩ dL_law_638 rfl (As := [.int (xs' (ix (nI (6 * j) + (1 : Int32)))), .int (xs' (ix (nI (6 * j) + (2 : Int32)))), .int (xs' (ix (nI (6 * j) + (3 : Int32))))]) (rest := []) rfl (Nat.le_of_ble_eq_true rfl) ?_
  refine l_aload hX dL_law_641 rfl 2 rfl ?_
  refine l_aload hX dL_law_642 rfl 3 rfl ?_
  refine l_iload hX dL_law_643 rfl 0 rfl ?_
  refine l_iconst hX dL_law_644 (z := (1 : Int32)) (by decide) ?_
  refine l_iadd hX dL_law_645 ?_
  refine l_sld hX (vin5 hj hL 1 (by decide)) rfl dL_law_646 ?_
  refine l_aload hX dL_law_647 rfl 3 rfl ?_
  refine l_iload hX dL_law_648 rfl 0 rfl ?_
  refine l_iconst hX dL_law_649 (z := (2 : Int32)) (by decide) ?_
  refine l_iadd hX dL_law_650 ?_
  refine l_sld hX (vin5 hj hL 2 (by decide)) rfl dL_law_651 ?_
  refine l_aload hX dL_law_652 rfl 3 rfl ?_
  refine l_iload hX dL_law_653 rfl 0 rfl ?_
  refine l_iconst hX dL_law_654 (z := (3 : Int32)) (by decide) ?_
  refine l_iadd hX dL_law_655 ?_
  refine l_sld hX (vin5 hj hL 3 (by decide)) rfl dL_law_656 ?_
  refine l_callMi hX miX7_nextCrossing hV (fun u hu => cX7_nextCrossing_ok (xl X) hu hf2) cls7 g4_49 g4_50 g4_51 ⟨(Nat.le_of_ble_eq_true rfl), (Nat.le_of_ble_eq_true rfl)⟩ dL_law_657 rfl (As := [.int (xs' (ix (nI (6 * j) + (1 : Int32)))), .int (xs' (ix (nI (6 * j) + (2 : Int32)))), .int (xs' (ix (nI (6 * j) + (3 : Int32))))]) (rest := [.int r]) rfl (Nat.le_of_ble_eq_true rfl) ?_
  refine l_same hX dL_law_660 (tgt := 915) (by decide) ?_
  exact kk _ _ _ _ _ hX hW hF hR ⟨by omega, by omega⟩ hq
set_option maxRecDepth 20000 in
set_option maxHeartbeats 2000000 in
theorem lc_12 {R : RelT} {X : Cx} {w v : Wp} {σ τ : St} {b L j bd : Nat} {xs' : Nat → Int32} (hstep : ∀ x1 x2 x3 : Int32, StS R (fun σ => fX6_within σ x1 x2 x3) (fun τ => fX7_within τ x1 x2 x3)) (hX : OL X w v b L xs') (hW : CW w) (hV : MW v) (hF : Fre w bd) (hRel : R σ τ bd) (hj : 6 * j + 6 ≤ L) (hL : L ≤ 3072) (hcap : xcl X + 104 ≤ 600000 ∧ xsl X + 3032 ≤ 7302249) (hq : OQ X b) (kk : ∀ (X' : Cx) (w' : Wp) (σ' τ' : St) (bd' : Nat), OL X' w' v b L xs' → CW w' → Fre w' bd' → R σ' τ' bd' → (xcl X' ≤ xcl X + 4 ∧ xsl X' ≤ xsl X + 32) → OQ X' b → JL X' w' v σ' τ' 915 [(3, .int (nI (6 * j))), (1, rf w' 0), (2, rf v 0), (0, .ref b)] []) : JL X w v σ τ 665 [(3, .int (nI (6 * j))), (1, rf w 0), (2, rf v 0), (0, .ref b)] [] := by
  obtain ⟨r, σ', τ', hf1, hf2, hR⟩ := hstep (xs' (ix (nI (6 * j) + (1 : Int32)))) (xs' (ix (nI (6 * j) + (2 : Int32)))) (xs' (ix (nI (6 * j) + (3 : Int32)))) σ τ bd hRel
  refine l_aload hX dL_law_665 rfl 1 rfl ?_
  refine l_aload hX dL_law_666 rfl 3 rfl ?_
  refine l_iload hX dL_law_667 rfl 0 rfl ?_
  refine l_iconst hX dL_law_668 (z := (1 : Int32)) (by decide) ?_
  refine l_iadd hX dL_law_669 ?_
  refine l_sld hX (vin5 hj hL 1 (by decide)) rfl dL_law_670 ?_
  refine l_aload hX dL_law_671 rfl 3 rfl ?_
  refine l_iload hX dL_law_672 rfl 0 rfl ?_
  refine l_iconst hX dL_law_673 (z := (2 : Int32)) (by decide) ?_
  refine l_iadd hX dL_law_674 ?_
  refine l_sld hX (vin5 hj hL 2 (by decide)) rfl dL_law_675 ?_
  refine l_aload hX dL_law_676 rfl 3 rfl ?_
  refine l_iload hX dL_law_677 rfl 0 rfl ?_
  refine l_iconst hX dL_law_678 (z := (3 : Int32)) (by decide) ?_
  refine l_iadd hX dL_law_679 ?_
  refine l_sld hX (vin5 hj hL 3 (by decide)) rfl dL_law_680 ?_
  refine l_callCi hX miX6_within hW (fun u hu => cX6_within_ok (xl X) hu hf1) cls6 g2_177 g2_178 g2_179 ⟨(Nat.le_of_ble_eq_true rfl), (Nat.le_of_ble_eq_true rfl)⟩ dL_law_681 rfl (As := [.int (xs' (ix (nI (6 * j) + (1 : Int32)))), .int (xs' (ix (nI (6 * j) + (2 : Int32)))), .int (xs' (ix (nI (6 * j) + (3 : Int32))))]) (rest := []) rfl (Nat.le_of_ble_eq_true rfl) ?_
  refine l_aload hX dL_law_684 rfl 2 rfl ?_
  refine l_aload hX dL_law_685 rfl 3 rfl ?_
  refine l_iload hX dL_law_686 rfl 0 rfl ?_
  refine l_iconst hX dL_law_687 (z := (1 : Int32)) (by decide) ?_
  refine l_iadd hX dL_law_688 ?_
  refine l_sld hX (vin5 hj hL 1 (by decide)) rfl dL_law_689 ?_
  refine l_aload hX dL_law_690 rfl 3 rfl ?_
  refine l_iload hX dL_law_691 rfl 0 rfl ?_
  refine l_iconst hX dL_law_692 (z := (2 : Int32)) (by decide) ?_
  refine l_iadd hX dL_law_693 ?_
  refine l_sld hX (vin5 hj hL 2 (by decide)) rfl dL_law_694 ?_
  refine l_aload hX dL_law_695 rfl 3 rfl ?_
  refine l_iload hX dL_law_696 rfl 0 rfl ?_
  refine l_iconst hX dL_law_697 (z := (3 : Int32)) (by decide) ?_
  refine l_iadd hX dL_law_698 ?_
  refine l_sld hX (vin5 hj hL 3 (by decide)) rfl dL_law_699 ?_
  refine l_callMi hX miX7_within hV (fun u hu => cX7_within_ok (xl X) hu hf2) cls7 g4_53 g4_54 g4_55 ⟨(Nat.le_of_ble_eq_true rfl), (Nat.le_of_ble_eq_true rfl)⟩ dL_law_700 rfl (As := [.int (xs' (ix (nI (6 * j) + (1 : Int32)))), .int (xs' (ix (nI (6 * j) + (2 : Int32)))), .int (xs' (ix (nI (6 * j) + (3 : Int32))))]) (rest := [.int r]) rfl (Nat.le_of_ble_eq_true rfl) ?_
  refine l_same hX dL_law_703 (tgt := 915) (by decide) ?_
  exact kk _ _ _ _ _ hX hW hF hR ⟨by omega, by omega⟩ hq
set_option maxRecDepth 20000 in
set_option maxHeartbeats 2000000 in
theorem lc_13 {R : RelT} {X : Cx} {w v : Wp} {σ τ : St} {b L j bd : Nat} {xs' : Nat → Int32} (hstep : ∀ x1 : Int32, StS R (fun σ => fX6_highest σ x1) (fun τ => fX7_highest τ x1)) (hX : OL X w v b L xs') (hW : CW w) (hV : MW v) (hF : Fre w bd) (hRel : R σ τ bd) (hj : 6 * j + 6 ≤ L) (hL : L ≤ 3072) (hcap : xcl X + 104 ≤ 600000 ∧ xsl X + 3032 ≤ 7302249) (hq : OQ X b) (kk : ∀ (X' : Cx) (w' : Wp) (σ' τ' : St) (bd' : Nat), OL X' w' v b L xs' → CW w' → Fre w' bd' → R σ' τ' bd' → (xcl X' ≤ xcl X + 4 ∧ xsl X' ≤ xsl X + 32) → OQ X' b → JL X' w' v σ' τ' 915 [(3, .int (nI (6 * j))), (1, rf w' 0), (2, rf v 0), (0, .ref b)] []) : JL X w v σ τ 708 [(3, .int (nI (6 * j))), (1, rf w 0), (2, rf v 0), (0, .ref b)] [] := by
  obtain ⟨r, σ', τ', hf1, hf2, hR⟩ := hstep (xs' (ix (nI (6 * j) + (1 : Int32)))) σ τ bd hRel
  refine l_aload hX dL_law_708 rfl 1 rfl ?_
  refine l_aload hX dL_law_709 rfl 3 rfl ?_
  refine l_iload hX dL_law_710 rfl 0 rfl ?_
  refine l_iconst hX dL_law_711 (z := (1 : Int32)) (by decide) ?_
  refine l_iadd hX dL_law_712 ?_
  refine l_sld hX (vin5 hj hL 1 (by decide)) rfl dL_law_713 ?_
  refine l_callCi hX miX6_highest hW (fun u hu => cX6_highest_ok (xl X) hu hf1) cls6 g2_185 g2_186 g2_187 ⟨(Nat.le_of_ble_eq_true rfl), (Nat.le_of_ble_eq_true rfl)⟩ dL_law_714 rfl (As := [.int (xs' (ix (nI (6 * j) + (1 : Int32))))]) (rest := []) rfl (Nat.le_of_ble_eq_true rfl) ?_
  refine l_aload hX dL_law_717 rfl 2 rfl ?_
  refine l_aload hX dL_law_718 rfl 3 rfl ?_
  refine l_iload hX dL_law_719 rfl 0 rfl ?_
  refine l_iconst hX dL_law_720 (z := (1 : Int32)) (by decide) ?_
  refine l_iadd hX dL_law_721 ?_
  refine l_sld hX (vin5 hj hL 1 (by decide)) rfl dL_law_722 ?_
  refine l_callMi hX miX7_highest hV (fun u hu => cX7_highest_ok (xl X) hu hf2) cls7 g4_61 g4_62 g4_63 ⟨(Nat.le_of_ble_eq_true rfl), (Nat.le_of_ble_eq_true rfl)⟩ dL_law_723 rfl (As := [.int (xs' (ix (nI (6 * j) + (1 : Int32))))]) (rest := [.int r]) rfl (Nat.le_of_ble_eq_true rfl) ?_
  refine l_same hX dL_law_726 (tgt := 915) (by decide) ?_
  exact kk _ _ _ _ _ hX hW hF hR ⟨by omega, by omega⟩ hq
set_option maxRecDepth 20000 in
set_option maxHeartbeats 2000000 in
theorem lc_14 {R : RelT} {X : Cx} {w v : Wp} {σ τ : St} {b L j bd : Nat} {xs' : Nat → Int32} (hstep : ∀ x1 x2 x3 : Int32, StS R (fun σ => fX6_planeFor σ x1 x2 x3) (fun τ => fX7_planeFor τ x1 x2 x3)) (hX : OL X w v b L xs') (hW : CW w) (hV : MW v) (hF : Fre w bd) (hRel : R σ τ bd) (hj : 6 * j + 6 ≤ L) (hL : L ≤ 3072) (hcap : xcl X + 104 ≤ 600000 ∧ xsl X + 3032 ≤ 7302249) (hq : OQ X b) (kk : ∀ (X' : Cx) (w' : Wp) (σ' τ' : St) (bd' : Nat), OL X' w' v b L xs' → CW w' → Fre w' bd' → R σ' τ' bd' → (xcl X' ≤ xcl X + 4 ∧ xsl X' ≤ xsl X + 32) → OQ X' b → JL X' w' v σ' τ' 915 [(3, .int (nI (6 * j))), (1, rf w' 0), (2, rf v 0), (0, .ref b)] []) : JL X w v σ τ 731 [(3, .int (nI (6 * j))), (1, rf w 0), (2, rf v 0), (0, .ref b)] [] := by
  obtain ⟨r, σ', τ', hf1, hf2, hR⟩ := hstep (xs' (ix (nI (6 * j) + (1 : Int32)))) (xs' (ix (nI (6 * j) + (2 : Int32)))) (xs' (ix (nI (6 * j) + (3 : Int32)))) σ τ bd hRel
  refine l_aload hX dL_law_731 rfl 1 rfl ?_
  refine l_aload hX dL_law_732 rfl 3 rfl ?_
  refine l_iload hX dL_law_733 rfl 0 rfl ?_
  refine l_iconst hX dL_law_734 (z := (1 : Int32)) (by decide) ?_
  refine l_iadd hX dL_law_735 ?_
  refine l_sld hX (vin5 hj hL 1 (by decide)) rfl dL_law_736 ?_
  refine l_aload hX dL_law_737 rfl 3 rfl ?_
  refine l_iload hX dL_law_738 rfl 0 rfl ?_
  refine l_iconst hX dL_law_739 (z := (2 : Int32)) (by decide) ?_
  refine l_iadd hX dL_law_740 ?_
  refine l_sld hX (vin5 hj hL 2 (by decide)) rfl dL_law_741 ?_
  refine l_aload hX dL_law_742 rfl 3 rfl ?_
  refine l_iload hX dL_law_743 rfl 0 rfl ?_
  refine l_iconst hX dL_law_744 (z := (3 : Int32)) (by decide) ?_
  refine l_iadd hX dL_law_745 ?_
  refine l_sld hX (vin5 hj hL 3 (by decide)) rfl dL_law_746 ?_
  refine l_callCi hX miX6_planeFor hW (fun u hu => cX6_planeFor_ok (xl X) hu hf1) cls6 g2_194 g2_195 g2_196 ⟨(Nat.le_of_ble_eq_true rfl), (Nat.le_of_ble_eq_true rfl)⟩ dL_law_747 rfl (As := [.int (xs' (ix (nI (6 * j) + (1 : Int32)))), .int (xs' (ix (nI (6 * j) + (2 : Int32)))), .int (xs' (ix (nI (6 * j) + (3 : Int32))))]) (rest := []) rfl (Nat.le_of_ble_eq_true rfl) ?_
  refine l_aload hX dL_law_750 rfl 2 rfl ?_
  refine l_aload hX dL_law_751 rfl 3 rfl ?_
  refine l_iload hX dL_law_752 rfl 0 rfl ?_
  refine l_iconst hX dL_law_753 (z := (1 : Int32)) (by decide) ?_
  refine l_iadd hX dL_law_754 ?_
  refine l_sld hX (vin5 hj hL 1 (by decide)) rfl dL_law_755 ?_
  refine l_aload hX dL_law_756 rfl 3 rfl ?_
  refine l_iload hX dL_law_757 rfl 0 rfl ?_
  refine l_iconst hX dL_law_758 (z := (2 : Int32)) (by decide) ?_
  refine l_iadd hX dL_law_759 ?_
  refine l_sld hX (vin5 hj hL 2 (by decide)) rfl dL_law_760 ?_
  refine l_aload hX dL_law_761 rfl 3 rfl ?_
  refine l_iload hX dL_law_762 rfl 0 rfl ?_
  refine l_iconst hX dL_law_763 (z := (3 : Int32)) (by decide) ?_
  refine l_iadd hX dL_law_764 ?_
  refine l_sld hX (vin5 hj hL 3 (by decide)) rfl dL_law_765 ?_
  refine l_callMi hX miX7_planeFor hV (fun u hu => cX7_planeFor_ok (xl X) hu hf2) cls7 g4_65 g4_66 g4_67 ⟨(Nat.le_of_ble_eq_true rfl), (Nat.le_of_ble_eq_true rfl)⟩ dL_law_766 rfl (As := [.int (xs' (ix (nI (6 * j) + (1 : Int32)))), .int (xs' (ix (nI (6 * j) + (2 : Int32)))), .int (xs' (ix (nI (6 * j) + (3 : Int32))))]) (rest := [.int r]) rfl (Nat.le_of_ble_eq_true rfl) ?_
  refine l_same hX dL_law_769 (tgt := 915) (by decide) ?_
  exact kk _ _ _ _ _ hX hW hF hR ⟨by omega, by omega⟩ hq
set_option maxRecDepth 20000 in
set_option maxHeartbeats 2000000 in
theorem lc_15 {R : RelT} {X : Cx} {w v : Wp} {σ τ : St} {b L j bd : Nat} {xs' : Nat → Int32} (hstep : ∀ x1 : Int32, StR R (fun σ => fX6_hands σ x1) (fun τ => fX7_hands τ x1)) (hX : OL X w v b L xs') (hW : CW w) (hV : MW v) (hF : Fre w bd) (hRel : R σ τ bd) (hj : 6 * j + 6 ≤ L) (hL : L ≤ 3072) (hcap : xcl X + 104 ≤ 600000 ∧ xsl X + 3032 ≤ 7302249) (hq : OQ X b) (kk : ∀ (X' : Cx) (w' : Wp) (σ' τ' : St) (bd' : Nat), OL X' w' v b L xs' → CW w' → Fre w' bd' → R σ' τ' bd' → (xcl X' ≤ xcl X + 4 ∧ xsl X' ≤ xsl X + 32) → OQ X' b → JL X' w' v σ' τ' 915 [(3, .int (nI (6 * j))), (1, rf w' 0), (2, rf v 0), (0, .ref b)] []) : JL X w v σ τ 774 [(3, .int (nI (6 * j))), (1, rf w 0), (2, rf v 0), (0, .ref b)] [] := by
  obtain ⟨r, hf1, hf2⟩ := hstep (xs' (ix (nI (6 * j) + (1 : Int32)))) σ τ bd hRel
  refine l_aload hX dL_law_774 rfl 1 rfl ?_
  refine l_aload hX dL_law_775 rfl 3 rfl ?_
  refine l_iload hX dL_law_776 rfl 0 rfl ?_
  refine l_iconst hX dL_law_777 (z := (1 : Int32)) (by decide) ?_
  refine l_iadd hX dL_law_778 ?_
  refine l_sld hX (vin5 hj hL 1 (by decide)) rfl dL_law_779 ?_
  refine l_callCi hX miX6_hands hW (fun u hu => cX6_hands_ok (xl X) hu hf1) cls6 g2_200 g2_201 g2_202 ⟨(Nat.le_of_ble_eq_true rfl), (Nat.le_of_ble_eq_true rfl)⟩ dL_law_780 rfl (As := [.int (xs' (ix (nI (6 * j) + (1 : Int32))))]) (rest := []) rfl (Nat.le_of_ble_eq_true rfl) ?_
  refine l_aload hX dL_law_783 rfl 2 rfl ?_
  refine l_aload hX dL_law_784 rfl 3 rfl ?_
  refine l_iload hX dL_law_785 rfl 0 rfl ?_
  refine l_iconst hX dL_law_786 (z := (1 : Int32)) (by decide) ?_
  refine l_iadd hX dL_law_787 ?_
  refine l_sld hX (vin5 hj hL 1 (by decide)) rfl dL_law_788 ?_
  refine l_callMi hX miX7_hands hV (fun u hu => cX7_hands_ok (xl X) hu hf2) cls7 g4_70 g4_71 g4_72 ⟨(Nat.le_of_ble_eq_true rfl), (Nat.le_of_ble_eq_true rfl)⟩ dL_law_789 rfl (As := [.int (xs' (ix (nI (6 * j) + (1 : Int32))))]) (rest := [.int r]) rfl (Nat.le_of_ble_eq_true rfl) ?_
  refine l_same hX dL_law_792 (tgt := 915) (by decide) ?_
  exact kk _ _ _ _ _ hX hW hF hRel ⟨by omega, by omega⟩ hq
set_option maxRecDepth 20000 in
set_option maxHeartbeats 2000000 in
theorem lc_16 {R : RelT} {X : Cx} {w v : Wp} {σ τ : St} {b L j bd : Nat} {xs' : Nat → Int32} (hstep : StR R (fun σ => fX6_busiestBeat σ ) (fun τ => fX7_busiestBeat τ )) (hX : OL X w v b L xs') (hW : CW w) (hV : MW v) (hF : Fre w bd) (hRel : R σ τ bd) (hj : 6 * j + 6 ≤ L) (hL : L ≤ 3072) (hcap : xcl X + 104 ≤ 600000 ∧ xsl X + 3032 ≤ 7302249) (hq : OQ X b) (kk : ∀ (X' : Cx) (w' : Wp) (σ' τ' : St) (bd' : Nat), OL X' w' v b L xs' → CW w' → Fre w' bd' → R σ' τ' bd' → (xcl X' ≤ xcl X + 4 ∧ xsl X' ≤ xsl X + 32) → OQ X' b → JL X' w' v σ' τ' 915 [(3, .int (nI (6 * j))), (1, rf w' 0), (2, rf v 0), (0, .ref b)] []) : JL X w v σ τ 797 [(3, .int (nI (6 * j))), (1, rf w 0), (2, rf v 0), (0, .ref b)] [] := by
  obtain ⟨r, hf1, hf2⟩ := hstep  σ τ bd hRel
  refine l_aload hX dL_law_797 rfl 1 rfl ?_
  refine l_callCi hX miX6_busiestBeat hW (fun u hu => cX6_busiestBeat_ok (xl X) hu hf1) cls6 g2_226 g2_227 g2_228 ⟨(Nat.le_of_ble_eq_true rfl), (Nat.le_of_ble_eq_true rfl)⟩ dL_law_798 rfl (As := []) (rest := []) rfl (Nat.le_of_ble_eq_true rfl) ?_
  refine l_aload hX dL_law_801 rfl 2 rfl ?_
  refine l_callMi hX miX7_busiestBeat hV (fun u hu => cX7_busiestBeat_ok (xl X) hu hf2) cls7 g4_89 g4_90 g4_91 ⟨(Nat.le_of_ble_eq_true rfl), (Nat.le_of_ble_eq_true rfl)⟩ dL_law_802 rfl (As := []) (rest := [.int r]) rfl (Nat.le_of_ble_eq_true rfl) ?_
  refine l_same hX dL_law_805 (tgt := 915) (by decide) ?_
  exact kk _ _ _ _ _ hX hW hF hRel ⟨by omega, by omega⟩ hq
set_option maxRecDepth 20000 in
set_option maxHeartbeats 2000000 in
theorem lc_17 {R : RelT} {X : Cx} {w v : Wp} {σ τ : St} {b L j bd : Nat} {xs' : Nat → Int32} (hstep : ∀ x1 x2 : Int32, StR R (fun σ => fX6_activeRods σ x1 x2) (fun τ => fX7_activeRods τ x1 x2)) (hX : OL X w v b L xs') (hW : CW w) (hV : MW v) (hF : Fre w bd) (hRel : R σ τ bd) (hj : 6 * j + 6 ≤ L) (hL : L ≤ 3072) (hcap : xcl X + 104 ≤ 600000 ∧ xsl X + 3032 ≤ 7302249) (hq : OQ X b) (kk : ∀ (X' : Cx) (w' : Wp) (σ' τ' : St) (bd' : Nat), OL X' w' v b L xs' → CW w' → Fre w' bd' → R σ' τ' bd' → (xcl X' ≤ xcl X + 4 ∧ xsl X' ≤ xsl X + 32) → OQ X' b → JL X' w' v σ' τ' 915 [(3, .int (nI (6 * j))), (1, rf w' 0), (2, rf v 0), (0, .ref b)] []) : JL X w v σ τ 810 [(3, .int (nI (6 * j))), (1, rf w 0), (2, rf v 0), (0, .ref b)] [] := by
  obtain ⟨r, hf1, hf2⟩ := hstep (xs' (ix (nI (6 * j) + (1 : Int32)))) (xs' (ix (nI (6 * j) + (2 : Int32)))) σ τ bd hRel
  refine l_aload hX dL_law_810 rfl 1 rfl ?_
  refine l_aload hX dL_law_811 rfl 3 rfl ?_
  refine l_iload hX dL_law_812 rfl 0 rfl ?_
  refine l_iconst hX dL_law_813 (z := (1 : Int32)) (by decide) ?_
  refine l_iadd hX dL_law_814 ?_
  refine l_sld hX (vin5 hj hL 1 (by decide)) rfl dL_law_815 ?_
  refine l_aload hX dL_law_816 rfl 3 rfl ?_
  refine l_iload hX dL_law_817 rfl 0 rfl ?_
  refine l_iconst hX dL_law_818 (z := (2 : Int32)) (by decide) ?_
  refine l_iadd hX dL_law_819 ?_
  refine l_sld hX (vin5 hj hL 2 (by decide)) rfl dL_law_820 ?_
  refine l_callCi hX miX6_activeRods hW (fun u hu => cX6_activeRods_ok (xl X) hu hf1) cls6 g2_230 g2_231 g2_232 ⟨(Nat.le_of_ble_eq_true rfl), (Nat.le_of_ble_eq_true rfl)⟩ dL_law_821 rfl (As := [.int (xs' (ix (nI (6 * j) + (1 : Int32)))), .int (xs' (ix (nI (6 * j) + (2 : Int32))))]) (rest := []) rfl (Nat.le_of_ble_eq_true rfl) ?_
  refine l_aload hX dL_law_824 rfl 2 rfl ?_
  refine l_aload hX dL_law_825 rfl 3 rfl ?_
  refine l_iload hX dL_law_826 rfl 0 rfl ?_
  refine l_iconst hX dL_law_827 (z := (1 : Int32)) (by decide) ?_
  refine l_iadd hX dL_law_828 ?_
  refine l_sld hX (vin5 hj hL 1 (by decide)) rfl dL_law_829 ?_
  refine l_aload hX dL_law_830 rfl 3 rfl ?_
  refine l_iload hX dL_law_831 rfl 0 rfl ?_
  refine l_iconst hX dL_law_832 (z := (2 : Int32)) (by decide) ?_
  refine l_iadd hX dL_law_833 ?_
  refine l_sld hX (vin5 hj hL 2 (by decide)) rfl dL_law_834 ?_
  refine l_callMi hX miX7_activeRods hV (fun u hu => cX7_activeRods_ok (xl X) hu hf2) cls7 g4_93 g4_94 g4_95 ⟨(Nat.le_of_ble_eq_true rfl), (Nat.le_of_ble_eq_true rfl)⟩ dL_law_835 rfl (As := [.int (xs' (ix (nI (6 * j) + (1 : Int32)))), .int (xs' (ix (nI (6 * j) + (2 : Int32))))]) (rest := [.int r]) rfl (Nat.le_of_ble_eq_true rfl) ?_
  refine l_same hX dL_law_838 (tgt := 915) (by decide) ?_
  exact kk _ _ _ _ _ hX hW hF hRel ⟨by omega, by omega⟩ hq
set_option maxRecDepth 20000 in
set_option maxHeartbeats 2000000 in
theorem lc_18 {R : RelT} {X : Cx} {w v : Wp} {σ τ : St} {b L j bd : Nat} {xs' : Nat → Int32} (hstep : ∀ x1 : Int32, StS R (fun σ => fX6_addScene σ x1) (fun τ => fX7_addScene τ x1)) (hX : OL X w v b L xs') (hW : CW w) (hV : MW v) (hF : Fre w bd) (hRel : R σ τ bd) (hj : 6 * j + 6 ≤ L) (hL : L ≤ 3072) (hcap : xcl X + 104 ≤ 600000 ∧ xsl X + 3032 ≤ 7302249) (hq : OQ X b) (kk : ∀ (X' : Cx) (w' : Wp) (σ' τ' : St) (bd' : Nat), OL X' w' v b L xs' → CW w' → Fre w' bd' → R σ' τ' bd' → (xcl X' ≤ xcl X + 4 ∧ xsl X' ≤ xsl X + 32) → OQ X' b → JL X' w' v σ' τ' 915 [(3, .int (nI (6 * j))), (1, rf w' 0), (2, rf v 0), (0, .ref b)] []) : JL X w v σ τ 843 [(3, .int (nI (6 * j))), (1, rf w 0), (2, rf v 0), (0, .ref b)] [] := by
  obtain ⟨r, σ', τ', hf1, hf2, hR⟩ := hstep (xs' (ix (nI (6 * j) + (1 : Int32)))) σ τ bd hRel
  refine l_aload hX dL_law_843 rfl 1 rfl ?_
  refine l_aload hX dL_law_844 rfl 3 rfl ?_
  refine l_iload hX dL_law_845 rfl 0 rfl ?_
  refine l_iconst hX dL_law_846 (z := (1 : Int32)) (by decide) ?_
  refine l_iadd hX dL_law_847 ?_
  refine l_sld hX (vin5 hj hL 1 (by decide)) rfl dL_law_848 ?_
  refine l_callCi hX miX6_addScene hW (fun u hu => cX6_addScene_ok (xl X) hu hf1) cls6 g2_235 g2_236 g2_237 ⟨(Nat.le_of_ble_eq_true rfl), (Nat.le_of_ble_eq_true rfl)⟩ dL_law_849 rfl (As := [.int (xs' (ix (nI (6 * j) + (1 : Int32))))]) (rest := []) rfl (Nat.le_of_ble_eq_true rfl) ?_
  refine l_aload hX dL_law_852 rfl 2 rfl ?_
  refine l_aload hX dL_law_853 rfl 3 rfl ?_
  refine l_iload hX dL_law_854 rfl 0 rfl ?_
  refine l_iconst hX dL_law_855 (z := (1 : Int32)) (by decide) ?_
  refine l_iadd hX dL_law_856 ?_
  refine l_sld hX (vin5 hj hL 1 (by decide)) rfl dL_law_857 ?_
  refine l_callMi hX miX7_addScene hV (fun u hu => cX7_addScene_ok (xl X) hu hf2) cls7 g4_97 g4_98 g4_99 ⟨(Nat.le_of_ble_eq_true rfl), (Nat.le_of_ble_eq_true rfl)⟩ dL_law_858 rfl (As := [.int (xs' (ix (nI (6 * j) + (1 : Int32))))]) (rest := [.int r]) rfl (Nat.le_of_ble_eq_true rfl) ?_
  refine l_same hX dL_law_861 (tgt := 915) (by decide) ?_
  exact kk _ _ _ _ _ hX hW hF hR ⟨by omega, by omega⟩ hq
set_option maxRecDepth 20000 in
set_option maxHeartbeats 2000000 in
theorem lc_19 {R : RelT} {X : Cx} {w v : Wp} {σ τ : St} {b L j bd : Nat} {xs' : Nat → Int32} (hstep : StS R (fun σ => fX6_clearScenes σ ) (fun τ => fX7_clearScenes τ )) (hX : OL X w v b L xs') (hW : CW w) (hV : MW v) (hF : Fre w bd) (hRel : R σ τ bd) (hj : 6 * j + 6 ≤ L) (hL : L ≤ 3072) (hcap : xcl X + 104 ≤ 600000 ∧ xsl X + 3032 ≤ 7302249) (hq : OQ X b) (kk : ∀ (X' : Cx) (w' : Wp) (σ' τ' : St) (bd' : Nat), OL X' w' v b L xs' → CW w' → Fre w' bd' → R σ' τ' bd' → (xcl X' ≤ xcl X + 4 ∧ xsl X' ≤ xsl X + 32) → OQ X' b → JL X' w' v σ' τ' 915 [(3, .int (nI (6 * j))), (1, rf w' 0), (2, rf v 0), (0, .ref b)] []) : JL X w v σ τ 866 [(3, .int (nI (6 * j))), (1, rf w 0), (2, rf v 0), (0, .ref b)] [] := by
  obtain ⟨r, σ', τ', hf1, hf2, hR⟩ := hstep  σ τ bd hRel
  refine l_aload hX dL_law_866 rfl 1 rfl ?_
  refine l_callCi hX miX6_clearScenes hW (fun u hu => cX6_clearScenes_ok (xl X) hu hf1) cls6 g3_31 g3_32 g3_33 ⟨(Nat.le_of_ble_eq_true rfl), (Nat.le_of_ble_eq_true rfl)⟩ dL_law_867 rfl (As := []) (rest := []) rfl (Nat.le_of_ble_eq_true rfl) ?_
  refine l_aload hX dL_law_870 rfl 2 rfl ?_
  refine l_callMi hX miX7_clearScenes hV (fun u hu => cX7_clearScenes_ok (xl X) hu hf2) cls7 g4_101 g4_102 g4_103 ⟨(Nat.le_of_ble_eq_true rfl), (Nat.le_of_ble_eq_true rfl)⟩ dL_law_871 rfl (As := []) (rest := [.int r]) rfl (Nat.le_of_ble_eq_true rfl) ?_
  refine l_same hX dL_law_874 (tgt := 915) (by decide) ?_
  exact kk _ _ _ _ _ hX hW hF hR ⟨by omega, by omega⟩ hq
set_option maxRecDepth 20000 in
set_option maxHeartbeats 2000000 in
theorem lc_20 {R : RelT} {X : Cx} {w v : Wp} {σ τ : St} {b L j bd : Nat} {xs' : Nat → Int32} (hstep : ∀ x1 : Int32, StM R (fun σ => fX6_bestScene σ x1) (fun τ => fX7_bestScene τ x1)) (hX : OL X w v b L xs') (hW : CW w) (hV : MW v) (hF : Fre w bd) (hRel : R σ τ bd) (hj : 6 * j + 6 ≤ L) (hL : L ≤ 3072) (hcap : xcl X + 104 ≤ 600000 ∧ xsl X + 3032 ≤ 7302249) (hq : OQ X b) (kk : ∀ (X' : Cx) (w' : Wp) (σ' τ' : St) (bd' : Nat), OL X' w' v b L xs' → CW w' → Fre w' bd' → R σ' τ' bd' → (xcl X' ≤ xcl X + 4 ∧ xsl X' ≤ xsl X + 32) → OQ X' b → JL X' w' v σ' τ' 915 [(3, .int (nI (6 * j))), (1, rf w' 0), (2, rf v 0), (0, .ref b)] []) : JL X w v σ τ 879 [(3, .int (nI (6 * j))), (1, rf w 0), (2, rf v 0), (0, .ref b)] [] := by
  obtain ⟨r, τ', hf1, hf2, hR⟩ := hstep (xs' (ix (nI (6 * j) + (1 : Int32)))) σ τ bd hRel
  refine l_aload hX dL_law_879 rfl 1 rfl ?_
  refine l_aload hX dL_law_880 rfl 3 rfl ?_
  refine l_iload hX dL_law_881 rfl 0 rfl ?_
  refine l_iconst hX dL_law_882 (z := (1 : Int32)) (by decide) ?_
  refine l_iadd hX dL_law_883 ?_
  refine l_sld hX (vin5 hj hL 1 (by decide)) rfl dL_law_884 ?_
  refine l_callCi hX miX6_bestScene hW (fun u hu => cX6_bestScene_ok (xl X) hu hf1) cls6 g3_39 g3_40 g3_41 ⟨(Nat.le_of_ble_eq_true rfl), (Nat.le_of_ble_eq_true rfl)⟩ dL_law_885 rfl (As := [.int (xs' (ix (nI (6 * j) + (1 : Int32))))]) (rest := []) rfl (Nat.le_of_ble_eq_true rfl) ?_
  refine l_aload hX dL_law_888 rfl 2 rfl ?_
  refine l_aload hX dL_law_889 rfl 3 rfl ?_
  refine l_iload hX dL_law_890 rfl 0 rfl ?_
  refine l_iconst hX dL_law_891 (z := (1 : Int32)) (by decide) ?_
  refine l_iadd hX dL_law_892 ?_
  refine l_sld hX (vin5 hj hL 1 (by decide)) rfl dL_law_893 ?_
  refine l_callMi hX miX7_bestScene hV (fun u hu => cX7_bestScene_ok (xl X) hu hf2) cls7 g4_105 g4_106 g4_107 ⟨(Nat.le_of_ble_eq_true rfl), (Nat.le_of_ble_eq_true rfl)⟩ dL_law_894 rfl (As := [.int (xs' (ix (nI (6 * j) + (1 : Int32))))]) (rest := [.int r]) rfl (Nat.le_of_ble_eq_true rfl) ?_
  refine l_same hX dL_law_897 (tgt := 915) (by decide) ?_
  exact kk _ _ _ _ _ hX hW hF hR ⟨by omega, by omega⟩ hq
set_option maxRecDepth 20000 in
set_option maxHeartbeats 2000000 in
theorem lc_21 {R : RelT} {X : Cx} {w v : Wp} {σ τ : St} {b L j bd : Nat} {xs' : Nat → Int32} (hstep : StM R (fun σ => fX6_bestCost σ ) (fun τ => fX7_bestCost τ )) (hX : OL X w v b L xs') (hW : CW w) (hV : MW v) (hF : Fre w bd) (hRel : R σ τ bd) (hj : 6 * j + 6 ≤ L) (hL : L ≤ 3072) (hcap : xcl X + 104 ≤ 600000 ∧ xsl X + 3032 ≤ 7302249) (hq : OQ X b) (kk : ∀ (X' : Cx) (w' : Wp) (σ' τ' : St) (bd' : Nat), OL X' w' v b L xs' → CW w' → Fre w' bd' → R σ' τ' bd' → (xcl X' ≤ xcl X + 4 ∧ xsl X' ≤ xsl X + 32) → OQ X' b → JL X' w' v σ' τ' 915 [(3, .int (nI (6 * j))), (1, rf w' 0), (2, rf v 0), (0, .ref b)] []) : JL X w v σ τ 902 [(3, .int (nI (6 * j))), (1, rf w 0), (2, rf v 0), (0, .ref b)] [] := by
  obtain ⟨r, τ', hf1, hf2, hR⟩ := hstep  σ τ bd hRel
  refine l_aload hX dL_law_902 rfl 1 rfl ?_
  refine l_callCi hX miX6_bestCost hW (fun u hu => cX6_bestCost_ok (xl X) hu hf1) cls6 g3_47 g3_48 g3_49 ⟨(Nat.le_of_ble_eq_true rfl), (Nat.le_of_ble_eq_true rfl)⟩ dL_law_903 rfl (As := []) (rest := []) rfl (Nat.le_of_ble_eq_true rfl) ?_
  refine l_aload hX dL_law_906 rfl 2 rfl ?_
  refine l_callMi hX miX7_bestCost hV (fun u hu => cX7_bestCost_ok (xl X) hu hf2) cls7 g4_125 g4_126 g4_127 ⟨(Nat.le_of_ble_eq_true rfl), (Nat.le_of_ble_eq_true rfl)⟩ dL_law_907 rfl (As := []) (rest := [.int r]) rfl (Nat.le_of_ble_eq_true rfl) ?_
  refine l_same hX dL_law_910 (tgt := 915) (by decide) ?_
  exact kk _ _ _ _ _ hX hW hF hR ⟨by omega, by omega⟩ hq
