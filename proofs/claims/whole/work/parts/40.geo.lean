-- ===== two segments in the eight directions =====
def dir8 (x y : Int) : Prop := (x = 1 ∧ y = 0) ∨ (x = 1 ∧ y = 1) ∨ (x = 0 ∧ y = 1) ∨ (x = -1 ∧ y = 1) ∨ (x = -1 ∧ y = 0) ∨ (x = -1 ∧ y = -1) ∨ (x = 0 ∧ y = -1) ∨ (x = 1 ∧ y = -1)
def kC (L M N O f1 f2 f3 f4 X Y : Int) : Prop := (min X (X + M) ≤ max 0 L ∧ min 0 L ≤ max X (X + M)) ∧ (min Y (Y + N) ≤ max 0 O ∧ min 0 O ≤ max Y (Y + N)) ∧ (¬ (0 < f1 ∧ 0 < f2) ∧ ¬ (f1 < 0 ∧ f2 < 0)) ∧ (¬ (0 < f3 ∧ 0 < f4) ∧ ¬ (f3 < 0 ∧ f4 < 0))
def gC (sx sy tx ty X Y l m : Int) : Prop := kC (l * sx) (m * tx) (m * ty) (l * sy) (sx * Y - sy * X) (sx * (Y + m * ty) - sy * (X + m * tx)) (ty * X - tx * Y) (tx * (l * sy - Y) - ty * (l * sx - X)) X Y
def btw (a b x : Int) : Prop := min a b ≤ x ∧ x ≤ max a b
def kM (L M N O f1 f2 f3 f4 X Y : Int) : Prop := (f1 = 0 ∧ btw 0 L X ∧ btw 0 O Y) ∨ (f2 = 0 ∧ btw 0 L (X + M) ∧ btw 0 O (Y + N)) ∨ (f3 = 0 ∧ btw X (X + M) 0 ∧ btw Y (Y + N) 0) ∨ (f4 = 0 ∧ btw X (X + M) L ∧ btw Y (Y + N) O) ∨ (((0 < f1 ∧ f2 < 0) ∨ (f1 < 0 ∧ 0 < f2)) ∧ ((0 < f3 ∧ f4 < 0) ∨ (f3 < 0 ∧ 0 < f4)))
def gM (sx sy tx ty X Y l m : Int) : Prop := kM (l * sx) (m * tx) (m * ty) (l * sy) (sx * Y - sy * X) (sx * (Y + m * ty) - sy * (X + m * tx)) (ty * X - tx * Y) (tx * (l * sy - Y) - ty * (l * sx - X)) X Y
theorem geo10 {tx ty X Y l m : Int} (ht : dir8 tx ty) (hl : 1 ≤ l) (hm : 1 ≤ m) : gC 1 0 tx ty X Y l m ↔ gM 1 0 tx ty X Y l m := by
  unfold gC gM kC kM btw
  rcases ht with ⟨rfl, rfl⟩ | ⟨rfl, rfl⟩ | ⟨rfl, rfl⟩ | ⟨rfl, rfl⟩ | ⟨rfl, rfl⟩ | ⟨rfl, rfl⟩ | ⟨rfl, rfl⟩ | ⟨rfl, rfl⟩ <;> simp only [show min X (X + m * 1) = X by omega, show min X (X + m * 0) = X by omega, show min X (X + m * (-1)) = X - m by omega, show max X (X + m * 1) = X + m by omega, show max X (X + m * 0) = X by omega, show max X (X + m * (-1)) = X by omega, show min Y (Y + m * 1) = Y by omega, show min Y (Y + m * 0) = Y by omega, show min Y (Y + m * (-1)) = Y - m by omega, show max Y (Y + m * 1) = Y + m by omega, show max Y (Y + m * 0) = Y by omega, show max Y (Y + m * (-1)) = Y by omega, show min 0 (l * 1) = 0 by omega, show min 0 (l * 0) = 0 by omega, show max 0 (l * 1) = l by omega, show max 0 (l * 0) = 0 by omega] <;> omega
theorem geo11 {tx ty X Y l m : Int} (ht : dir8 tx ty) (hl : 1 ≤ l) (hm : 1 ≤ m) : gC 1 1 tx ty X Y l m ↔ gM 1 1 tx ty X Y l m := by
  unfold gC gM kC kM btw
  rcases ht with ⟨rfl, rfl⟩ | ⟨rfl, rfl⟩ | ⟨rfl, rfl⟩ | ⟨rfl, rfl⟩ | ⟨rfl, rfl⟩ | ⟨rfl, rfl⟩ | ⟨rfl, rfl⟩ | ⟨rfl, rfl⟩ <;> simp only [show min X (X + m * 1) = X by omega, show min X (X + m * 0) = X by omega, show min X (X + m * (-1)) = X - m by omega, show max X (X + m * 1) = X + m by omega, show max X (X + m * 0) = X by omega, show max X (X + m * (-1)) = X by omega, show min Y (Y + m * 1) = Y by omega, show min Y (Y + m * 0) = Y by omega, show min Y (Y + m * (-1)) = Y - m by omega, show max Y (Y + m * 1) = Y + m by omega, show max Y (Y + m * 0) = Y by omega, show max Y (Y + m * (-1)) = Y by omega, show min 0 (l * 1) = 0 by omega, show min 0 (l * 0) = 0 by omega, show max 0 (l * 1) = l by omega, show max 0 (l * 0) = 0 by omega] <;> omega

def geoP (sx sy : Int) : Prop := ∀ tx ty X Y l m, dir8 tx ty → 1 ≤ l → 1 ≤ m → (gC sx sy tx ty X Y l m ↔ gM sx sy tx ty X Y l m)
theorem kC_rx (L M N O f1 f2 f3 f4 X Y : Int) : kC (-L) (-M) N O (-f1) (-f2) (-f3) (-f4) (-X) Y ↔ kC L M N O f1 f2 f3 f4 X Y := and_congr (by omega) (and_congr Iff.rfl (and_congr (by omega) (by omega)))
theorem kC_sw (L M N O f1 f2 f3 f4 X Y : Int) : kC O N M L (-f1) (-f2) (-f3) (-f4) Y X ↔ kC L M N O f1 f2 f3 f4 X Y := by
  have h1 : (¬ (0 < -f1 ∧ 0 < -f2) ∧ ¬ (-f1 < 0 ∧ -f2 < 0)) ↔ (¬ (0 < f1 ∧ 0 < f2) ∧ ¬ (f1 < 0 ∧ f2 < 0)) := by omega
  have h2 : (¬ (0 < -f3 ∧ 0 < -f4) ∧ ¬ (-f3 < 0 ∧ -f4 < 0)) ↔ (¬ (0 < f3 ∧ 0 < f4) ∧ ¬ (f3 < 0 ∧ f4 < 0)) := by omega
  unfold kC
  rw [h1, h2]
  exact ⟨fun h => ⟨h.2.1, h.1, h.2.2⟩, fun h => ⟨h.2.1, h.1, h.2.2⟩⟩
theorem or5 {a b c d e a' b' c' d' e' : Prop} (h1 : a ↔ a') (h2 : b ↔ b') (h3 : c ↔ c') (h4 : d ↔ d') (h5 : e ↔ e') : (a ∨ b ∨ c ∨ d ∨ e) ↔ (a' ∨ b' ∨ c' ∨ d' ∨ e') := or_congr h1 (or_congr h2 (or_congr h3 (or_congr h4 h5)))
theorem kM_rx (L M N O f1 f2 f3 f4 X Y : Int) : kM (-L) (-M) N O (-f1) (-f2) (-f3) (-f4) (-X) Y ↔ kM L M N O f1 f2 f3 f4 X Y := by
  unfold kM btw
  exact or5 (and_congr (by omega) (and_congr (by omega) Iff.rfl)) (and_congr (by omega) (and_congr (by omega) Iff.rfl)) (and_congr (by omega) (and_congr (by omega) Iff.rfl)) (and_congr (by omega) (and_congr (by omega) Iff.rfl)) (and_congr (by omega) (by omega))
theorem kM_sw (L M N O f1 f2 f3 f4 X Y : Int) : kM O N M L (-f1) (-f2) (-f3) (-f4) Y X ↔ kM L M N O f1 f2 f3 f4 X Y := by
  unfold kM
  exact or5 (and_congr (by omega) and_comm) (and_congr (by omega) and_comm) (and_congr (by omega) and_comm) (and_congr (by omega) and_comm) (and_congr (by omega) (by omega))
theorem dir8_rx {x y : Int} (h : dir8 x y) : dir8 (-x) y := by unfold dir8 at *; omega
theorem dir8_sw {x y : Int} (h : dir8 x y) : dir8 y x := by unfold dir8 at *; omega
theorem geo_rx {sx sy : Int} (h : geoP sx sy) : geoP (-sx) sy := by
  intro tx ty X Y l m ht hl hm
  have g := h (-tx) ty (-X) Y l m (dir8_rx ht) hl hm
  unfold gC gM at *
  rw [← kC_rx, ← kM_rx] at g
  have e1 : -(l * sx) = l * -sx := by rw [Int.mul_neg]
  have e2 : -(m * -tx) = m * tx := by rw [Int.mul_neg, Int.neg_neg]
  have e3 : -(sx * Y - sy * -X) = -sx * Y - sy * X := by simp only [Int.mul_neg, Int.neg_mul]; omega
  have e4 : -(sx * (Y + m * ty) - sy * (-X + m * -tx)) = -sx * (Y + m * ty) - sy * (X + m * tx) := by simp only [Int.mul_add, Int.mul_neg, Int.neg_mul]; omega
  have e5 : -(ty * -X - -tx * Y) = ty * X - tx * Y := by simp only [Int.mul_neg, Int.neg_mul]; omega
  have e6 : -(-tx * (l * sy - Y) - ty * (l * sx - -X)) = tx * (l * sy - Y) - ty * (l * -sx - X) := by simp only [Int.mul_sub, Int.mul_neg, Int.neg_mul]; omega
  rw [e1, e2, e3, e4, e5, e6, Int.neg_neg] at g
  exact g
theorem geo_sw {sx sy : Int} (h : geoP sx sy) : geoP sy sx := by
  intro tx ty X Y l m ht hl hm
  have g := h ty tx Y X l m (dir8_sw ht) hl hm
  unfold gC gM at *
  rw [← kC_sw, ← kM_sw] at g
  have e3 : -(sx * X - sy * Y) = sy * Y - sx * X := by omega
  have e4 : -(sx * (X + m * tx) - sy * (Y + m * ty)) = sy * (Y + m * ty) - sx * (X + m * tx) := by omega
  have e5 : -(tx * Y - ty * X) = ty * X - tx * Y := by omega
  have e6 : -(ty * (l * sy - X) - tx * (l * sx - Y)) = tx * (l * sx - Y) - ty * (l * sy - X) := by omega
  rw [e3, e4, e5, e6] at g
  exact g
theorem geo_all {sx sy : Int} (h : dir8 sx sy) : geoP sx sy := by
  have a1 : geoP 1 0 := fun _ _ _ _ _ _ ht hl hm => geo10 ht hl hm
  have a2 : geoP 1 1 := fun _ _ _ _ _ _ ht hl hm => geo11 ht hl hm
  have a3 : geoP (-1) 0 := geo_rx a1
  have a4 : geoP (-1) 1 := geo_rx a2
  have a5 : geoP 1 (-1) := geo_sw a4
  rcases h with ⟨rfl, rfl⟩ | ⟨rfl, rfl⟩ | ⟨rfl, rfl⟩ | ⟨rfl, rfl⟩ | ⟨rfl, rfl⟩ | ⟨rfl, rfl⟩ | ⟨rfl, rfl⟩ | ⟨rfl, rfl⟩
  · exact a1
  · exact a2
  · exact geo_sw a1
  · exact a4
  · exact a3
  · exact geo_rx a5
  · exact geo_sw a3
  · exact a5
