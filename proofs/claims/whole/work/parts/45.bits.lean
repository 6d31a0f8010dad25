-- ===== sets as bits =====
theorem nI_or (a b : Nat) : nI a ||| nI b = nI (a ||| b) := by
  apply Int32.toBitVec_inj.mp
  show BitVec.ofNat 32 a ||| BitVec.ofNat 32 b = BitVec.ofNat 32 (a ||| b)
  apply BitVec.eq_of_toNat_eq
  rw [BitVec.toNat_or, BitVec.toNat_ofNat, BitVec.toNat_ofNat, BitVec.toNat_ofNat, Nat.or_mod_two_pow]
theorem nI_and (a b : Nat) : nI a &&& nI b = nI (a &&& b) := by
  apply Int32.toBitVec_inj.mp
  show BitVec.ofNat 32 a &&& BitVec.ofNat 32 b = BitVec.ofNat 32 (a &&& b)
  apply BitVec.eq_of_toNat_eq
  rw [BitVec.toNat_and, BitVec.toNat_ofNat, BitVec.toNat_ofNat, BitVec.toNat_ofNat, Nat.and_mod_two_pow]
theorem nI_xor (a b : Nat) : nI a ^^^ nI b = nI (a ^^^ b) := by
  apply Int32.toBitVec_inj.mp
  show BitVec.ofNat 32 a ^^^ BitVec.ofNat 32 b = BitVec.ofNat 32 (a ^^^ b)
  apply BitVec.eq_of_toNat_eq
  rw [BitVec.toNat_xor, BitVec.toNat_ofNat, BitVec.toNat_ofNat, BitVec.toNat_ofNat, Nat.xor_mod_two_pow]
theorem nI_m1 : (-1 : Int32) = nI (2 ^ 32 - 1) := by decide
/-- taking away a set -/
def dif (u v : Nat) : Nat := u &&& (v ^^^ (2 ^ 32 - 1))
theorem nI_dif (u v : Nat) : nI u &&& (nI v ^^^ (-1 : Int32)) = nI (dif u v) := by rw [nI_m1, nI_xor, nI_and]; rfl
theorem dif_bit {u v b : Nat} (hb : b < 32) : (dif u v).testBit b = (u.testBit b && !v.testBit b) := by
  unfold dif
  rw [Nat.testBit_and, Nat.testBit_xor, Nat.testBit_two_pow_sub_one, decide_eq_true hb, Bool.xor_true]
theorem dif_le (u v : Nat) : dif u v ≤ u := Nat.and_le_left
theorem and_pair (u a b : Nat) : (u &&& (2 ^ a ||| 2 ^ b)) = (2 ^ a ||| 2 ^ b) ↔ (u.testBit a = true ∧ u.testBit b = true) := by
  constructor
  · intro h
    constructor
    · have := congrArg (fun z => z.testBit a) h
      simp only [Nat.testBit_and, Nat.testBit_or, Nat.testBit_two_pow_self, Bool.true_or, Bool.and_true] at this
      exact this
    · have := congrArg (fun z => z.testBit b) h
      simp only [Nat.testBit_and, Nat.testBit_or, Nat.testBit_two_pow_self, Bool.or_true, Bool.and_true] at this
      exact this
  · rintro ⟨h1, h2⟩
    apply Nat.eq_of_testBit_eq
    intro i
    rw [Nat.testBit_and, Nat.testBit_or, Nat.testBit_two_pow, Nat.testBit_two_pow]
    by_cases e1 : a = i
    · subst e1; simp [h1]
    · by_cases e2 : b = i
      · subst e2; simp [h2]
      · simp [e1, e2]
def popN : Nat → Nat → Nat
  | 0 => fun _ => 0
  | q + 1 => fun m => m % 2 + popN q (m / 2)
theorem popN_0 : ∀ q, popN q 0 = 0 := by
  intro q
  induction q with
  | zero => rfl
  | succ q ih => show 0 % 2 + popN q (0 / 2) = 0; rw [Nat.zero_div, ih]
theorem popN_le : ∀ q m, popN q m ≤ q := by
  intro q
  induction q with
  | zero => intro m; exact Nat.le_refl _
  | succ q ih =>
    intro m
    have := ih (m / 2)
    show m % 2 + popN q (m / 2) ≤ q + 1
    omega
theorem shr1 : ∀ m : Fin 512, nI m.val >>> ((1 : Int32) &&& 31) = nI (m.val / 2) := by decide +kernel
theorem bits_loop : ∀ (q m N x : Nat), m < 2 ^ q → q ≤ 9 → q < N → fX7_bits_L4 N (nI x) (nI m) = some (nI (x + popN q m)) := by
  intro q
  induction q with
  | zero =>
    intro m N x hm _ hN
    obtain ⟨N, rfl⟩ : ∃ z, N = z + 1 := ⟨N - 1, by omega⟩
    rw [fX7_bits_L4_s, show m = 0 by omega, if_pos (by decide)]
    rfl
  | succ q ih =>
    intro m N x hm hq hN
    obtain ⟨N, rfl⟩ : ∃ z, N = z + 1 := ⟨N - 1, by omega⟩
    rw [fX7_bits_L4_s]
    have h9 : 2 ^ (q + 1) ≤ 2 ^ 9 := Nat.pow_le_pow_right (by decide) hq
    have e9 : 2 ^ 9 = 512 := by decide
    have h512 : m < 512 := by omega
    by_cases e : m = 0
    · subst e
      rw [if_pos (by decide), popN_0, Nat.add_zero]
    · have hpos : ¬ nI m ≤ 0 := by
        rw [leI, nI_toInt (by omega)]
        show ¬ ((m : Int) ≤ 0)
        omega
      rw [if_neg hpos, show nI m >>> ((1 : Int32) &&& 31) = nI (m / 2) from shr1 ⟨m, h512⟩, show (1 : Int32) = nI 1 from rfl, nI_and, Nat.and_one_is_mod, nI_add]
      rw [ih (m / 2) N (x + m % 2) (by rw [Nat.pow_succ] at hm; omega) (by omega) (by omega)]
      show some (nI (x + m % 2 + popN q (m / 2))) = some (nI (x + (m % 2 + popN q (m / 2))))
      rw [Nat.add_assoc]
theorem bits_e {m : Nat} (h : m < 512) : fX7_bits (nI m) = some (nI (popN 9 m)) := by
  unfold fX7_bits
  have := bits_loop 9 m FU 0 h (by decide) (by rw [FU_big]; decide)
  rw [nI_0, Nat.zero_add] at this
  exact this
theorem bitCount_f : ∀ c : Fin 512, fJ6_bitCount_0f7a4 (nI c.val) = nI (popN 9 c.val) := by decide +kernel
theorem bitCount_e {c : Nat} (h : c < 512) : fJ6_bitCount_0f7a4 (nI c) = nI (popN 9 c) := bitCount_f ⟨c, h⟩
/-- the reference's set of rods as the class's -/
def cnv (m : Nat) : Nat := m % 256 * 2 + m / 256
theorem cnv_f : ∀ m : Fin 512, cnv m.val < 512 ∧ popN 9 (cnv m.val) = popN 9 m.val ∧ (cnv m.val).testBit 0 = m.val.testBit 8 ∧ ∀ b : Fin 8, (cnv m.val).testBit (b.val + 1) = m.val.testBit b.val := by decide +kernel
theorem cnv_of {c m : Nat} (hc : c < 512) (hm : m < 512) (h0 : c.testBit 0 = m.testBit 8) (h1 : ∀ b, b < 8 → c.testBit (b + 1) = m.testBit b) : c = cnv m := by
  obtain ⟨g1, -, g3, g4⟩ := cnv_f ⟨m, hm⟩
  apply Nat.eq_of_testBit_eq
  intro i
  rcases Nat.eq_zero_or_pos i with e | e
  · subst e; rw [h0]; exact g3.symm
  · obtain ⟨b, rfl⟩ : ∃ b, i = b + 1 := ⟨i - 1, by omega⟩
    by_cases hb : b < 8
    · rw [h1 b hb]; exact (g4 ⟨b, hb⟩).symm
    · have hp : 512 ≤ 2 ^ (b + 1) := by
        have : 2 ^ 9 ≤ 2 ^ (b + 1) := Nat.pow_le_pow_right (by decide) (by omega)
        have e9 : 2 ^ 9 = 512 := by decide
        omega
      rw [Nat.testBit_lt_two_pow (by omega), Nat.testBit_lt_two_pow (show cnv m < 2 ^ (b + 1) from Nat.lt_of_lt_of_le g1 hp)]
theorem pow_rod : ∀ l : Fin 9, fX4_rodBit (nI l.val - 1) = nI (2 ^ l.val) := by decide +kernel
theorem rod_e {x : Int32} {l : Nat} (hl : l < 9) (h : x + 1 = nI l) : fX4_rodBit x = nI (2 ^ l) := by
  have := pow_rod ⟨l, hl⟩
  have e : nI l - 1 = x := by rw [← h]; exact Int32.add_sub_cancel x 1
  rw [← e]; exact this
theorem shl_e : ∀ l : Fin 9, (1 : Int32) <<< (nI l.val &&& 31) = nI (2 ^ l.val) := by decide +kernel
theorem shr_bit : ∀ w : Fin 512, ∀ l : Fin 8, (((nI w.val >>> (nI l.val &&& 31)) &&& (1 : Int32)) = (1 : Int32)) ↔ (w.val.testBit l.val = true) := by decide +kernel
theorem pop_pair : ∀ u : Fin 512, ∀ a : Fin 9, ∀ b : Fin 9, u.val.testBit a.val = true → u.val.testBit b.val = true → a.val ≠ b.val → popN 9 (dif u.val (2 ^ a.val ||| 2 ^ b.val)) + 2 = popN 9 u.val := by decide +kernel
theorem pop_odd : ∀ c : Fin 512, nI c.val &&& ((fX4_rodBit (-1 : Int32)) ^^^ (-1 : Int32)) = nI (dif c.val 1) ∧ popN 9 (dif c.val 1) ≤ popN 9 c.val ∧ (c.val ≠ 0 → 1 ≤ popN 9 c.val) := by decide +kernel
