-- ===== the next order =====
def pvt (o : Nat → Nat) : Nat → Nat
  | 0 => 0
  | x + 1 => if o (x + 1) ≤ o (x + 2) then x + 1 else pvt o x
def swp (o : Nat → Nat) (p : Nat) : Nat → Nat
  | 0 => 0
  | x + 1 => if o p ≤ o (x + 1) then x + 1 else swp o p x
def xch (o : Nat → Nat) (a b : Nat) : Nat → Nat := fun i => if i = b then o a else if i = a then o b else o i
def rvs : Nat → (Nat → Nat) → Nat → Nat → Nat → Nat
  | 0 => fun o _ _ => o
  | q + 1 => fun o a b => if b ≤ a then o else rvs q (xch o a b) (a + 1) (b - 1)
def nxo (n : Nat) (o : Nat → Nat) : Option (Nat → Nat) := match pvt o (n - 2) with
  | 0 => none
  | p + 1 => match swp o (p + 1) (n - 1) with
    | 0 => none
    | s + 1 => some (rvs 8 (xch o (p + 1) (s + 1)) (p + 1 + 1) (n - 1))
def nxl (n : Nat) (l : List Nat) : Option (List Nat) := (nxo n (fun i => l.getD i 0)).map (fun o => (List.range n).map o)
def okl (n : Nat) (l : List Nat) : Bool := l.length == n && l.all (fun x => decide (x < n))
def chk (n : Nat) : List Nat → List (List Nat) → Bool
  | l, [] => okl n l && (nxl n l == none)
  | l, l' :: r => okl n l && (nxl n l == some l') && chk n l' r
def ords (n : Nat) : List (List Nat) := (en n (n - 1) (2 ^ (n - 1) - 1)).map (fun r => 0 :: r)
def chkAll (n : Nat) : Bool := match ords n with
  | [] => false
  | l :: r => l == List.range n && chk n l r
theorem chk_1 : chkAll 1 = true := by decide +kernel
theorem chk_2 : chkAll 2 = true := by decide +kernel
theorem chk_3 : chkAll 3 = true := by decide +kernel
theorem chk_4 : chkAll 4 = true := by decide +kernel
theorem chk_5 : chkAll 5 = true := by decide +kernel
theorem chk_6 : chkAll 6 = true := by decide +kernel
theorem chk_7 : chkAll 7 = true := by decide +kernel
-- eight scenes, in seven blocks
def chkT (n : Nat) : List Nat → List (List Nat) → List Nat → Bool
  | l, [] => fun l2 => okl n l && (nxl n l == some l2)
  | l, l' :: r => fun l2 => okl n l && (nxl n l == some l') && chkT n l' r l2
def blk (nx : Nat) : List (List Nat) := (en 8 6 (127 - 2 ^ (nx - 1))).map (fun r => 0 :: nx :: r)
def chkB (nx : Nat) (l0 l2 : List Nat) : Bool := match blk nx with
  | [] => false
  | l :: r => l == l0 && chkT 8 l r l2
def chkE (nx : Nat) (l0 : List Nat) : Bool := match blk nx with
  | [] => false
  | l :: r => l == l0 && chk 8 l r
theorem chkB_1 : chkB 1 [0, 1, 2, 3, 4, 5, 6, 7] [0, 2, 1, 3, 4, 5, 6, 7] = true := by decide +kernel
theorem chkB_2 : chkB 2 [0, 2, 1, 3, 4, 5, 6, 7] [0, 3, 1, 2, 4, 5, 6, 7] = true := by decide +kernel
theorem chkB_3 : chkB 3 [0, 3, 1, 2, 4, 5, 6, 7] [0, 4, 1, 2, 3, 5, 6, 7] = true := by decide +kernel
theorem chkB_4 : chkB 4 [0, 4, 1, 2, 3, 5, 6, 7] [0, 5, 1, 2, 3, 4, 6, 7] = true := by decide +kernel
theorem chkB_5 : chkB 5 [0, 5, 1, 2, 3, 4, 6, 7] [0, 6, 1, 2, 3, 4, 5, 7] = true := by decide +kernel
theorem chkB_6 : chkB 6 [0, 6, 1, 2, 3, 4, 5, 7] [0, 7, 1, 2, 3, 4, 5, 6] = true := by decide +kernel
theorem chkB_7 : chkE 7 [0, 7, 1, 2, 3, 4, 5, 6] = true := by decide +kernel
