/-! rings: the class's and the model's -/
def fc (n : Nat) (k : Nat → Bool) : Bool := match n with
  | 0 => k 0
  | m + 1 => k (m + 1)
theorem fc_eq (n : Nat) (k : Nat → Bool) : fc n k = k n := by cases n <;> rfl
/-- the class's walk -/
def rW (x : Nat → Nat) (n p : Nat) : Nat → Nat → Nat → Nat
  | 0, _, _ => 0
  | s + 1, ring, at' => if at' < n then (if p ≤ at' then (if x at' = p then ring ||| 2 ^ at' else rW x n p s (ring ||| 2 ^ at') (x at')) else 0) else 0
/-- of a list told backwards -/
def xb (n : Nat) (x : List Nat) : Nat → Nat := fun q => x.getD (n - 1 - q) 9
def fn (n : Nat) (k : Nat → Nat) : Nat := match n with
  | 0 => k 0
  | m + 1 => k (m + 1)
theorem fn_eq (n : Nat) (k : Nat → Nat) : fn n k = k n := by cases n <;> rfl
def rFf (x : Nat → Nat) (p : Nat) : Nat → Nat → Nat → Nat
  | 0, b, t => fn t (fun t => if Nat.beq t p = true then b else 0)
  | f + 1, b, t => fn t (fun t => if (Nat.beq t 9 || Nat.beq t p) = true then (if Nat.beq t p = true then b else 0) else fn (b ||| 2 ^ t) (fun b => rFf x p f b (x t)))
def rWf (x : Nat → Nat) (n p : Nat) : Nat → Nat → Nat → Nat
  | 0, _, _ => 0
  | s + 1, ring, at' => fn at' (fun at' => if Nat.blt at' n = true then (if Nat.ble p at' = true then fn (ring ||| 2 ^ at') (fun ring => fn (x at') (fun nx => if Nat.beq nx p = true then ring else rWf x n p s ring nx)) else 0) else 0)
/-- all rings agree; r places are left, from place q on -/
def rk (n : Nat) (x : List Nat) : Nat → Nat → Nat → Bool
  | 0, _, _ => true
  | r + 1, q, dn => fc (if dn.testBit q = true then 0 else rFf (xb n x) q n (2 ^ q) (xb n x q)) (fun bt => Nat.beq (rWf (xb n x) n q n 0 q) bt && fc (dn ||| bt) (fun d2 => rk n x r (q + 1) d2))
def ck (n : Nat) (P : List Nat → Bool) : Nat → List Nat → Bool
  | 0, x => P x
  | r + 1, x => (List.range n).all (fun j => x.contains j || ck n P r (j :: x)) && ck n P r (9 :: x)
theorem ck1 : ck 1 (fun x => rk 1 x 1 0 0) 1 [] = true := by decide +kernel
theorem ck2 : ck 2 (fun x => rk 2 x 2 0 0) 2 [] = true := by decide +kernel
theorem ck3 : ck 3 (fun x => rk 3 x 3 0 0) 3 [] = true := by decide +kernel
theorem ck4 : ck 4 (fun x => rk 4 x 4 0 0) 4 [] = true := by decide +kernel
theorem ck5 : ck 5 (fun x => rk 5 x 5 0 0) 5 [] = true := by decide +kernel
