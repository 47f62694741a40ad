/-! walks, paths, rings and what a set falls into, as lists of cells (bits) -/
def frc {α : Type} (n : Nat) (k : Nat → α) : α := match n with
  | 0 => k 0
  | m + 1 => k (m + 1)
theorem frc_eq {α : Type} (n : Nat) (k : Nat → α) : frc n k = k n := by cases n <;> rfl
def cb (i j : Nat) : Nat := 2 ^ (6 * (5 - i) + j)
/-- walks through all of s that end at t -/
def wlk : Nat → Nat → Nat → List Nat
  | 0, _, _ => []
  | f + 1, s, t => if s.testBit t = true then (if Nat.beq (s - 2 ^ t) 0 = true then [0] else (List.range 6).flatMap (fun k => (wlk f (s - 2 ^ t) k).map (fun m => m ||| cb k t))) else []
/-- the same, begun at the least place -/
def rlk : Nat → Nat → Nat → List Nat
  | 0, _, _ => []
  | f + 1, s, t => if s.testBit t = true then (if Nat.beq (s - 2 ^ t) 0 = true then [0] else if Nat.beq t (zb_tz s) = true then [] else (List.range 6).flatMap (fun k => (rlk f (s - 2 ^ t) k).map (fun m => m ||| cb k t))) else []
def plk (s : Nat) : List Nat := (List.range 6).flatMap (fun t => wlk 64 s t)
def rgk (s : Nat) : List Nat := (List.range 6).flatMap (fun t => (rlk 64 s t).map (fun m => m ||| cb t (zb_tz s)))
abbrev e4T : Type := Nat × Nat × Nat × Nat
def mik (a b : Nat) : Nat := if Nat.ble a b = true then a else b
def e4m (a b : e4T) : e4T := (a.1 ||| b.1, a.2.1 + b.2.1, a.2.2.1 + b.2.2.1, mik a.2.2.2 b.2.2.2)
def ptk (k : Nat) : List e4T := (plk k).map (fun m => (m, 1, 0, 7)) ++ (rgk k).map (fun m => (m, 0, 1, zb_pc k))
def ptb (s k : Nat) : Bool := Nat.beq (k &&& (63 - s)) 0 && k.testBit (zb_tz s)
def clk : Nat → Nat → List e4T
  | 0, _ => [(0, 0, 0, 7)]
  | f + 1, s => if Nat.beq s 0 = true then [(0, 0, 0, 7)] else (List.range (s + 1)).flatMap (fun k => if ptb s k = true then (ptk k).flatMap (fun a => (clk f (s - k)).map (fun b => e4m a b)) else [])
/-! sorting -/
def fl4 : List e4T → List e4T
  | [] => []
  | e :: l => frc e.1 (fun m => frc e.2.1 (fun p => frc e.2.2.1 (fun c => frc e.2.2.2 (fun r => (m, p, c, r) :: fl4 l))))
def mgk : Nat → List e4T → List e4T → List e4T
  | 0, a, b => a ++ b
  | _ + 1, [], b => b
  | _ + 1, a, [] => a
  | f + 1, x :: a, y :: b => if Nat.ble x.1 y.1 = true then x :: mgk f a (y :: b) else y :: mgk f (x :: a) b
def mpk : List (List e4T) → List (List e4T)
  | a :: b :: l => mgk 20000 a b :: mpk l
  | l => l
def msk : Nat → List (List e4T) → List e4T
  | 0, L => L.flatten
  | f + 1, L => msk f (mpk L)
def srtk (L : List e4T) : List e4T := msk 14 ((fl4 L).map (fun e => [e]))
def leqk : List e4T → List e4T → Bool
  | [], [] => true
  | a :: l, b :: m => (Nat.beq a.1 b.1 && (Nat.beq a.2.1 b.2.1 && (Nat.beq a.2.2.1 b.2.2.1 && Nat.beq a.2.2.2 b.2.2.2))) && leqk l m
  | _, _ => false
/-! all stands, with their rings -/
def rKf (x : Nat → Nat) (n : Nat) : Nat → Nat → Nat → Nat → Nat → (Nat → Nat → e4T) → e4T
  | 0, _, _, c, mn, k => k c mn
  | r + 1, q, dn, c, mn, k => frc (if dn.testBit q = true then 0 else rFf x q n (2 ^ q) (x q)) (fun bt => if Nat.beq bt 0 = true then rKf x n r (q + 1) dn c mn k else frc (dn ||| bt) (fun dn => frc (c + 1) (fun c => frc (mik (zb_pc bt) mn) (fun mn => rKf x n r (q + 1) dn c mn k))))
def sxk (n : Nat) : Nat → Nat → List Nat → Nat → Nat → Nat → List e4T
  | 0, _, x, _, m, p => [rKf (fun q => x.getD q 9) n n 0 0 0 7 (fun c mn => (m, p, c, mn))]
  | r + 1, i, x, u, m, p => sxk n r (i + 1) (x ++ [9]) u m (p + 1) ++ (List.range n).flatMap (fun j => if u.testBit j = true then [] else sxk n r (i + 1) (x ++ [j]) (u ||| 2 ^ j) (m ||| cb i j) p)
theorem sx_1 : leqk (srtk (clk 64 1)) (sxk 1 1 0 [] 0 0 0) = true := by decide +kernel
theorem sx_2 : leqk (srtk (clk 64 3)) (sxk 2 2 0 [] 0 0 0) = true := by decide +kernel
theorem sx_3 : leqk (srtk (clk 64 7)) (sxk 3 3 0 [] 0 0 0) = true := by decide +kernel
theorem sx_4 : leqk (srtk (clk 64 15)) (sxk 4 4 0 [] 0 0 0) = true := by decide +kernel
