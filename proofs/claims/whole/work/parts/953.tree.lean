/-! functions of trees -/
/-- the token of the root, but for brackets -/
def rtk : TR → Nat
  | .tag 12 (.tag _ x) => rtk x
  | .tag _ (.tag j _) => j
  | _ => 0
/-- the token at which an X begins -/
def bgk : TR → Nat
  | .tag 9 (.tag _ (.append x _)) => bgk x
  | .tag 10 (.tag _ (.append x _)) => bgk x
  | .tag _ (.tag j _) => j
  | _ => 0
/-- the type of an X; tv: what a name's letters say -/
def tyk (K : Nat → Nat) (tv : Nat → Nat) : TR → Nat
  | .tag 1 _ => 1
  | .tag 2 _ => 2
  | .tag 3 (.tag j _) => tv j
  | .tag 4 (.tag j _) => tv j
  | .tag 5 (.tag _ (.append _ y)) => tyk K tv y
  | .tag 6 (.tag _ (.append _ (.append y _))) => tyk K tv y
  | .tag 7 (.tag _ (.append _ (.append _ (.append _ g)))) => tyk K tv g
  | .tag 8 (.tag j _) => if K j = 45 then 1 else 2
  | .tag 9 (.tag j _) => if stg (K j) ≤ 3 then 2 else 1
  | .tag 10 _ => 1
  | .tag 11 _ => 3
  | .tag 12 (.tag _ x) => tyk K tv x
  | _ => 0
theorem rtk_bin (j : Nat) (x y : TR) : rtk (aBin j x y) = j := rfl
theorem rtk_brk (j : Nat) (x : TR) : rtk (aBrk j x) = rtk x := rfl
theorem bgk_bin (j : Nat) (x y : TR) : bgk (aBin j x y) = bgk x := rfl
theorem tyk_loop (K tv : Nat → Nat) (j : Nat) (fs c ns g : TR) : tyk K tv (aLoop j fs c ns g) = tyk K tv g := rfl
theorem tyk_bin (K tv : Nat → Nat) (j : Nat) (x y : TR) : tyk K tv (aBin j x y) = if stg (K j) ≤ 3 then 2 else 1 := rfl
