/-! what an hour does, over the reference's 105 numbers -/
abbrev dz : Type := Nat → Int32
def zadd (z : dz) (i : Nat) (x : Int32) : dz := upd z i (z i + x)
def zdst (to d : Nat) : Nat := if to = 5 then 14 + d else 19 + 8 * to + d
def zwst (to : Nat) : Nat := if to = 5 then 2 else 18 + 8 * to
def zgr (fr : Nat) (m had : Int32) (d : Nat) (z : dz) : Int32 := z (19 + 8 * fr + d) * m / had
def zdye (fr to : Nat) (m had : Int32) (d : Nat) (z : dz) : dz := zadd (zadd z (19 + 8 * fr + d) (-zgr fr m had d z)) (zdst to d) (zgr fr m had d z)
def zdyes (fr to : Nat) (m had : Int32) (z : dz) : Nat → dz
  | 0 => z
  | i + 1 => zdye fr to m had i (zdyes fr to m had z i)
def zmv (fr to : Nat) (m had : Int32) (z : dz) : dz := zadd (zadd (zdyes fr to m had z 3) (18 + 8 * fr) (-m)) (zwst to) m
def zmoved (fr to : Nat) (much : Int32) (z : dz) : Int32 := if to = 5 then ileast much (z (18 + 8 * fr)) else ileast (ileast much (z (18 + 8 * fr))) (z (17 + 8 * to) - z (18 + 8 * to))
def zmove (fr to : Nat) (much : Int32) (z : dz) : dz := if zmoved fr to much z = 0 then z else zmv fr to (zmoved fr to much z) (z (18 + 8 * fr)) z
def zlevel (one other : Nat) (z : dz) : dz :=
  if 0 < z (18 + 8 * one) - z (18 + 8 * other) then zmove one other ((z (18 + 8 * one) - z (18 + 8 * other)) / nI 2) z
  else zmove other one (-(z (18 + 8 * one) - z (18 + 8 * other)) / nI 2) z
def zholds (v : Nat) (z : dz) : Int32 := z (18 + 8 * v) * z 1 / nI 100
def zset1 (v d : Nat) (z : dz) : dz :=
  if 0 < z (19 + 8 * v + d) - zholds v z then zadd (zadd z (19 + 8 * v + d) (-(z (19 + 8 * v + d) - zholds v z))) (22 + 8 * v + d) (z (19 + 8 * v + d) - zholds v z) else z
def zsettle (v : Nat) (z : dz) : Nat → dz
  | 0 => z
  | d + 1 => zset1 v d (zsettle v z d)
def zhod (z : dz) : Int32 := z 0 - z 0 / nI 24 * nI 24
def zopen (k : Nat) (z : dz) : Prop := z (57 + 6 * k + 3) ≤ zhod z ∧ zhod z ≤ z (57 + 6 * k + 4)
def zpipe (one other : Nat) (z : dz) : Prop := z (6 + one) >>> (nI other &&& 31) &&& nI 1 = nI 1
/-- a number of a small range as one -/
def zn (x : Int32) : Nat := x.toNatClampNeg
noncomputable def zvalve (k : Nat) (z : dz) : dz := by
  classical exact if zopen k z then upd (zmove (zn (z (57 + 6 * k))) (zn (z (57 + 6 * k + 1))) (z (57 + 6 * k + 2)) z) (57 + 6 * k + 5) (z (57 + 6 * k + 5) + zmoved (zn (z (57 + 6 * k))) (zn (z (57 + 6 * k + 1))) (z (57 + 6 * k + 2)) z) else z
noncomputable def zvalves (z : dz) : Nat → dz
  | 0 => z
  | k + 1 => zvalve k (zvalves z k)
noncomputable def zlev1 (one other : Nat) (z : dz) : dz := by
  classical exact if zpipe one other z then zlevel one other z else z
/-- the pipes from one to those behind it, the first k of them -/
noncomputable def zlevs (one : Nat) (z : dz) : Nat → dz
  | 0 => z
  | k + 1 => zlev1 one (one + 1 + k) (zlevs one z k)
noncomputable def zpipes (z : dz) : Nat → dz
  | 0 => z
  | one + 1 => zlevs one (zpipes z one) (4 - one)
def zsettles (z : dz) : Nat → dz
  | 0 => z
  | v + 1 => zsettle v (zsettles z v) 3
noncomputable def zhour (z : dz) : dz := zadd (zsettles (zpipes (zvalves z (zn (z 5))) 5) 5) 0 (nI 1)
noncomputable def zhours (z : dz) : Nat → dz
  | 0 => z
  | k + 1 => zhour (zhours z k)
