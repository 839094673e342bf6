/-! a line, purely -/
/-- a place of the row set -/
def us (D : Nat → Int32) (k : Nat) (v : Int32) : Nat → Int32 := fun j => if j = k then v else D j
/-- one number, then go on -/
def nu1 (F : Nat → Nat) (n p lo hi : Nat) (K : Nat → Nat → Sum (Nat × Nat) ((Nat → Int32) × Nat)) : Sum (Nat × Nat) ((Nat → Int32) × Nat) := if nf F n p lo hi = 0 then K (xv F n p) (xe F n p) else Sum.inl (nf F n p lo hi, xb F n p)
/-- a guesser's end -/
def gs1 (D : Nat → Int32) (l s k : Nat) : Nat → Int32 := us (us (us (us D (11 + (D 0).toNatClampNeg) (nI l)) (17 + (D 0).toNatClampNeg) (nI s)) (23 + (D 0).toNatClampNeg) (nI k)) 0 (D 0 + 1)
def ln (F : Nat → Nat) (n : Nat) (D : Nat → Int32) (p : Nat) : Sum (Nat × Nat) ((Nat → Int32) × Nat) :=
  if xk F n p = 0 then nu1 F n (xe F n p) 1 999 (fun v q => nu1 F n q v (v + 199) (fun v2 q2 => Sum.inr (us (us D 2 (nI v)) 3 (nI v2), q2)))
  else if xk F n p = 1 then nu1 F n (xe F n p) 0 999 (fun v q => nu1 F n q 0 8 (fun v2 q2 => Sum.inr (us (us D 9 (nI v)) 10 (nI v2), q2)))
  else if xk F n p = 2 then (if D 0 = 6 then Sum.inl (4, xb F n p) else nu1 F n (xe F n p) 1 200 (fun v q => nu1 F n q 0 20 (fun v2 q2 => if xk F n q2 = 3 then nu1 F n (xe F n q2) 0 10 (fun v3 q3 => Sum.inr (gs1 D v v2 v3, q3)) else Sum.inr (gs1 D v v2 0, q2))))
  else if xk F n p = 4 then Sum.inr (us D 7 1, xe F n p)
  else if xk F n p = 5 then nu1 F n (xe F n p) 0 99 (fun v q => Sum.inr (us D 4 (nI v), q))
  else if xk F n p = 6 then nu1 F n (xe F n p) 0 9999 (fun v q => Sum.inr (us D 5 (nI v), q))
  else if xk F n p = 7 then nu1 F n (xe F n p) 1 999 (fun v q => Sum.inr (us D 6 (nI v), q))
  else Sum.inl (fq F n p 2, xb F n p)
/-- a line with its end -/
def ll (F : Nat → Nat) (n : Nat) (D : Nat → Int32) (p : Nat) : Sum (Nat × Nat) ((Nat → Int32) × Nat) := match ln F n D p with
  | Sum.inl x => Sum.inl x
  | Sum.inr (D', q) => if xk F n q = 10 then Sum.inr (us D' 8 (D' 8 + 1), xe F n q) else Sum.inl (fq F n q 2, xb F n q)
/-- a text: k lines at most -/
def tx (F : Nat → Nat) (n : Nat) : Nat → (Nat → Int32) → Nat → Sum (Nat × Nat) (Nat → Int32)
  | 0, D, _ => Sum.inr D
  | k + 1, D, p => if xk F n p = 11 then Sum.inr D else match ll F n D p with
    | Sum.inl x => Sum.inl x
    | Sum.inr (D', q) => tx F n k D' q
