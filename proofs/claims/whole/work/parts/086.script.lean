/-- the script: how long, what it holds -/
def gN (g : gm_G) : Nat := g.2.2.2.2.2.2.1
def gS (g : gm_G) (x : Int32) : Int32 := g.2.2.2.2.2.2.2 x.toNatClampNeg
section GZ
variable {g : gm_G} {own nm : String} {cc : ByteArray} {nL : Nat} {rt : Option FieldType} {R : Room} {PP : State → Array Value → List Frame → State → Prop} {cu su pc : Nat} {lv : List (Nat × Value)} {st : List Value} {h : gm_H}
theorem gx_sld {x : Int32} (hd : decode cc pc = .ok (.iaload, 1)) (hx : vp_in x (gN g)) (k : gm_XG g own nm cc nL rt R PP cu su (pc + 1) lv (.int (gS g x) :: st) h) : gm_XG g own nm cc nL rt R PP cu su pc lv (.int x :: .ref 2501 :: st) h :=
  fun p e s m args below meth c H locs ls C hP hz hS hl => va_sld C.1 C.2.1 C.2.2.2.2.2.2.2.2.1.2.2.2.2.2.2.2.1 C.2.2.2.2.2.2.2.2.1.2.2.2.2.2.2.2.2.1 C.2.2.2.2.2.2.2.2.1.2.2.2.2.2.2.2.2.2 hS hx hd (k p e s m args below meth c H locs ls C hP hz hS hl)
theorem gx_sln (hd : decode cc pc = .ok (.arraylength, 1)) (k : gm_XG g own nm cc nL rt R PP cu su (pc + 1) lv (.int (nI (gN g)) :: st) h) : gm_XG g own nm cc nL rt R PP cu su pc lv (.ref 2501 :: st) h :=
  fun p e s m args below meth c H locs ls C hP hz hS hl => va_slen C.1 C.2.1 C.2.2.2.2.2.2.2.2.1.2.2.2.2.2.2.2.1 C.2.2.2.2.2.2.2.2.1.2.2.2.2.2.2.2.2.1 C.2.2.2.2.2.2.2.2.1.2.2.2.2.2.2.2.2.2 hS hd (k p e s m args below meth c H locs ls C hP hz hS hl)
/-- new int[3][3]: the outer row, then the inner ones -/
theorem gx_mna {idx L : Nat} (hd : decode cc pc = .ok (.multianewarray idx 2, 4)) (hw : Cond.classLink own idx "[[I" ∈ gm_TB) (hcs : Nat.ble (cu + 4) R.cells = true ∧ Nat.ble (su + 12) R.slots = true) (hL : h.1.length = L) (hL2 : Nat.blt (L + 4) 1000 = true) (k : gm_XG g own nm cc nL rt R PP (cu + 4) (su + 12) (pc + 4) lv (.ref L :: st) ((h.1 ++ [.inl (6, 3)] ++ [.inl (0, 3)] ++ [.inl (0, 3)] ++ [.inl (0, 3)], va_up (va_up (va_up (va_up h.2.1 L (fun _ => 0)) (L + 1) (fun _ => 0)) (L + 2) (fun _ => 0)) (L + 3) (fun _ => 0), va_up (va_up (va_up (va_up h.2.2.1 L (fun _ => 0)) (L + 1) (fun _ => 0)) (L + 2) (fun _ => 0)) (L + 3) (fun _ => 0), va_up (va_up (va_up (va_up h.2.2.2 L (fun k => if k < 3 then some (L + 1 + k) else none)) (L + 1) (fun _ => none)) (L + 2) (fun _ => none)) (L + 3) (fun _ => none)))) : gm_XG g own nm cc nL rt R PP cu su pc lv (.int 3 :: .int 3 :: st) h := sorry
end GZ
