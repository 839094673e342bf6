/-- the script: how long, what it holds -/
def gN (g : gm_G) : Nat := g.2.2.2.2.2.2.1
def gS (g : gm_G) (x : Int32) : Int32 := g.2.2.2.2.2.2.2 x.toNatClampNeg
section GZ
variable {g : gm_G} {own nm : String} {cc : ByteArray} {nL : Nat} {rt : Option FieldType} {R : Room} {PP : State → Array Value → List Frame → State → Prop} {cu su pc : Nat} {lv : List (Nat × Value)} {st : List Value} {h : gm_H}
theorem gx_sld {x : Int32} (hd : decode cc pc = .ok (.iaload, 1)) (hx : vp_in x (gN g)) (k : gm_XG g own nm cc nL rt R PP cu su (pc + 1) lv (.int (gS g x) :: st) h) : gm_XG g own nm cc nL rt R PP cu su pc lv (.int x :: .ref 2501 :: st) h :=
  fun p e s m args below meth c H locs ls C hP hz hS hl => va_sld C.1 C.2.1 C.2.2.2.2.2.2.2.2.1.2.2.2.2.2.2.2.1 C.2.2.2.2.2.2.2.2.1.2.2.2.2.2.2.2.2.1 C.2.2.2.2.2.2.2.2.1.2.2.2.2.2.2.2.2.2 hS hx hd (k p e s m args below meth c H locs ls C hP hz hS hl)
theorem gx_sln (hd : decode cc pc = .ok (.arraylength, 1)) (k : gm_XG g own nm cc nL rt R PP cu su (pc + 1) lv (.int (nI (gN g)) :: st) h) : gm_XG g own nm cc nL rt R PP cu su pc lv (.ref 2501 :: st) h :=
  fun p e s m args below meth c H locs ls C hP hz hS hl => va_slen C.1 C.2.1 C.2.2.2.2.2.2.2.2.1.2.2.2.2.2.2.2.1 C.2.2.2.2.2.2.2.2.1.2.2.2.2.2.2.2.2.1 C.2.2.2.2.2.2.2.2.1.2.2.2.2.2.2.2.2.2 hS hd (k p e s m args below meth c H locs ls C hP hz hS hl)
end GZ
