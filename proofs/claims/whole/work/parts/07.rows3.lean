theorem gm_dflt {c : Nat} (h : c < 12) : ∀ k, k < gm_n c → defaultValue (gm_ty c k) = (match gm_kd (gm_ty c k) with | 1 => Value.long 0 | 2 => Value.null | _ => Value.int 0) := by
  match c, h with
  | 0, _ => decide +kernel | 1, _ => decide +kernel | 2, _ => decide +kernel | 3, _ => decide +kernel | 4, _ => decide +kernel | 5, _ => decide +kernel | 6, _ => decide +kernel | 7, _ => decide +kernel | 8, _ => decide +kernel | 9, _ => decide +kernel | 10, _ => decide +kernel | 11, _ => decide +kernel
/-- a new cell -/
abbrev gm_new (h : gm_H) (s : gm_S) : gm_H := (h.1 ++ [s], va_up h.2.1 h.1.length (fun _ => 0), va_up h.2.2.1 h.1.length (fun _ => 0), va_up h.2.2.2 h.1.length (fun _ => none))
theorem gm_W_new (g : gm_G) (h : gm_H) (s : gm_S) : gm_W g (gm_new h s) = gm_W g h ++ [(gm_bs g + h.1.length, gm_E g (gm_new h s).2 h.1.length s)] := by
  apply List.ext_getElem?
  intro j
  have hlen : (gm_W g h).length = h.1.length := by unfold gm_W; rw [List.length_mapIdx]
  rw [gm_W_get]
  by_cases hj : j < h.1.length
  · rw [List.getElem?_append_left (l₁ := gm_W g h) (by omega), gm_W_get]
    show ((h.1 ++ [s])[j]?).map _ = _
    rw [List.getElem?_append_left hj]
    cases hq : h.1[j]? with
    | none => rfl
    | some q =>
      have hne : j ≠ h.1.length := by omega
      have e : gm_E g (gm_new h s).2 j q = gm_E g h.2 j q := by
        cases q with
        | inl q => simp only [gm_E, gm_arr, va_up, if_neg hne]
        | inr c => simp only [gm_E, gm_fld, va_up, if_neg hne]
      show some (gm_bs g + j, gm_E g (gm_new h s).2 j q) = some (gm_bs g + j, gm_E g h.2 j q)
      rw [e]
  · by_cases hj2 : j = h.1.length
    · subst hj2
      rw [List.getElem?_append_right (l₁ := gm_W g h) (by omega), hlen, Nat.sub_self]
      show ((h.1 ++ [s])[h.1.length]?).map _ = _
      rw [List.getElem?_append_right (Nat.le_refl _), Nat.sub_self]
      rfl
    · rw [List.getElem?_eq_none (l := gm_W g h ++ [(gm_bs g + h.1.length, gm_E g (gm_new h s).2 h.1.length s)]) (by rw [List.length_append, hlen]; simp only [List.length_singleton]; omega)]
      show ((h.1 ++ [s])[j]?).map _ = _
      rw [List.getElem?_eq_none (l := h.1 ++ [s]) (by rw [List.length_append]; simp only [List.length_singleton]; omega)]
      rfl
theorem gm_P_new {g : gm_G} {h : gm_H} {s : gm_S} {H H1 : Heap} (hP : va_P g.2.1 vwCl (gm_W g h) H) (o1 : ∀ q : Nat, q < H.size → H1[q]? = H[q]?) (hn : va_at g.2.1 vwCl (gm_bs g + h.1.length, gm_E g (gm_new h s).2 h.1.length s) H1) : va_P g.2.1 vwCl (gm_W g (gm_new h s)) H1 := by
  rw [gm_W_new]
  refine (hP.kept (fun k x hx => o1 x.1 ((hP k x hx).lt))).app (fun k x hx => ?_)
  have hz : k < 1 := (List.getElem?_eq_some_iff.mp hx).1
  rw [show k = 0 by omega] at hx
  cases hx
  exact hn
theorem gm_S_new {g : gm_G} {s : State} {H H1 : Heap} {locs : List Loc} (hS : va_S (gm_A g) s.heap H locs) (z1 : H1.size = H.size + 1) (o1 : ∀ q : Nat, q < H.size → H1[q]? = H[q]?) : va_S (gm_A g) s.heap H1 locs :=
  ⟨Nat.le_trans hS.1 (by omega), fun x h1 h2 => (o1 x (Nat.lt_of_lt_of_le h1 hS.1)).trans (hS.2.1 x h1 h2), hS.2.2⟩
section GX
variable {g : gm_G} {own nm : String} {cc : ByteArray} {nL : Nat} {rt : Option FieldType} {R : Room} {PP : State → Array Value → List Frame → State → Prop} {d mc ms : Nat} {Q : Option Value → gm_H → Prop} {cu su pc : Nat} {lv : List (Nat × Value)} {st : List Value} {h : gm_H}
theorem gx_new (c : Nat) {idx L : Nat} (hd : decode cc pc = .ok (.new idx, 3)) (hc : c < 12) (hw : Cond.classLink own idx (gm_R c) ∈ gm_TB) (hi : Cond.instantiable (gm_R c) (gm_n c) ∈ gm_TB) (hini : Cond.initialized (gm_R c) ∈ gm_TB) (hcs : Nat.ble (cu + 1) R.cells = true ∧ Nat.ble (su + gm_n c) R.slots = true) (hL : h.1.length = L) (hL2 : Nat.blt L 1000 = true) (kk : gm_XG g own nm cc nL rt R PP (cu + 1) (su + gm_n c) (pc + 3) lv (.ref L :: st) (gm_new h (.inr c))) : gm_XG g own nm cc nL rt R PP cu su pc lv st h := by
  intro p e s m args below meth c0 H locs ls C hP hz hS hl
  subst hL
  refine gm_size hP hz hS C.2.2.2.2.2.2.2.2.2 (fun hH => ?_)
  have hK := C.2.2.2.2.2.2.2.2.1.1
  have hKn := hK.1 c _ (gm_cl hc)
  refine W.newcK C.1 C.2.1 C.2.2.2.1 (C.2.2.2.2.1 _ hw) (C.2.2.2.2.1 _ hi) (C.2.2.2.2.1 _ hini) rfl hd (Nat.le_of_ble_eq_true hcs.1) (Nat.le_of_ble_eq_true hcs.2) hKn.2.1 hH fun H1 kC hkC e1 z1 o1 => ?_
  have o2 : ∀ q : Nat, q < H.size → H1[q]? = H[q]? := fun q hq => o1 q (by omega)
  have k1 := kk p e s m args below meth c0 H1 locs ls C (gm_P_new hP o2 ?_) (by show _ = _ + (h.1 ++ [_]).length; rw [List.length_append]; simp only [List.length_singleton]; omega) (gm_S_new hS (by omega) o2) hl
  · have e0 : gm_v g (.ref h.1.length) = .ref (gm_bs g + h.1.length) := congrArg Value.ref (gm_ad_lt (gm_blt hL2))
    have e9 : (Value.ref h.1.length :: st).map (gm_v g) = .ref (gm_bs g + h.1.length) :: st.map (gm_v g) := by rw [List.map_cons, e0]
    rw [e9] at k1
    exact k1
  · refine ⟨_, gm_cl hc, (u_born (gm_ty c) C.2.2.2.2.1 (gm_inw hc) hKn hkC e1 (gm_ty_ok hc)).to (fun j hj => ?_)⟩
    show _ = ((List.range (gm_n c)).map _).getD j Value.null
    rw [List.getD_eq_getElem?_getD, gm_fs_get hj, gm_dflt hc j hj]
    simp only [gm_fld, va_up, if_true, Option.getD_some]
    generalize gm_kd (gm_ty c j) = q
    match q with
    | 0 => rfl
    | 1 => rfl
    | 2 => rfl
    | _ + 3 => rfl
theorem gx_newa (t : Nat) {atype : ArrayType} {x : Int32} {n L : Nat} (hd : decode cc pc = .ok (.newarray atype, 2)) (ht : newarray.typeOf atype = gm_tyA t) (ht4 : t < 4) (hw : Cond.arrayClass (gm_tyA t) ∈ gm_TB) (hx : ¬ x < 0) (hn : x.toNatClampNeg = n) (hb : Nat.ble (n * componentBytes (gm_tyA t)) 536870912 = true) (hcs : Nat.ble (cu + 1) R.cells = true ∧ Nat.ble (su + n) R.slots = true) (hL : h.1.length = L) (hL2 : Nat.blt L 1000 = true) (kk : gm_XG g own nm cc nL rt R PP (cu + 1) (su + n) (pc + 2) lv (.ref L :: st) (gm_new h (.inl (t, n)))) : gm_XG g own nm cc nL rt R PP cu su pc lv (.int x :: st) h := by
  intro p e s m args below meth c0 H locs ls C hP hz hS hl
  subst hL
  refine gm_size hP hz hS C.2.2.2.2.2.2.2.2.2 (fun hH => ?_)
  have hK := C.2.2.2.2.2.2.2.2.1.1
  refine va_newaK C.1 C.2.1 (by rw [ht]; exact C.2.2.2.2.1 _ hw) rfl hd rfl hx hn (by rw [ht]; exact Nat.le_of_ble_eq_true hb) (Nat.le_of_ble_eq_true hcs.1) (Nat.le_of_ble_eq_true hcs.2) hH fun H1 cA e1 z1 o1 hAr hNm => ?_
  have o2 : ∀ q : Nat, q < H.size → H1[q]? = H[q]? := fun q hq => o1 q (by omega)
  have hcA : cA = g.2.2.1 t := by
    have h9 := (hK.2 t _ (gm_tys_at (by omega))).2
    rw [ht] at hNm
    have h8 : s.vm.findClass ("[" ++ (gm_tyA t).toString) = some (g.2.2.1 t) := by
      match t, ht4, h9 with
      | 0, _, h9 => exact h9
      | 1, _, h9 => exact h9
      | 2, _, h9 => exact h9
      | 3, _, h9 => exact h9
    exact Option.some.inj (hNm.symm.trans h8)
  have k1 := kk p e s m args below meth c0 H1 locs ls C (gm_P_new hP o2 ?_) (by show _ = _ + (h.1 ++ [_]).length; rw [List.length_append]; simp only [List.length_singleton]; omega) (gm_S_new hS (by omega) o2) hl
  · have e0 : gm_v g (.ref h.1.length) = .ref (gm_bs g + h.1.length) := congrArg Value.ref (gm_ad_lt (gm_blt hL2))
    have e9 : (Value.ref h.1.length :: st).map (gm_v g) = .ref (gm_bs g + h.1.length) :: st.map (gm_v g) := by rw [List.map_cons, e0]
    rw [e9] at k1
    exact k1
  · show H1[gm_bs g + h.1.length]? = some (vp_cell _ _)
    rw [e1, hcA, ht]
    match t, ht4 with
    | 0, _ => simp only [gm_arr, gm_tyA, gm_kd, va_up, if_true]; rfl
    | 1, _ => simp only [gm_arr, gm_tyA, gm_kd, va_up, if_true]; rfl
    | 2, _ => simp only [gm_arr, gm_tyA, gm_kd, va_up, if_true]; rfl
    | 3, _ => simp only [gm_arr, gm_tyA, gm_kd, va_up, if_true]; rfl
theorem gx_newq (t : Nat) {C0 : String} {idx : Nat} {x : Int32} {n L : Nat} (hd : decode cc pc = .ok (.anewarray idx, 3)) (ht : gm_tyA t = .object C0) (ht7 : t < 7) (hC : C0 = "JarGuess$Row" ∨ C0 = "JarGuess$Image") (hw : Cond.classLink own idx C0 ∈ gm_TB) (hx : ¬ x < 0) (hn : x.toNatClampNeg = n) (hb : Nat.ble (n * 4) 536870912 = true) (hcs : Nat.ble (cu + 1) R.cells = true ∧ Nat.ble (su + n) R.slots = true) (hL : h.1.length = L) (hL2 : Nat.blt L 1000 = true) (kk : gm_XG g own nm cc nL rt R PP (cu + 1) (su + n) (pc + 3) lv (.ref L :: st) (gm_new h (.inl (t, n)))) : gm_XG g own nm cc nL rt R PP cu su pc lv (.int x :: st) h := by
  intro p e s m args below meth c0 H locs ls C hP hz hS hl
  subst hL
  subst hn
  refine gm_size hP hz hS C.2.2.2.2.2.2.2.2.2 (fun hH => ?_)
  have hK := C.2.2.2.2.2.2.2.2.1.1
  have hAO : va_AO C0 s := by
    rcases hC with rfl | rfl
    · exact C.2.2.2.2.2.2.2.2.1.2.2.1.1
    · exact C.2.2.2.2.2.2.2.2.1.2.2.1.2.1
  refine W.anew C.1 C.2.1 C.2.2.2.1 (C.2.2.2.2.1 _ hw) (va_AO.use hAO) rfl hd rfl hx (Nat.le_of_ble_eq_true hb) (Nat.le_of_ble_eq_true hcs.1) (Nat.le_of_ble_eq_true hcs.2) fun cA kA comp f1 f2 f3 f4 => ?_
  generalize hH1 : H.push ({ cls := cA, slots := Array.replicate x.toNatClampNeg .null, vm := .none } : Cell) = H1
  have z1 : H1.size = H.size + 1 := by rw [← hH1, Array.size_push]
  have e1 : H1[H.size]? = some (arrV cA x.toNatClampNeg (fun _ => .null)) := by rw [← hH1, Array.getElem?_push_size, ← arrV_new]
  have o2 : ∀ q : Nat, q < H.size → H1[q]? = H[q]? := fun q hq => by rw [← hH1, Array.getElem?_push, if_neg (Nat.ne_of_lt hq)]
  have hcA : cA = g.2.2.1 t := by
    have h9 := (hK.2 t _ (gm_tys_at ht7)).2
    rw [ht] at h9
    obtain ⟨kA', comp', -, -, -, h8⟩ := h9
    exact Option.some.inj (f1.symm.trans h8)
  have k1 := kk p e s m args below meth c0 H1 locs ls C (gm_P_new hP o2 ?_) (by show _ = _ + (h.1 ++ [_]).length; rw [List.length_append]; simp only [List.length_singleton]; omega) (gm_S_new hS z1 o2) hl
  · have e0 : gm_v g (.ref h.1.length) = .ref H.size := by rw [hH]; exact congrArg Value.ref (gm_ad_lt (gm_blt hL2))
    have e9 : (Value.ref h.1.length :: st).map (gm_v g) = .ref H.size :: st.map (gm_v g) := by rw [List.map_cons, e0]
    rw [e9] at k1
    exact k1
  · show H1[gm_bs g + h.1.length]? = some (vp_cell _ _)
    rw [← hH, e1, hcA]
    simp only [gm_arr, ht, gm_kd, va_up, if_true]
    rfl
theorem gx_aast (t c : Nat) {a n v : Nat} {i : Int32} (hd : decode cc pc = .ok (.aastore, 1)) (ho : Nat.blt a 1000 = true) (hs : h.1[a]? = some (.inl (t, n))) (ht7 : t < 7) (ht : gm_tyA t = .object (gm_R c)) (hc : c < 12) (hv : Nat.blt v 1000 = true) (hs2 : h.1[v]? = some (.inr c)) (hi : vp_in i n) (kk : gm_XG g own nm cc nL rt R PP cu su (pc + 1) lv st (h.1, h.2.1, h.2.2.1, gm_u h.2.2.2 a i.toNatClampNeg (some v))) : gm_XG g own nm cc nL rt R PP cu su pc lv (.ref v :: .int i :: .ref a :: st) h := by
  intro p e s m args below meth c0 H locs ls C hP hz hS hl
  have e0 : gm_v g (.ref a) = .ref (gm_bs g + a) := congrArg Value.ref (gm_ad_lt (gm_blt ho))
  have e2 : gm_v g (.ref v) = .ref (gm_bs g + v) := congrArg Value.ref (gm_ad_lt (gm_blt hv))
  show W _ _ _ _ _ _ _ _ _ _ _ _ _ _ _ (F0 m pc ls (gm_v g (.ref v) :: .int i :: gm_v g (.ref a) :: st.map (gm_v g)))
  rw [e0, e2]
  refine va_astq (r := (gm_R c, gm_T c, gm_n c)) (f := fun k => (h.2.2.2 a k).map (gm_ad g)) C.1 C.2.1 C.2.2.2.2.2.2.2.2.1.1 hP (gm_D g h) hS a t v c ?_ ((gm_tys_at ht7).trans (by rw [ht])) (gm_W_at hs2) (gm_cl hc) hi hd (fun H1 locs1 hP1 hD1 hS1 => ?_)
  · rw [gm_W_at hs]
    simp only [gm_E, gm_arr, ht, gm_kd]
  · refine kk p e s m args below meth c0 H1 locs1 ls C ?_ hz hS1 hl
    refine (gm_set_of (m := h.2) (m' := (h.2.1, h.2.2.1, gm_u h.2.2.2 a i.toNatClampNeg (some v))) hs ?_ (fun j hj => ?_)) ▸ hP1
    · simp only [gm_E, gm_arr, ht, gm_kd, gm_u_self]
      congr 7
      funext q
      by_cases hq : q = i.toNatClampNeg
      · subst hq
        simp [va_up, gm_ad_lt (g := g) (gm_blt hv)]
      · simp [va_up, hq]
    · refine ⟨?_, ?_, ?_⟩ <;> first | rfl | exact gm_u_ne _ _ _ hj
theorem gx_obj {o idx : Nat} (hd : decode cc pc = .ok (.invokespecial idx, 3)) (hw : Cond.methodLink own idx objectInit ∈ gm_TB) (hi : Cond.instanceMethod objectInit ∈ gm_TB) (hco : Cond.code objectInit ⟨#[0xb1]⟩ 1 none ∈ gm_TB) (hdp : (Nat.blt 0 R.frames && Nat.ble 64 R.locals) = true) (hst : Nat.ble ((st.map fun v => v.category).sum) 8 = true) (k : gm_XG g own nm cc nL rt R PP cu su (pc + 3) lv st h) : gm_XG g own nm cc nL rt R PP cu su pc lv (.ref o :: st) h := by
  intro p e s m args below meth c H locs ls C hP hz hS hl
  have h1 := gm_blt (Bool.and_eq_true_iff.mp hdp).1
  have h9 := Nat.le_of_ble_eq_true (Bool.and_eq_true_iff.mp hdp).2
  have h2 := Nat.le_of_ble_eq_true hst
  have h3 := gm_cat g st
  refine W.objInit C.1 C.2.1 C.2.2.2.1 (C.2.2.2.2.1 _ hw) (C.2.2.2.2.1 _ hi) (C.2.2.2.2.1 _ hco) rfl (by rw [C.2.2.1]; exact hl.1) rfl hd (by omega) ?_ (k p e s m args below meth c H locs ls C hP hz hS hl)
  show 2 * 0 + ((st.map (gm_v g)).map fun v => v.category).sum + 12 ≤ R.locals
  omega
/-- Math's own words -/
def gm_MM (y : MethodName) (cc' : ByteArray) (n : Nat) : Prop := Cond.static y ∈ gm_TB ∧ Cond.initialized "java/lang/Math" ∈ gm_TB ∧ Cond.code y cc' n (some .int) ∈ gm_TB
theorem gx_mmax {x y : Int32} {idx : Nat} (hd : decode cc pc = .ok (.invokestatic idx, 3)) (hw : Cond.methodLink own idx Lib.Math.max.name ∈ gm_TB) (hm : gm_MM Lib.Math.max.name Lib.Math.max.code 2) (hdp : (Nat.blt 0 R.frames && Nat.ble 64 R.locals) = true) (hst : Nat.ble ((st.map fun v => v.category).sum) 8 = true) (hc : Nat.ble cu R.cells = true) (hs : Nat.ble su R.slots = true) (k : gm_XG g own nm cc nL rt R PP cu su (pc + 3) lv (.int (if x < y then y else x) :: st) h) : gm_XG g own nm cc nL rt R PP cu su pc lv (.int y :: .int x :: st) h := by
  intro p e s m args below meth c H locs ls C hP hz hS hl
  have h1 := gm_blt (Bool.and_eq_true_iff.mp hdp).1
  have h9 := Nat.le_of_ble_eq_true (Bool.and_eq_true_iff.mp hdp).2
  have h2 := Nat.le_of_ble_eq_true hst
  have h3 := gm_cat g st
  refine va_mmax C.1 C.2.1 (C.2.2.1.trans hl.1.symm) C.2.2.2.1 (C.2.2.2.2.1 _ hw) (C.2.2.2.2.1 _ hm.1) (C.2.2.2.2.1 _ hm.2.1) (C.2.2.2.2.1 _ hm.2.2) (by omega) ?_ (Nat.le_of_ble_eq_true hc) (Nat.le_of_ble_eq_true hs) hd (k p e s m args below meth c H locs ls C hP hz hS hl)
  show ((st.map (gm_v g)).map fun v => v.category).sum + 13 ≤ R.locals
  omega
theorem gx_mmin {x y : Int32} {idx : Nat} (hd : decode cc pc = .ok (.invokestatic idx, 3)) (hw : Cond.methodLink own idx Lib.Math.min.name ∈ gm_TB) (hm : gm_MM Lib.Math.min.name Lib.Math.min.code 2) (hdp : (Nat.blt 0 R.frames && Nat.ble 64 R.locals) = true) (hst : Nat.ble ((st.map fun v => v.category).sum) 8 = true) (hc : Nat.ble cu R.cells = true) (hs : Nat.ble su R.slots = true) (k : gm_XG g own nm cc nL rt R PP cu su (pc + 3) lv (.int (if y < x then y else x) :: st) h) : gm_XG g own nm cc nL rt R PP cu su pc lv (.int y :: .int x :: st) h := by
  intro p e s m args below meth c H locs ls C hP hz hS hl
  have h1 := gm_blt (Bool.and_eq_true_iff.mp hdp).1
  have h9 := Nat.le_of_ble_eq_true (Bool.and_eq_true_iff.mp hdp).2
  have h2 := Nat.le_of_ble_eq_true hst
  have h3 := gm_cat g st
  refine va_mmin C.1 C.2.1 (C.2.2.1.trans hl.1.symm) C.2.2.2.1 (C.2.2.2.2.1 _ hw) (C.2.2.2.2.1 _ hm.1) (C.2.2.2.2.1 _ hm.2.1) (C.2.2.2.2.1 _ hm.2.2) (by omega) ?_ (Nat.le_of_ble_eq_true hc) (Nat.le_of_ble_eq_true hs) hd (k p e s m args below meth c H locs ls C hP hz hS hl)
  show ((st.map (gm_v g)).map fun v => v.category).sum + 13 ≤ R.locals
  omega
theorem gx_mabs {x : Int32} {idx : Nat} (hd : decode cc pc = .ok (.invokestatic idx, 3)) (hw : Cond.methodLink own idx Lib.Math.abs.name ∈ gm_TB) (hm : gm_MM Lib.Math.abs.name Lib.Math.abs.code 1) (hdp : (Nat.blt 0 R.frames && Nat.ble 64 R.locals) = true) (hst : Nat.ble ((st.map fun v => v.category).sum) 8 = true) (hc : Nat.ble cu R.cells = true) (hs : Nat.ble su R.slots = true) (k : gm_XG g own nm cc nL rt R PP cu su (pc + 3) lv (.int (if 0 ≤ x then x else 0 - x) :: st) h) : gm_XG g own nm cc nL rt R PP cu su pc lv (.int x :: st) h := by
  intro p e s m args below meth c H locs ls C hP hz hS hl
  have h1 := gm_blt (Bool.and_eq_true_iff.mp hdp).1
  have h9 := Nat.le_of_ble_eq_true (Bool.and_eq_true_iff.mp hdp).2
  have h2 := Nat.le_of_ble_eq_true hst
  have h3 := gm_cat g st
  refine va_mabs C.1 C.2.1 (C.2.2.1.trans hl.1.symm) C.2.2.2.1 (C.2.2.2.2.1 _ hw) (C.2.2.2.2.1 _ hm.1) (C.2.2.2.2.1 _ hm.2.1) (C.2.2.2.2.1 _ hm.2.2) (by omega) ?_ (Nat.le_of_ble_eq_true hc) (Nat.le_of_ble_eq_true hs) hd (k p e s m args below meth c H locs ls C hP hz hS hl)
  show ((st.map (gm_v g)).map fun v => v.category).sum + 13 ≤ R.locals
  omega
theorem gx_copy {idx a0 n0 a1 n1 : Nat} {sp dp n : Int32} (hd : decode cc pc = .ok (.invokestatic idx, 3)) (hw : Cond.methodLink own idx arraycopyName ∈ gm_TB) (hm : Cond.native arraycopyName ∈ gm_TB ∧ Cond.static arraycopyName ∈ gm_TB ∧ Cond.initialized "java/lang/System" ∈ gm_TB) (hdp : (Nat.blt 0 R.frames && Nat.ble 64 R.locals) = true) (hst : Nat.ble ((st.map fun v => v.category).sum) 8 = true) (ho0 : Nat.blt a0 1000 = true) (hs0 : h.1[a0]? = some (.inl (0, n0))) (ho1 : Nat.blt a1 1000 = true) (hs1 : h.1[a1]? = some (.inl (0, n1))) (h1 : ¬ sp < 0) (h2 : ¬ dp < 0) (h3 : ¬ n < 0) (h4 : sp.toNatClampNeg + n.toNatClampNeg ≤ n0) (h5 : dp.toNatClampNeg + n.toNatClampNeg ≤ n1) (kk : gm_XG g own nm cc nL rt R PP cu su (pc + 3) lv st (h.1, va_up h.2.1 a1 (va_cpy (h.2.1 a0) (h.2.1 a1) sp.toNatClampNeg dp.toNatClampNeg n.toNatClampNeg), h.2.2.1, h.2.2.2)) : gm_XG g own nm cc nL rt R PP cu su pc lv (.int n :: .int dp :: .ref a1 :: .int sp :: .ref a0 :: st) h := by
  intro p e s m args below meth c0 H locs ls C hP hz hS hl
  have g1 := gm_blt (Bool.and_eq_true_iff.mp hdp).1
  have g9 := Nat.le_of_ble_eq_true (Bool.and_eq_true_iff.mp hdp).2
  have g2 := Nat.le_of_ble_eq_true hst
  have g3 := gm_cat g st
  have e0 : gm_v g (.ref a0) = .ref (gm_bs g + a0) := congrArg Value.ref (gm_ad_lt (gm_blt ho0))
  have e1 : gm_v g (.ref a1) = .ref (gm_bs g + a1) := congrArg Value.ref (gm_ad_lt (gm_blt ho1))
  show W _ _ _ _ _ _ _ _ _ _ _ _ _ _ _ (F0 m pc ls (.int n :: .int dp :: gm_v g (.ref a1) :: .int sp :: gm_v g (.ref a0) :: st.map (gm_v g)))
  rw [e0, e1]
  refine va_copyi (ty := .int) C.1 C.2.1 (C.2.2.1.trans hl.1.symm) C.2.2.2.1 (C.2.2.2.2.1 _ hw) (C.2.2.2.2.1 _ hm.1) (C.2.2.2.2.1 _ hm.2.1) (C.2.2.2.2.1 _ hm.2.2) C.2.2.2.2.2.2.2.2.1.1 hP (gm_D g h) hS a0 a1 0 0 (gm_W_at hs0) (gm_W_at hs1) rfl rfl rfl h1 h2 h3 h4 h5 (fun i _ => rfl) (by omega) ?_ hd (fun H1 locs1 hP1 hD1 hS1 => ?_)
  · show ((st.map (gm_v g)).map fun v => v.category).sum + (nativeFrameWords "java/lang/System" "arraycopy" 5 + 11) ≤ R.locals
    have g4 : nativeFrameWords "java/lang/System" "arraycopy" 5 ≤ 40 := by decide +kernel
    omega
  · refine kk p e s m args below meth c0 H1 locs1 ls C ?_ hz hS1 hl
    refine (gm_set_of (m := h.2) (m' := (va_up h.2.1 a1 (va_cpy (h.2.1 a0) (h.2.1 a1) sp.toNatClampNeg dp.toNatClampNeg n.toNatClampNeg), h.2.2.1, h.2.2.2)) hs1 ?_ (fun j hj => ?_)) ▸ hP1
    · simp only [gm_E, gm_arr, gm_tyA, gm_kd, va_up, if_true]
    · refine ⟨?_, rfl, rfl⟩
      simp only [va_up, if_neg hj]
def gm_sw (x : Int32) (K : Nat → Prop) (td : Nat) : List (Int32 × Nat) → Prop
  | [] => K td
  | q :: r => (x = q.1 → K q.2) ∧ (¬ x = q.1 → gm_sw x K td r)
theorem gm_sw_out {x : Int32} {K : Nat → Prop} {td : Nat} : ∀ (ts : List (Int32 × Nat)), gm_sw x K td ts → (∀ q ∈ ts, ¬ x = q.1) → K td
  | [], h, _ => h
  | q :: r, h, hx => gm_sw_out r (h.2 (hx q List.mem_cons_self)) (fun q' hq => hx q' (List.mem_cons_of_mem _ hq))
theorem gm_sw_hit {x : Int32} {K : Nat → Prop} {td t : Nat} : ∀ (ts : List (Int32 × Nat)) (j : Nat), gm_sw x K td ts → ts[j]? = some (x, t) → (∀ i q, i < j → ts[i]? = some q → ¬ x = q.1) → K t
  | [], j, _, h, _ => by simp at h
  | q :: r, 0, hs, h, _ => by
    rw [List.getElem?_cons_zero] at h
    cases h
    exact hs.1 rfl
  | q :: r, j + 1, hs, h, hb => by
    rw [List.getElem?_cons_succ] at h
    exact gm_sw_hit r j (hs.2 (hb 0 q (by omega) rfl)) h (fun i q' hi hq => hb (i + 1) q' (by omega) (by rw [List.getElem?_cons_succ]; exact hq))
def gm_swOk (pc : Nat) (lo hi dflt : Int) (offs : Array Int) (ts : List (Int32 × Nat)) (td : Nat) : Bool :=
  decide ((pc : Int) + dflt = (td : Int)) && decide (hi - lo + 1 = (offs.size : Int)) && decide (ts.length = offs.size) && (List.range offs.size).all (fun j => match ts[j]?, offs[j]? with | some (c, t), some f => decide (c.toInt = lo + j) && decide ((pc : Int) + f = (t : Int)) | _, _ => false)
theorem gx_tsw (ts : List (Int32 × Nat)) (td : Nat) {dflt lo hi : Int} {offs : Array Int} {len : Nat} {x : Int32} (hd : decode cc pc = .ok (.tableswitch dflt lo hi offs, len)) (hts : gm_swOk pc lo hi dflt offs ts td = true) (k : gm_sw x (fun t => gm_XG g own nm cc nL rt R PP cu su t lv st h) td ts) : gm_XG g own nm cc nL rt R PP cu su pc lv (.int x :: st) h := by
  intro p e s m args below meth c H locs ls C hP hz hS hl
  simp only [gm_swOk, Bool.and_eq_true, decide_eq_true_eq, List.all_eq_true, List.mem_range] at hts
  obtain ⟨⟨⟨h1, h2⟩, h3⟩, h4⟩ := hts
  have h5 : ∀ j : Nat, j < offs.size → ∃ (c : Int32) (t : Nat) (f : Int), ts[j]? = some (c, t) ∧ offs[j]? = some f ∧ c.toInt = lo + j ∧ (pc : Int) + f = (t : Int) := by
    intro j hj
    have h6 := h4 j hj
    cases ha : ts[j]? with
    | none => rw [ha] at h6; cases h6
    | some q =>
      cases hb : offs[j]? with
      | none => rw [ha, hb] at h6; cases h6
      | some f =>
        rw [ha, hb] at h6
        simp only [Bool.and_eq_true, decide_eq_true_eq] at h6
        exact ⟨q.1, q.2, f, rfl, rfl, h6.1, h6.2⟩
  by_cases hlo : x.toInt < lo ∨ hi < x.toInt
  · refine lv_tableOut C.1 C.2.1 hd hlo h1 (gm_sw_out ts k (fun q hq e => ?_) p e s m args below meth c H locs ls C hP hz hS hl)
    obtain ⟨j, hj⟩ := List.getElem?_of_mem hq
    have hjl : j < offs.size := by rw [← h3]; exact (List.getElem?_eq_some_iff.mp hj).1
    obtain ⟨c', t, f, g1, g2, g3, g4⟩ := h5 j hjl
    rw [hj] at g1
    cases g1
    have e2 : x = c' := e
    rw [← e2] at g3
    omega
  · have hj : (x.toInt - lo).toNat < offs.size := by omega
    obtain ⟨c', t, f, g1, g2, g3, g4⟩ := h5 _ hj
    have hx : c' = x := Int32.toInt_inj.mp (by omega)
    subst hx
    refine lv_tableIn C.1 C.2.1 hd (fun q => hlo (Or.inl q)) (fun q => hlo (Or.inr q)) g2 g4 (gm_sw_hit ts _ k g1 (fun i q hi2 hq e => ?_) p e s m args below meth c H locs ls C hP hz hS hl)
    obtain ⟨c2, t2, f2, k1, k2, k3, k4⟩ := h5 i (by omega)
    rw [hq] at k1
    cases k1
    have e2 : c' = c2 := e
    rw [← e2] at k3
    omega
def gm_lsOk (pc : Nat) (dflt : Int) (ts : List (Int32 × Nat)) (td : Nat) : List (Int × Int) → Bool
  | ps => decide ((pc : Int) + dflt = (td : Int)) && decide (ts.length = ps.length) && (ts.zip ps).all (fun q => decide (q.1.1.toInt = q.2.1) && decide ((pc : Int) + q.2.2 = (q.1.2 : Int)))
theorem gm_ls_off {x : Int32} {pc : Nat} {K : Nat → Prop} {td : Nat} {dflt : Int} (h1 : (pc : Int) + dflt = (td : Int)) : ∀ (ts : List (Int32 × Nat)) (ps : List (Int × Int)), ts.length = ps.length → (ts.zip ps).all (fun q => decide (q.1.1.toInt = q.2.1) && decide ((pc : Int) + q.2.2 = (q.1.2 : Int))) = true → gm_sw x K td ts → ∃ t : Nat, (pc : Int) + Op.lookupswitch.offset ps dflt x.toInt = (t : Int) ∧ K t
  | [], [], _, _, k => ⟨td, h1, k⟩
  | [], b :: bs, h, _, _ => by simp at h
  | a :: as, [], h, _, _ => by simp at h
  | a :: as, b :: bs, h, h2, k => by
    simp only [List.zip_cons_cons, List.all_cons, Bool.and_eq_true, decide_eq_true_eq] at h2
    obtain ⟨⟨g1, g2⟩, g3⟩ := h2
    obtain ⟨b1, b2⟩ := b
    by_cases hx : x = a.1
    · refine ⟨a.2, ?_, k.1 hx⟩
      rw [Op.lookupswitch.offset_cons, if_pos (by rw [hx]; exact g1.symm)]
      exact g2
    · obtain ⟨t, q1, q2⟩ := gm_ls_off h1 as bs (by simpa using h) (by simpa using g3) (k.2 hx)
      exact ⟨t, by rw [lv_osw hx g1]; exact q1, q2⟩
theorem gx_lsw (ts : List (Int32 × Nat)) (td : Nat) {dflt : Int} {ps : Array (Int × Int)} {len : Nat} {x : Int32} (hd : decode cc pc = .ok (.lookupswitch dflt ps, len)) (hp : (ps.toList.zip (ps.toList.drop 1)).all (fun (a, next) => a.1 < next.1) = true) (hts : gm_lsOk pc dflt ts td ps.toList = true) (k : gm_sw x (fun t => gm_XG g own nm cc nL rt R PP cu su t lv st h) td ts) : gm_XG g own nm cc nL rt R PP cu su pc lv (.int x :: st) h := by
  intro p e s m args below meth c H locs ls C hP hz hS hl
  simp only [gm_lsOk, Bool.and_eq_true, decide_eq_true_eq] at hts
  obtain ⟨⟨h1, h2⟩, h3⟩ := hts
  obtain ⟨t, q1, q2⟩ := gm_ls_off h1 ts ps.toList h2 h3 k
  exact lv_lookup C.1 C.2.1 hd hp rfl q1 (q2 p e s m args below meth c H locs ls C hP hz hS hl)
end GX
