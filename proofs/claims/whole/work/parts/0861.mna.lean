/-! new int[3][3] (its walk is the library's) -/
theorem gm_outer (c : ClassId) (N h0 : Nat) : ∀ i : Nat, Jvm.Free.Multi.outerC c N h0 i = arrV c N (fun j => va_rf (if j < i then some (h0 + 1 + j) else none))
  | 0 => by
    show ({ cls := c, slots := Array.replicate N .null, vm := .none } : Cell) = _
    rw [arrV_new]
    refine congrArg (arrV c N) (funext fun j => ?_)
    rw [if_neg (Nat.not_lt_zero j)]
    rfl
  | i + 1 => by
    show (Jvm.Free.Multi.outerC c N h0 i).setSlot i (.ref (h0 + 1 + i)) = _
    rw [gm_outer c N h0 i, arrV_store]
    refine congrArg (arrV c N) (funext fun j => ?_)
    by_cases e : j = i
    · subst e
      simp [updV, va_rf]
    · by_cases h : j < i
      · simp [updV, e, h, Nat.lt_succ_of_lt h]
      · simp [updV, e, h, show ¬ j < i + 1 by omega]
theorem gm_inner (c : ClassId) : Jvm.Free.Multi.innerC c 3 (defaultValue .int) = arrV c 3 (fun _ => .int 0) := by
  show ({ cls := c, slots := Array.replicate 3 (.int 0), vm := .none } : Cell) = _
  rw [arrV_new]
theorem gm_at_kept {D : va_G} {cl : List vw_C} {q : Nat × va_E} {H H1 : Heap} (h : va_at D cl q H) (e : H1[q.1]? = H[q.1]?) : va_at D cl q H1 := by
  have hP : va_P D cl [q] H := fun k x hx => by
    have hz : k < 1 := (List.getElem?_eq_some_iff.mp hx).1
    rw [show k = 0 by omega] at hx
    cases hx
    exact h
  have := hP.kept (H1 := H1) (fun k x hx => by
    have hz : k < 1 := (List.getElem?_eq_some_iff.mp hx).1
    rw [show k = 0 by omega] at hx
    cases hx
    exact e)
  exact this 0 q rfl
section GZ
variable {g : gm_G} {own nm : String} {cc : ByteArray} {nL : Nat} {rt : Option FieldType} {R : Room} {PP : State → Array Value → List Frame → State → Prop} {cu su pc : Nat} {lv : List (Nat × Value)} {st : List Value} {h : gm_H}
/-- new int[3][3]: the outer row, then the inner ones -/
theorem gx_mna {idx L : Nat} (hd : decode cc pc = .ok (.multianewarray idx 2, 4)) (hw : Cond.classLink own idx "[[I" ∈ gm_TB) (hcs : Nat.ble (cu + 4) R.cells = true ∧ Nat.ble (su + 12) R.slots = true) (hL : h.1.length = L) (hL2 : Nat.blt (L + 4) 1000 = true) (k : gm_XG g own nm cc nL rt R PP (cu + 4) (su + 12) (pc + 4) lv (.ref L :: st) ((h.1 ++ [.inl (6, 3)] ++ [.inl (0, 3)] ++ [.inl (0, 3)] ++ [.inl (0, 3)], va_up (va_up (va_up (va_up h.2.1 L (fun _ => 0)) (L + 1) (fun _ => 0)) (L + 2) (fun _ => 0)) (L + 3) (fun _ => 0), va_up (va_up (va_up (va_up h.2.2.1 L (fun _ => 0)) (L + 1) (fun _ => 0)) (L + 2) (fun _ => 0)) (L + 3) (fun _ => 0), va_up (va_up (va_up (va_up h.2.2.2 L (fun k => if k < 3 then some (L + 1 + k) else none)) (L + 1) (fun _ => none)) (L + 2) (fun _ => none)) (L + 3) (fun _ => none)))) : gm_XG g own nm cc nL rt R PP cu su pc lv (.int 3 :: .int 3 :: st) h := by
  intro p e s m args below meth c0 H locs ls C hP hz hS hl
  subst hL
  refine gm_size hP hz hS C.2.2.2.2.2.2.2.2.2 (fun hH => ?_)
  have hKK := C.2.2.2.2.2.2.2.2.1
  have hK := hKK.1
  have es : ("[" ++ (FieldType.array FieldType.int).toString) = "[[I" := by decide +kernel
  have c1 := Nat.le_of_ble_eq_true hcs.1
  have c2 := Nat.le_of_ble_eq_true hcs.2
  have e3 : (3 : Int32).toNatClampNeg = 3 := rfl
  intro T hT Xs
  obtain ⟨vm₁, cA, comp, -, fA, fC, -, -, X', step⟩ := Xs.multianewarray2F (own := own) (index := idx) (ty := .int) C.1 C.2.2.2.1 (by rw [es]; exact C.2.2.2.2.1 _ hw) (gm_AO.use hKK.2.2.1.2.2) (C.2.2.2.2.1 _ aw_0) (g := F0 m pc ls (.int 3 :: .int 3 :: st.map (gm_v g))) rfl (by rw [C.2.1]; exact hd) (n := 3) (k := 3) rfl (by decide) (by decide) (by decide) (by decide) (by decide) rfl rfl (by rw [e3]; omega) (by rw [e3]; omega)
  rw [e3] at X' step
  have hTh : (T.setVm vm₁).heap = H := hT
  have eS : T.heap.size = gm_bs g + h.1.length := by rw [← hH, ← hT]
  obtain ⟨f1, f2, -, -⟩ := Jvm.Free.Multi.fill_facts (T.setVm vm₁) cA comp 3 3 (defaultValue .int) 3
  have f3 : ∀ x : Nat, x < H.size → (Jvm.Free.Multi.fill (T.setVm vm₁) cA comp 3 3 (defaultValue .int) 3).heap[x]? = H[x]? := fun x hx => by
    have := Jvm.Free.Multi.fill_old (T.setVm vm₁) cA comp 3 3 (defaultValue .int) (a := x) (by rw [hTh]; exact hx) 3
    rw [hTh] at this
    exact this
  have f4 : ∀ j, j < 3 → (Jvm.Free.Multi.fill (T.setVm vm₁) cA comp 3 3 (defaultValue .int) 3).heap[gm_bs g + h.1.length + 1 + j]? = some (Jvm.Free.Multi.innerC comp 3 (defaultValue .int)) := fun j hj => by
    have := Jvm.Free.Multi.fill_inner (T.setVm vm₁) cA comp 3 3 (defaultValue .int) 3 j hj
    rw [hTh, hH] at this
    exact this
  rw [hTh] at f1 f2
  generalize Jvm.Free.Multi.fill (T.setVm vm₁) cA comp 3 3 (defaultValue .int) 3 = F at X' step f1 f2 f3 f4
  have ecA : cA = g.2.2.1 6 := by
    have h9 : s.vm.findClass ("[" ++ (FieldType.array FieldType.int).toString) = some (g.2.2.1 6) := (hK.2 6 _ (gm_tys_at (by omega))).2
    exact Option.some.inj (fA.symm.trans h9)
  have eco : comp = g.2.2.1 0 := by
    have h9 : s.vm.findClass ("[" ++ (FieldType.int).toString) = some (g.2.2.1 0) := (hK.2 0 _ (gm_tys_at (by omega))).2
    exact Option.some.inj (fC.symm.trans h9)
  subst ecA
  subst eco
  have hl4 : h.1.length + 4 < 1000 := gm_blt hL2
  have hout : Jvm.Free.Multi.outerC (g.2.2.1 6) 3 (gm_bs g + h.1.length) 3 = arrV (g.2.2.1 6) 3 (fun j => va_rf (if j < 3 then some (gm_bs g + h.1.length + 1 + j) else none)) := gm_outer _ _ _ 3
  rw [hH] at f1 f2
  rw [hout] at f2
  have P' : va_P g.2.1 vwCl (gm_W g (h.1 ++ [.inl (6, 3)] ++ [.inl (0, 3)] ++ [.inl (0, 3)] ++ [.inl (0, 3)], va_up (va_up (va_up (va_up h.2.1 h.1.length (fun _ => 0)) (h.1.length + 1) (fun _ => 0)) (h.1.length + 2) (fun _ => 0)) (h.1.length + 3) (fun _ => 0), va_up (va_up (va_up (va_up h.2.2.1 h.1.length (fun _ => 0)) (h.1.length + 1) (fun _ => 0)) (h.1.length + 2) (fun _ => 0)) (h.1.length + 3) (fun _ => 0), va_up (va_up (va_up (va_up h.2.2.2 h.1.length (fun k => if k < 3 then some (h.1.length + 1 + k) else none)) (h.1.length + 1) (fun _ => none)) (h.1.length + 2) (fun _ => none)) (h.1.length + 3) (fun _ => none))) F.heap := by
    intro k q hq
    rw [gm_W_get] at hq
    simp only [List.append_assoc, List.cons_append, List.nil_append] at hq
    by_cases hk : k < h.1.length
    · rw [List.getElem?_append_left hk] at hq
      cases hs : h.1[k]? with
      | none => rw [hs] at hq; cases hq
      | some sh =>
        rw [hs] at hq
        cases hq
        have h0 := hP k _ (gm_W_at (g := g) hs)
        have eE : gm_E g (va_up (va_up (va_up (va_up h.2.1 h.1.length (fun _ => 0)) (h.1.length + 1) (fun _ => 0)) (h.1.length + 2) (fun _ => 0)) (h.1.length + 3) (fun _ => 0), va_up (va_up (va_up (va_up h.2.2.1 h.1.length (fun _ => 0)) (h.1.length + 1) (fun _ => 0)) (h.1.length + 2) (fun _ => 0)) (h.1.length + 3) (fun _ => 0), va_up (va_up (va_up (va_up h.2.2.2 h.1.length (fun k => if k < 3 then some (h.1.length + 1 + k) else none)) (h.1.length + 1) (fun _ => none)) (h.1.length + 2) (fun _ => none)) (h.1.length + 3) (fun _ => none)) k sh = gm_E g h.2 k sh := by
          have n0 : k ≠ h.1.length := by omega
          have n1 : k ≠ h.1.length + 1 := by omega
          have n2 : k ≠ h.1.length + 2 := by omega
          have n3 : k ≠ h.1.length + 3 := by omega
          cases sh with
          | inl q => simp only [gm_E, gm_arr, va_up, if_neg n0, if_neg n1, if_neg n2, if_neg n3]
          | inr c => simp only [gm_E, gm_fld, va_up, if_neg n0, if_neg n1, if_neg n2, if_neg n3]
        show va_at g.2.1 vwCl (gm_bs g + k, _) F.heap
        rw [eE]
        exact gm_at_kept h0 (f3 _ (by rw [hH]; omega))
    · rw [List.getElem?_append_right (by omega)] at hq
      have hk4 : k - h.1.length < 4 := by
        rcases Nat.lt_or_ge (k - h.1.length) 4 with q1 | q1
        · exact q1
        · rw [List.getElem?_eq_none (by simpa using q1)] at hq
          cases hq
      have hkk : k = h.1.length ∨ k = h.1.length + 1 ∨ k = h.1.length + 2 ∨ k = h.1.length + 3 := by omega
      rcases hkk with rfl | rfl | rfl | rfl
      · rw [Nat.sub_self] at hq
        cases hq
        show F.heap[gm_bs g + h.1.length]? = some (vp_cell _ _)
        rw [f2]
        simp only [gm_arr, gm_tyA, gm_kd, va_up, if_true]
        rw [if_neg (by omega), if_neg (by omega), if_neg (by omega)]
        rw [vp_cell_q]
        congr 2
        funext j
        by_cases hj : j < 3
        · rw [if_pos hj, if_pos hj]
          show va_rf (some _) = va_rf (some (gm_ad g (h.1.length + 1 + j)))
          rw [gm_ad_lt (by omega)]
          congr 2
          omega
        · rw [if_neg hj, if_neg hj]
          rfl
      · rw [Nat.add_sub_cancel_left] at hq
        cases hq
        show F.heap[gm_bs g + (h.1.length + 1)]? = some (vp_cell _ _)
        rw [show gm_bs g + (h.1.length + 1) = gm_bs g + h.1.length + 1 + 0 by omega, f4 0 (by omega)]
        simp only [gm_arr, gm_tyA, gm_kd, va_up, if_true]
        rw [if_neg (by omega), if_neg (by omega)]
        rw [gm_inner]
        rfl
      · rw [Nat.add_sub_cancel_left] at hq
        cases hq
        show F.heap[gm_bs g + (h.1.length + 2)]? = some (vp_cell _ _)
        rw [show gm_bs g + (h.1.length + 2) = gm_bs g + h.1.length + 1 + 1 by omega, f4 1 (by omega)]
        simp only [gm_arr, gm_tyA, gm_kd, va_up, if_true]
        rw [if_neg (by omega)]
        rw [gm_inner]
        rfl
      · rw [Nat.add_sub_cancel_left] at hq
        cases hq
        show F.heap[gm_bs g + (h.1.length + 3)]? = some (vp_cell _ _)
        rw [show gm_bs g + (h.1.length + 3) = gm_bs g + h.1.length + 1 + 2 by omega, f4 2 (by omega)]
        simp only [gm_arr, gm_tyA, gm_kd, va_up, if_true]
        rw [gm_inner]
        rfl
  have S' : va_S (gm_A g) s.heap F.heap locs := ⟨Nat.le_trans hS.1 (by omega), fun x h1 h2 => (f3 x (Nat.lt_of_lt_of_le h1 hS.1)).trans (hS.2.1 x h1 h2), hS.2.2⟩
  obtain ⟨t, a1, b1⟩ := k p e s m args below meth c0 F.heap locs ls C P' (by simp only [List.length_append, List.length_singleton]; omega) S' hl F rfl X'
  refine ⟨t, step t ?_, b1⟩
  have e0 : gm_v g (.ref h.1.length) = .ref T.heap.size := by rw [eS]; exact congrArg Value.ref (gm_ad_lt (by omega))
  have e9 : (Value.ref h.1.length :: st).map (gm_v g) = .ref T.heap.size :: st.map (gm_v g) := by rw [List.map_cons, e0]
  rw [e9] at a1
  exact a1
end GZ
