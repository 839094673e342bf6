abbrev Z_Sh20_sumOf (g : gm_G) (Q : Int32 → mI → mL → gm_cfg → Prop) (pc : Nat) (lv : List (Nat × Value)) (st : List Value) (I : mI) (L : mL) (c : gm_cfg) : Prop := gm_X g RX8 "sumOf" cX8_sumOf 4 (some .int) 1 0 0 (qI Q) 0 0 pc lv st (SH, I, L, RR c)
abbrev C_Sh20_sumOf (g : gm_G) (x1 : Int32) (I : mI) (L : mL) (c : gm_cfg) (Q : Int32 → mI → mL → gm_cfg → Prop) : Prop := gm_Met g yX8_sumOf cX8_sumOf 4 (some .int) 1 0 0 [.ref 20, .int x1] (SH, I, L, RR c) (qI Q)
set_option maxRecDepth 100000 in
theorem e_Sh20_sumOf {g : gm_G} {Q : Int32 → mI → mL → gm_cfg → Prop} {x1 : Int32} {I : mI} {L : mL} {c : gm_cfg} (h : Z_Sh20_sumOf g Q 4 [(0, .ref 20), (1, .int x1), (2, .int 0), (3, .int 0)] [] I L c) : C_Sh20_sumOf g x1 I L c Q := by
  refine gm_enter (lv := [(0, .ref 20), (1, .int x1)]) (by decide) rfl rfl rfl rfl ?_
  show Z_Sh20_sumOf g Q 0 [(0, .ref 20), (1, .int x1)] [] I L c
  refine gx_iconst (v := 0) dX8_sumOf_0 (by decide) ?_
  refine gx_istore_n (lv' := [(0, .ref 20), (1, .int x1), (2, .int 0)]) dX8_sumOf_1 rfl rfl rfl ?_
  refine gx_iconst (v := 0) dX8_sumOf_2 (by decide) ?_
  refine gx_istore_n (lv' := [(0, .ref 20), (1, .int x1), (2, .int 0), (3, .int 0)]) dX8_sumOf_3 rfl rfl rfl ?_
  exact h
set_option maxRecDepth 100000 in
theorem r_Sh20_sumOf_4 {g : gm_G} {Q : Int32 → mI → mL → gm_cfg → Prop} {x1 x2 x3 : Int32} {I : mI} {L : mL} {c : gm_cfg} (h : ((x1 ≤ x3 → Q x2 I L c) ∧ (¬ x1 ≤ x3 → (((I 20 2) ≤ x3 → Q x2 I L c) ∧ (¬ (I 20 2) ≤ x3 → (vp_in x3 40 ∧ Z_Sh20_sumOf g Q 4 [(0, .ref 20), (1, .int x1), (2, .int (x2 + (I 21 (Int32.toNatClampNeg x3)))), (3, .int (x3 + 1))] [] I L c)))))) : Z_Sh20_sumOf g Q 4 [(0, .ref 20), (1, .int x1), (2, .int x2), (3, .int x3)] [] I L c := by
  refine gx_iload_n 3 dX8_sumOf_4 rfl rfl ?_
  refine gx_iload_n 1 dX8_sumOf_5 rfl rfl ?_
  refine gx_icmp_ge 32 dX8_sumOf_6 (by decide) ⟨fun z => ?_, fun z => ?_⟩
  · replace h := h.1 z
    refine gx_iload_n 2 dX8_sumOf_32 rfl rfl ?_
    exact gx_iret dX8_sumOf_33 rfl rfl rfl ⟨_, _, _, _, rfl, rfl, h⟩
  · replace h := h.2 z
    refine gx_iload_n 3 dX8_sumOf_9 rfl rfl ?_
    refine gx_aload_n 0 dX8_sumOf_10 rfl rfl ?_
    refine gx_geti 8 2 (v := (I 20 2)) dX8_sumOf_11 fl_X8_24 rfl rfl rfl ?_
    refine gx_icmp_ge 32 dX8_sumOf_14 (by decide) ⟨fun z => ?_, fun z => ?_⟩
    · replace h := h.1 z
      refine gx_iload_n 2 dX8_sumOf_32 rfl rfl ?_
      exact gx_iret dX8_sumOf_33 rfl rfl rfl ⟨_, _, _, _, rfl, rfl, h⟩
    · replace h := h.2 z
      refine gx_iload_n 2 dX8_sumOf_17 rfl rfl ?_
      refine gx_aload_n 0 dX8_sumOf_18 rfl rfl ?_
      refine gx_getr 8 0 (v := 21) dX8_sumOf_19 fl_X8_9 rfl rfl rfl ?_
      refine gx_iload_n 3 dX8_sumOf_22 rfl rfl ?_
      obtain ⟨hi, h⟩ := h
      refine gx_iald (v := (I 21 (Int32.toNatClampNeg x3))) dX8_sumOf_23 rfl rfl hi (k := (Int32.toNatClampNeg x3)) rfl rfl ?_
      refine gx_iadd dX8_sumOf_24 ?_
      refine gx_istore_n (lv' := [(0, .ref 20), (1, .int x1), (2, .int (x2 + (I 21 (Int32.toNatClampNeg x3)))), (3, .int x3)]) dX8_sumOf_25 rfl rfl rfl ?_
      refine gx_iinc (v := (x3 + 1)) (lv' := [(0, .ref 20), (1, .int x1), (2, .int (x2 + (I 21 (Int32.toNatClampNeg x3)))), (3, .int (x3 + 1))]) 3 dX8_sumOf_26 rfl rfl rfl rfl ?_
      refine gx_goto 4 dX8_sumOf_29 (by decide) ?_
      exact h
abbrev Z_Sh20_has (g : gm_G) (Q : Bool → mI → mL → gm_cfg → Prop) (pc : Nat) (lv : List (Nat × Value)) (st : List Value) (I : mI) (L : mL) (c : gm_cfg) : Prop := gm_X g RX8 "has" cX8_has 2 (some .boolean) 1 0 0 (qZ Q) 0 0 pc lv st (SH, I, L, RR c)
abbrev C_Sh20_has (g : gm_G) (x1 : Int32) (I : mI) (L : mL) (c : gm_cfg) (Q : Bool → mI → mL → gm_cfg → Prop) : Prop := gm_Met g yX8_has cX8_has 2 (some .boolean) 1 0 0 [.ref 20, .int x1] (SH, I, L, RR c) (qZ Q)
set_option maxRecDepth 100000 in
theorem e_Sh20_has {g : gm_G} {Q : Bool → mI → mL → gm_cfg → Prop} {x1 : Int32} {I : mI} {L : mL} {c : gm_cfg} (h : ((x1 < 0 → Q false I L c) ∧ (¬ x1 < 0 → (((I 20 2) ≤ x1 → Q false I L c) ∧ (¬ (I 20 2) ≤ x1 → ((40 ≤ x1 → Q false I L c) ∧ (¬ 40 ≤ x1 → Q true I L c))))))) : C_Sh20_has g x1 I L c Q := by
  refine gm_enter (lv := [(0, .ref 20), (1, .int x1)]) (by decide) rfl rfl rfl rfl ?_
  show Z_Sh20_has g Q 0 [(0, .ref 20), (1, .int x1)] [] I L c
  refine gx_iload_n 1 dX8_has_0 rfl rfl ?_
  refine gx_if_lt 22 dX8_has_1 (by decide) ⟨fun z => ?_, fun z => ?_⟩
  · replace h := h.1 z
    refine gx_iconst (v := 0) dX8_has_22 (by decide) ?_
    exact gx_zret .boolean dX8_has_23 rfl rfl rfl rfl ⟨false, _, _, _, rfl, rfl, h⟩
  · replace h := h.2 z
    refine gx_iload_n 1 dX8_has_4 rfl rfl ?_
    refine gx_aload_n 0 dX8_has_5 rfl rfl ?_
    refine gx_geti 8 2 (v := (I 20 2)) dX8_has_6 fl_X8_24 rfl rfl rfl ?_
    refine gx_icmp_ge 22 dX8_has_9 (by decide) ⟨fun z => ?_, fun z => ?_⟩
    · replace h := h.1 z
      refine gx_iconst (v := 0) dX8_has_22 (by decide) ?_
      exact gx_zret .boolean dX8_has_23 rfl rfl rfl rfl ⟨false, _, _, _, rfl, rfl, h⟩
    · replace h := h.2 z
      refine gx_iload_n 1 dX8_has_12 rfl rfl ?_
      refine gx_bipush (v := 40) dX8_has_13 (by decide) ?_
      refine gx_icmp_ge 22 dX8_has_15 (by decide) ⟨fun z => ?_, fun z => ?_⟩
      · replace h := h.1 z
        refine gx_iconst (v := 0) dX8_has_22 (by decide) ?_
        exact gx_zret .boolean dX8_has_23 rfl rfl rfl rfl ⟨false, _, _, _, rfl, rfl, h⟩
      · replace h := h.2 z
        refine gx_iconst (v := 1) dX8_has_18 (by decide) ?_
        refine gx_goto 23 dX8_has_19 (by decide) ?_
        exact gx_zret .boolean dX8_has_23 rfl rfl rfl rfl ⟨true, _, _, _, rfl, rfl, h⟩
abbrev Z_Sh20_add (g : gm_G) (Q : mI → mL → gm_cfg → Prop) (pc : Nat) (lv : List (Nat × Value)) (st : List Value) (I : mI) (L : mL) (c : gm_cfg) : Prop := gm_X g RX8 "add" cX8_add 3 none 1 0 0 (qV Q) 0 0 pc lv st (SH, I, L, RR c)
abbrev C_Sh20_add (g : gm_G) (x1 : Int32) (x2 : Int32) (I : mI) (L : mL) (c : gm_cfg) (Q : mI → mL → gm_cfg → Prop) : Prop := gm_Met g yX8_add cX8_add 3 none 1 0 0 [.ref 20, .int x1, .int x2] (SH, I, L, RR c) (qV Q)
set_option maxRecDepth 100000 in
theorem e_Sh20_add {g : gm_G} {Q : mI → mL → gm_cfg → Prop} {x1 x2 : Int32} {I : mI} {L : mL} {c : gm_cfg} (h : ((40 ≤ (I 20 2) → Q I L c) ∧ (¬ 40 ≤ (I 20 2) → (vp_in (I 20 2) 40 ∧ (vp_in (I 20 2) 40 ∧ Q (gm_u (gm_u (gm_u I 21 (Int32.toNatClampNeg (I 20 2)) x2) 22 (Int32.toNatClampNeg (I 20 2)) x1) 20 2 ((I 20 2) + 1)) L c))))) : C_Sh20_add g x1 x2 I L c Q := by
  refine gm_enter (lv := [(0, .ref 20), (1, .int x1), (2, .int x2)]) (by decide) rfl rfl rfl rfl ?_
  show Z_Sh20_add g Q 0 [(0, .ref 20), (1, .int x1), (2, .int x2)] [] I L c
  refine gx_aload_n 0 dX8_add_0 rfl rfl ?_
  refine gx_geti 8 2 (v := (I 20 2)) dX8_add_1 fl_X8_24 rfl rfl rfl ?_
  refine gx_bipush (v := 40) dX8_add_4 (by decide) ?_
  refine gx_icmp_ge 39 dX8_add_6 (by decide) ⟨fun z => ?_, fun z => ?_⟩
  · replace h := h.1 z
    exact gx_vret dX8_add_39 rfl rfl rfl ⟨_, _, _, rfl, rfl, h⟩
  · replace h := h.2 z
    refine gx_aload_n 0 dX8_add_9 rfl rfl ?_
    refine gx_getr 8 0 (v := 21) dX8_add_10 fl_X8_9 rfl rfl rfl ?_
    refine gx_aload_n 0 dX8_add_13 rfl rfl ?_
    refine gx_geti 8 2 (v := (I 20 2)) dX8_add_14 fl_X8_24 rfl rfl rfl ?_
    refine gx_iload_n 2 dX8_add_17 rfl rfl ?_
    obtain ⟨hi, h⟩ := h
    refine gx_iast dX8_add_18 rfl rfl hi (k := (Int32.toNatClampNeg (I 20 2))) rfl ?_
    show Z_Sh20_add g Q 19 [(0, .ref 20), (1, .int x1), (2, .int x2)] [] (gm_u I 21 (Int32.toNatClampNeg (I 20 2)) x2) L c
    refine gx_aload_n 0 dX8_add_19 rfl rfl ?_
    refine gx_getr 8 1 (v := 22) dX8_add_20 fl_X8_15 rfl rfl rfl ?_
    refine gx_aload_n 0 dX8_add_23 rfl rfl ?_
    refine gx_geti 8 2 (v := (I 20 2)) dX8_add_24 fl_X8_24 rfl rfl rfl ?_
    refine gx_iload_n 1 dX8_add_27 rfl rfl ?_
    obtain ⟨hi, h⟩ := h
    refine gx_iast dX8_add_28 rfl rfl hi (k := (Int32.toNatClampNeg (I 20 2))) rfl ?_
    show Z_Sh20_add g Q 29 [(0, .ref 20), (1, .int x1), (2, .int x2)] [] (gm_u (gm_u I 21 (Int32.toNatClampNeg (I 20 2)) x2) 22 (Int32.toNatClampNeg (I 20 2)) x1) L c
    refine gx_aload_n 0 dX8_add_29 rfl rfl ?_
    refine gx_dup dX8_add_30 rfl ?_
    refine gx_geti 8 2 (v := (I 20 2)) dX8_add_31 fl_X8_24 rfl rfl rfl ?_
    refine gx_iconst (v := 1) dX8_add_34 (by decide) ?_
    refine gx_iadd dX8_add_35 ?_
    refine gx_puti 8 2 dX8_add_36 fl_X8_24 rfl rfl rfl ⟨rfl, rfl⟩ ?_
    show Z_Sh20_add g Q 39 [(0, .ref 20), (1, .int x1), (2, .int x2)] [] (gm_u (gm_u (gm_u I 21 (Int32.toNatClampNeg (I 20 2)) x2) 22 (Int32.toNatClampNeg (I 20 2)) x1) 20 2 ((I 20 2) + 1)) L c
    exact gx_vret dX8_add_39 rfl rfl rfl ⟨_, _, _, rfl, rfl, h⟩
abbrev Z_Sh20_cutTo (g : gm_G) (Q : mI → mL → gm_cfg → Prop) (pc : Nat) (lv : List (Nat × Value)) (st : List Value) (I : mI) (L : mL) (c : gm_cfg) : Prop := gm_X g RX8 "cutTo" cX8_cutTo 2 none 1 0 0 (qV Q) 0 0 pc lv st (SH, I, L, RR c)
abbrev C_Sh20_cutTo (g : gm_G) (x1 : Int32) (I : mI) (L : mL) (c : gm_cfg) (Q : mI → mL → gm_cfg → Prop) : Prop := gm_Met g yX8_cutTo cX8_cutTo 2 none 1 0 0 [.ref 20, .int x1] (SH, I, L, RR c) (qV Q)
set_option maxRecDepth 100000 in
theorem e_Sh20_cutTo {g : gm_G} {Q : mI → mL → gm_cfg → Prop} {x1 : Int32} {I : mI} {L : mL} {c : gm_cfg} (h : ((x1 < 0 → Q I L c) ∧ (¬ x1 < 0 → (((I 20 2) ≤ x1 → Q I L c) ∧ (¬ (I 20 2) ≤ x1 → Q (gm_u I 20 2 x1) L c))))) : C_Sh20_cutTo g x1 I L c Q := by
  refine gm_enter (lv := [(0, .ref 20), (1, .int x1)]) (by decide) rfl rfl rfl rfl ?_
  show Z_Sh20_cutTo g Q 0 [(0, .ref 20), (1, .int x1)] [] I L c
  refine gx_iload_n 1 dX8_cutTo_0 rfl rfl ?_
  refine gx_if_lt 17 dX8_cutTo_1 (by decide) ⟨fun z => ?_, fun z => ?_⟩
  · replace h := h.1 z
    exact gx_vret dX8_cutTo_17 rfl rfl rfl ⟨_, _, _, rfl, rfl, h⟩
  · replace h := h.2 z
    refine gx_iload_n 1 dX8_cutTo_4 rfl rfl ?_
    refine gx_aload_n 0 dX8_cutTo_5 rfl rfl ?_
    refine gx_geti 8 2 (v := (I 20 2)) dX8_cutTo_6 fl_X8_24 rfl rfl rfl ?_
    refine gx_icmp_ge 17 dX8_cutTo_9 (by decide) ⟨fun z => ?_, fun z => ?_⟩
    · replace h := h.1 z
      exact gx_vret dX8_cutTo_17 rfl rfl rfl ⟨_, _, _, rfl, rfl, h⟩
    · replace h := h.2 z
      refine gx_aload_n 0 dX8_cutTo_12 rfl rfl ?_
      refine gx_iload_n 1 dX8_cutTo_13 rfl rfl ?_
      refine gx_puti 8 2 dX8_cutTo_14 fl_X8_24 rfl rfl rfl ⟨rfl, rfl⟩ ?_
      show Z_Sh20_cutTo g Q 17 [(0, .ref 20), (1, .int x1)] [] (gm_u I 20 2 x1) L c
      exact gx_vret dX8_cutTo_17 rfl rfl rfl ⟨_, _, _, rfl, rfl, h⟩
abbrev Z_Sh20_meanOf (g : gm_G) (Q : Int32 → mI → mL → gm_cfg → Prop) (pc : Nat) (lv : List (Nat × Value)) (st : List Value) (I : mI) (L : mL) (c : gm_cfg) : Prop := gm_X g RX8 "meanOf" cX8_meanOf 2 (some .int) 2 0 0 (qI Q) 0 0 pc lv st (SH, I, L, RR c)
abbrev C_Sh20_meanOf (g : gm_G) (x1 : Int32) (I : mI) (L : mL) (c : gm_cfg) (Q : Int32 → mI → mL → gm_cfg → Prop) : Prop := gm_Met g yX8_meanOf cX8_meanOf 2 (some .int) 2 0 0 [.ref 20, .int x1] (SH, I, L, RR c) (qI Q)
set_option maxRecDepth 100000 in
theorem e_Sh20_meanOf {g : gm_G} {Q : Int32 → mI → mL → gm_cfg → Prop} {x1 : Int32} {I : mI} {L : mL} {c : gm_cfg} (h : ((x1 ≤ 0 → Q (-1) I L c) ∧ (¬ x1 ≤ 0 → (C_Sh20_sumOf g x1 I L c (fun r4 I1 L2 c3 => (¬ x1 = 0 ∧ Q (r4 / x1) I1 L2 c3)))))) : C_Sh20_meanOf g x1 I L c Q := by
  refine gm_enter (lv := [(0, .ref 20), (1, .int x1)]) (by decide) rfl rfl rfl rfl ?_
  show Z_Sh20_meanOf g Q 0 [(0, .ref 20), (1, .int x1)] [] I L c
  refine gx_iload_n 1 dX8_meanOf_0 rfl rfl ?_
  refine gx_if_le 14 dX8_meanOf_1 (by decide) ⟨fun z => ?_, fun z => ?_⟩
  · replace h := h.1 z
    refine gx_iconst (v := (-1)) dX8_meanOf_14 (by decide) ?_
    exact gx_iret dX8_meanOf_15 rfl rfl rfl ⟨_, _, _, _, rfl, rfl, h⟩
  · replace h := h.2 z
    refine gx_aload_n 0 dX8_meanOf_4 rfl rfl ?_
    refine gx_iload_n 1 dX8_meanOf_5 rfl rfl ?_
    refine gx_callV 8 (As := [.int x1]) (st := []) dX8_meanOf_6 ml_X8_28 mm_X8_sumOf rfl rfl rfl rfl rfl rfl ⟨rfl, rfl⟩ h (fun v h2 hq => ?_)
    obtain ⟨r4, I1, L2, c3, rfl, rfl, h⟩ := hq
    show Z_Sh20_meanOf g Q 9 [(0, .ref 20), (1, .int x1)] [.int r4] I1 L2 c3
    refine gx_iload_n 1 dX8_meanOf_9 rfl rfl ?_
    obtain ⟨hn, h⟩ := h
    refine gx_idiv dX8_meanOf_10 hn ?_
    refine gx_goto 15 dX8_meanOf_11 (by decide) ?_
    exact gx_iret dX8_meanOf_15 rfl rfl rfl ⟨_, _, _, _, rfl, rfl, h⟩
abbrev Z_Sh20_goalAt (g : gm_G) (Q : Int32 → mI → mL → gm_cfg → Prop) (pc : Nat) (lv : List (Nat × Value)) (st : List Value) (I : mI) (L : mL) (c : gm_cfg) : Prop := gm_X g RX8 "goalAt" cX8_goalAt 3 (some .int) 2 0 0 (qI Q) 0 0 pc lv st (SH, I, L, RR c)
abbrev C_Sh20_goalAt (g : gm_G) (x1 : Int32) (x2 : Int32) (I : mI) (L : mL) (c : gm_cfg) (Q : Int32 → mI → mL → gm_cfg → Prop) : Prop := gm_Met g yX8_goalAt cX8_goalAt 3 (some .int) 2 0 0 [.ref 20, .int x1, .int x2] (SH, I, L, RR c) (qI Q)
set_option maxRecDepth 100000 in
theorem e_Sh20_goalAt {g : gm_G} {Q : Int32 → mI → mL → gm_cfg → Prop} {x1 x2 : Int32} {I : mI} {L : mL} {c : gm_cfg} (h : ((x2 = 0 → ((0 < x1 → (C_Sh20_sumOf g x1 I L c (fun r4 I1 L2 c3 => (¬ x1 = 0 ∧ Q (r4 / x1) I1 L2 c3)))) ∧ (¬ 0 < x1 → Q (-1) I L c))) ∧ (¬ x2 = 0 → Q (-1) I L c))) : C_Sh20_goalAt g x1 x2 I L c Q := by
  refine gm_enter (lv := [(0, .ref 20), (1, .int x1), (2, .int x2)]) (by decide) rfl rfl rfl rfl ?_
  show Z_Sh20_goalAt g Q 0 [(0, .ref 20), (1, .int x1), (2, .int x2)] [] I L c
  refine gx_iload_n 2 dX8_goalAt_0 rfl rfl ?_
  refine gx_if_ne 8 dX8_goalAt_1 (by decide) ⟨fun z => ?_, fun z => ?_⟩
  · replace h := h.1 z
    refine gx_iload_n 1 dX8_goalAt_4 rfl rfl ?_
    refine gx_if_gt 12 dX8_goalAt_5 (by decide) ⟨fun z => ?_, fun z => ?_⟩
    · replace h := h.1 z
      refine gx_aload_n 0 dX8_goalAt_12 rfl rfl ?_
      refine gx_iload_n 1 dX8_goalAt_13 rfl rfl ?_
      refine gx_callV 8 (As := [.int x1]) (st := []) dX8_goalAt_14 ml_X8_28 mm_X8_sumOf rfl rfl rfl rfl rfl rfl ⟨rfl, rfl⟩ h (fun v h2 hq => ?_)
      obtain ⟨r4, I1, L2, c3, rfl, rfl, h⟩ := hq
      show Z_Sh20_goalAt g Q 17 [(0, .ref 20), (1, .int x1), (2, .int x2)] [.int r4] I1 L2 c3
      refine gx_iload_n 1 dX8_goalAt_17 rfl rfl ?_
      obtain ⟨hn, h⟩ := h
      refine gx_idiv dX8_goalAt_18 hn ?_
      exact gx_iret dX8_goalAt_19 rfl rfl rfl ⟨_, _, _, _, rfl, rfl, h⟩
    · replace h := h.2 z
      refine gx_iconst (v := (-1)) dX8_goalAt_8 (by decide) ?_
      refine gx_goto 19 dX8_goalAt_9 (by decide) ?_
      exact gx_iret dX8_goalAt_19 rfl rfl rfl ⟨_, _, _, _, rfl, rfl, h⟩
  · replace h := h.2 z
    refine gx_iconst (v := (-1)) dX8_goalAt_8 (by decide) ?_
    refine gx_goto 19 dX8_goalAt_9 (by decide) ?_
    exact gx_iret dX8_goalAt_19 rfl rfl rfl ⟨_, _, _, _, rfl, rfl, h⟩
abbrev Z_Sh20_writtenBy (g : gm_G) (Q : Int32 → mI → mL → gm_cfg → Prop) (pc : Nat) (lv : List (Nat × Value)) (st : List Value) (I : mI) (L : mL) (c : gm_cfg) : Prop := gm_X g RX8 "writtenBy" cX8_writtenBy 4 (some .int) 1 0 0 (qI Q) 0 0 pc lv st (SH, I, L, RR c)
abbrev C_Sh20_writtenBy (g : gm_G) (x1 : Int32) (I : mI) (L : mL) (c : gm_cfg) (Q : Int32 → mI → mL → gm_cfg → Prop) : Prop := gm_Met g yX8_writtenBy cX8_writtenBy 4 (some .int) 1 0 0 [.ref 20, .int x1] (SH, I, L, RR c) (qI Q)
set_option maxRecDepth 100000 in
theorem e_Sh20_writtenBy {g : gm_G} {Q : Int32 → mI → mL → gm_cfg → Prop} {x1 : Int32} {I : mI} {L : mL} {c : gm_cfg} (h : Z_Sh20_writtenBy g Q 4 [(0, .ref 20), (1, .int x1), (2, .int 0), (3, .int 0)] [] I L c) : C_Sh20_writtenBy g x1 I L c Q := by
  refine gm_enter (lv := [(0, .ref 20), (1, .int x1)]) (by decide) rfl rfl rfl rfl ?_
  show Z_Sh20_writtenBy g Q 0 [(0, .ref 20), (1, .int x1)] [] I L c
  refine gx_iconst (v := 0) dX8_writtenBy_0 (by decide) ?_
  refine gx_istore_n (lv' := [(0, .ref 20), (1, .int x1), (2, .int 0)]) dX8_writtenBy_1 rfl rfl rfl ?_
  refine gx_iconst (v := 0) dX8_writtenBy_2 (by decide) ?_
  refine gx_istore_n (lv' := [(0, .ref 20), (1, .int x1), (2, .int 0), (3, .int 0)]) dX8_writtenBy_3 rfl rfl rfl ?_
  exact h
set_option maxRecDepth 100000 in
theorem r_Sh20_writtenBy_4 {g : gm_G} {Q : Int32 → mI → mL → gm_cfg → Prop} {x1 x2 x3 : Int32} {I : mI} {L : mL} {c : gm_cfg} (h : (((I 20 2) ≤ x3 → Q x2 I L c) ∧ (¬ (I 20 2) ≤ x3 → (vp_in x3 40 ∧ (((I 22 (Int32.toNatClampNeg x3)) = x1 → Z_Sh20_writtenBy g Q 4 [(0, .ref 20), (1, .int x1), (2, .int (x2 + 1)), (3, .int (x3 + 1))] [] I L c) ∧ (¬ (I 22 (Int32.toNatClampNeg x3)) = x1 → Z_Sh20_writtenBy g Q 4 [(0, .ref 20), (1, .int x1), (2, .int x2), (3, .int (x3 + 1))] [] I L c)))))) : Z_Sh20_writtenBy g Q 4 [(0, .ref 20), (1, .int x1), (2, .int x2), (3, .int x3)] [] I L c := by
  refine gx_iload_n 3 dX8_writtenBy_4 rfl rfl ?_
  refine gx_aload_n 0 dX8_writtenBy_5 rfl rfl ?_
  refine gx_geti 8 2 (v := (I 20 2)) dX8_writtenBy_6 fl_X8_24 rfl rfl rfl ?_
  refine gx_icmp_ge 31 dX8_writtenBy_9 (by decide) ⟨fun z => ?_, fun z => ?_⟩
  · replace h := h.1 z
    refine gx_iload_n 2 dX8_writtenBy_31 rfl rfl ?_
    exact gx_iret dX8_writtenBy_32 rfl rfl rfl ⟨_, _, _, _, rfl, rfl, h⟩
  · replace h := h.2 z
    refine gx_aload_n 0 dX8_writtenBy_12 rfl rfl ?_
    refine gx_getr 8 1 (v := 22) dX8_writtenBy_13 fl_X8_15 rfl rfl rfl ?_
    refine gx_iload_n 3 dX8_writtenBy_16 rfl rfl ?_
    obtain ⟨hi, h⟩ := h
    refine gx_iald (v := (I 22 (Int32.toNatClampNeg x3))) dX8_writtenBy_17 rfl rfl hi (k := (Int32.toNatClampNeg x3)) rfl rfl ?_
    refine gx_iload_n 1 dX8_writtenBy_18 rfl rfl ?_
    refine gx_icmp_ne 25 dX8_writtenBy_19 (by decide) ⟨fun z => ?_, fun z => ?_⟩
    · replace h := h.1 z
      refine gx_iinc (v := (x2 + 1)) (lv' := [(0, .ref 20), (1, .int x1), (2, .int (x2 + 1)), (3, .int x3)]) 2 dX8_writtenBy_22 rfl rfl rfl rfl ?_
      refine gx_iinc (v := (x3 + 1)) (lv' := [(0, .ref 20), (1, .int x1), (2, .int (x2 + 1)), (3, .int (x3 + 1))]) 3 dX8_writtenBy_25 rfl rfl rfl rfl ?_
      refine gx_goto 4 dX8_writtenBy_28 (by decide) ?_
      exact h
    · replace h := h.2 z
      refine gx_iinc (v := (x3 + 1)) (lv' := [(0, .ref 20), (1, .int x1), (2, .int x2), (3, .int (x3 + 1))]) 3 dX8_writtenBy_25 rfl rfl rfl rfl ?_
      refine gx_goto 4 dX8_writtenBy_28 (by decide) ?_
      exact h
abbrev Z_Sh20_latestBy (g : gm_G) (Q : Int32 → mI → mL → gm_cfg → Prop) (pc : Nat) (lv : List (Nat × Value)) (st : List Value) (I : mI) (L : mL) (c : gm_cfg) : Prop := gm_X g RX8 "latestBy" cX8_latestBy 3 (some .int) 1 0 0 (qI Q) 0 0 pc lv st (SH, I, L, RR c)
abbrev C_Sh20_latestBy (g : gm_G) (x1 : Int32) (I : mI) (L : mL) (c : gm_cfg) (Q : Int32 → mI → mL → gm_cfg → Prop) : Prop := gm_Met g yX8_latestBy cX8_latestBy 3 (some .int) 1 0 0 [.ref 20, .int x1] (SH, I, L, RR c) (qI Q)
set_option maxRecDepth 100000 in
theorem e_Sh20_latestBy {g : gm_G} {Q : Int32 → mI → mL → gm_cfg → Prop} {x1 : Int32} {I : mI} {L : mL} {c : gm_cfg} (h : Z_Sh20_latestBy g Q 7 [(0, .ref 20), (1, .int x1), (2, .int ((I 20 2) - 1))] [] I L c) : C_Sh20_latestBy g x1 I L c Q := by
  refine gm_enter (lv := [(0, .ref 20), (1, .int x1)]) (by decide) rfl rfl rfl rfl ?_
  show Z_Sh20_latestBy g Q 0 [(0, .ref 20), (1, .int x1)] [] I L c
  refine gx_aload_n 0 dX8_latestBy_0 rfl rfl ?_
  refine gx_geti 8 2 (v := (I 20 2)) dX8_latestBy_1 fl_X8_24 rfl rfl rfl ?_
  refine gx_iconst (v := 1) dX8_latestBy_4 (by decide) ?_
  refine gx_isub dX8_latestBy_5 ?_
  refine gx_istore_n (lv' := [(0, .ref 20), (1, .int x1), (2, .int ((I 20 2) - 1))]) dX8_latestBy_6 rfl rfl rfl ?_
  exact h
set_option maxRecDepth 100000 in
theorem r_Sh20_latestBy_7 {g : gm_G} {Q : Int32 → mI → mL → gm_cfg → Prop} {x1 x2 : Int32} {I : mI} {L : mL} {c : gm_cfg} (h : ((x2 < 0 → Q (-1) I L c) ∧ (¬ x2 < 0 → (vp_in x2 40 ∧ (((I 22 (Int32.toNatClampNeg x2)) = x1 → Q x2 I L c) ∧ (¬ (I 22 (Int32.toNatClampNeg x2)) = x1 → Z_Sh20_latestBy g Q 7 [(0, .ref 20), (1, .int x1), (2, .int (x2 + (-1)))] [] I L c)))))) : Z_Sh20_latestBy g Q 7 [(0, .ref 20), (1, .int x1), (2, .int x2)] [] I L c := by
  refine gx_iload_n 2 dX8_latestBy_7 rfl rfl ?_
  refine gx_if_lt 29 dX8_latestBy_8 (by decide) ⟨fun z => ?_, fun z => ?_⟩
  · replace h := h.1 z
    refine gx_iconst (v := (-1)) dX8_latestBy_29 (by decide) ?_
    exact gx_iret dX8_latestBy_30 rfl rfl rfl ⟨_, _, _, _, rfl, rfl, h⟩
  · replace h := h.2 z
    refine gx_aload_n 0 dX8_latestBy_11 rfl rfl ?_
    refine gx_getr 8 1 (v := 22) dX8_latestBy_12 fl_X8_15 rfl rfl rfl ?_
    refine gx_iload_n 2 dX8_latestBy_15 rfl rfl ?_
    obtain ⟨hi, h⟩ := h
    refine gx_iald (v := (I 22 (Int32.toNatClampNeg x2))) dX8_latestBy_16 rfl rfl hi (k := (Int32.toNatClampNeg x2)) rfl rfl ?_
    refine gx_iload_n 1 dX8_latestBy_17 rfl rfl ?_
    refine gx_icmp_ne 23 dX8_latestBy_18 (by decide) ⟨fun z => ?_, fun z => ?_⟩
    · replace h := h.1 z
      refine gx_iload_n 2 dX8_latestBy_21 rfl rfl ?_
      exact gx_iret dX8_latestBy_22 rfl rfl rfl ⟨_, _, _, _, rfl, rfl, h⟩
    · replace h := h.2 z
      refine gx_iinc (v := (x2 + (-1))) (lv' := [(0, .ref 20), (1, .int x1), (2, .int (x2 + (-1)))]) 2 dX8_latestBy_23 rfl rfl rfl rfl ?_
      refine gx_goto 7 dX8_latestBy_26 (by decide) ?_
      exact h
abbrev Z_Sh20_firstOf (g : gm_G) (Q : Int32 → mI → mL → gm_cfg → Prop) (pc : Nat) (lv : List (Nat × Value)) (st : List Value) (I : mI) (L : mL) (c : gm_cfg) : Prop := gm_X g RX8 "firstOf" cX8_firstOf 3 (some .int) 1 0 0 (qI Q) 0 0 pc lv st (SH, I, L, RR c)
abbrev C_Sh20_firstOf (g : gm_G) (x1 : Int32) (I : mI) (L : mL) (c : gm_cfg) (Q : Int32 → mI → mL → gm_cfg → Prop) : Prop := gm_Met g yX8_firstOf cX8_firstOf 3 (some .int) 1 0 0 [.ref 20, .int x1] (SH, I, L, RR c) (qI Q)
set_option maxRecDepth 100000 in
theorem e_Sh20_firstOf {g : gm_G} {Q : Int32 → mI → mL → gm_cfg → Prop} {x1 : Int32} {I : mI} {L : mL} {c : gm_cfg} (h : Z_Sh20_firstOf g Q 2 [(0, .ref 20), (1, .int x1), (2, .int 0)] [] I L c) : C_Sh20_firstOf g x1 I L c Q := by
  refine gm_enter (lv := [(0, .ref 20), (1, .int x1)]) (by decide) rfl rfl rfl rfl ?_
  show Z_Sh20_firstOf g Q 0 [(0, .ref 20), (1, .int x1)] [] I L c
  refine gx_iconst (v := 0) dX8_firstOf_0 (by decide) ?_
  refine gx_istore_n (lv' := [(0, .ref 20), (1, .int x1), (2, .int 0)]) dX8_firstOf_1 rfl rfl rfl ?_
  exact h
set_option maxRecDepth 100000 in
theorem r_Sh20_firstOf_2 {g : gm_G} {Q : Int32 → mI → mL → gm_cfg → Prop} {x1 x2 : Int32} {I : mI} {L : mL} {c : gm_cfg} (h : (((I 20 2) ≤ x2 → Q (-1) I L c) ∧ (¬ (I 20 2) ≤ x2 → (vp_in x2 40 ∧ (((I 21 (Int32.toNatClampNeg x2)) = x1 → Q x2 I L c) ∧ (¬ (I 21 (Int32.toNatClampNeg x2)) = x1 → Z_Sh20_firstOf g Q 2 [(0, .ref 20), (1, .int x1), (2, .int (x2 + 1))] [] I L c)))))) : Z_Sh20_firstOf g Q 2 [(0, .ref 20), (1, .int x1), (2, .int x2)] [] I L c := by
  refine gx_iload_n 2 dX8_firstOf_2 rfl rfl ?_
  refine gx_aload_n 0 dX8_firstOf_3 rfl rfl ?_
  refine gx_geti 8 2 (v := (I 20 2)) dX8_firstOf_4 fl_X8_24 rfl rfl rfl ?_
  refine gx_icmp_ge 28 dX8_firstOf_7 (by decide) ⟨fun z => ?_, fun z => ?_⟩
  · replace h := h.1 z
    refine gx_iconst (v := (-1)) dX8_firstOf_28 (by decide) ?_
    exact gx_iret dX8_firstOf_29 rfl rfl rfl ⟨_, _, _, _, rfl, rfl, h⟩
  · replace h := h.2 z
    refine gx_aload_n 0 dX8_firstOf_10 rfl rfl ?_
    refine gx_getr 8 0 (v := 21) dX8_firstOf_11 fl_X8_9 rfl rfl rfl ?_
    refine gx_iload_n 2 dX8_firstOf_14 rfl rfl ?_
    obtain ⟨hi, h⟩ := h
    refine gx_iald (v := (I 21 (Int32.toNatClampNeg x2))) dX8_firstOf_15 rfl rfl hi (k := (Int32.toNatClampNeg x2)) rfl rfl ?_
    refine gx_iload_n 1 dX8_firstOf_16 rfl rfl ?_
    refine gx_icmp_ne 22 dX8_firstOf_17 (by decide) ⟨fun z => ?_, fun z => ?_⟩
    · replace h := h.1 z
      refine gx_iload_n 2 dX8_firstOf_20 rfl rfl ?_
      exact gx_iret dX8_firstOf_21 rfl rfl rfl ⟨_, _, _, _, rfl, rfl, h⟩
    · replace h := h.2 z
      refine gx_iinc (v := (x2 + 1)) (lv' := [(0, .ref 20), (1, .int x1), (2, .int (x2 + 1))]) 2 dX8_firstOf_22 rfl rfl rfl rfl ?_
      refine gx_goto 2 dX8_firstOf_25 (by decide) ?_
      exact h
abbrev Z_Sh20_nearestTo (g : gm_G) (Q : Int32 → mI → mL → gm_cfg → Prop) (pc : Nat) (lv : List (Nat × Value)) (st : List Value) (I : mI) (L : mL) (c : gm_cfg) : Prop := gm_X g RX8 "nearestTo" cX8_nearestTo 6 (some .int) 1 0 0 (qI Q) 0 0 pc lv st (SH, I, L, RR c)
abbrev C_Sh20_nearestTo (g : gm_G) (x1 : Int32) (I : mI) (L : mL) (c : gm_cfg) (Q : Int32 → mI → mL → gm_cfg → Prop) : Prop := gm_Met g yX8_nearestTo cX8_nearestTo 6 (some .int) 1 0 0 [.ref 20, .int x1] (SH, I, L, RR c) (qI Q)
set_option maxRecDepth 100000 in
theorem e_Sh20_nearestTo {g : gm_G} {Q : Int32 → mI → mL → gm_cfg → Prop} {x1 : Int32} {I : mI} {L : mL} {c : gm_cfg} (h : Z_Sh20_nearestTo g Q 7 [(0, .ref 20), (1, .int x1), (2, .int (-1)), (3, .int 0), (4, .int 0)] [] I L c) : C_Sh20_nearestTo g x1 I L c Q := by
  refine gm_enter (lv := [(0, .ref 20), (1, .int x1)]) (by decide) rfl rfl rfl rfl ?_
  show Z_Sh20_nearestTo g Q 0 [(0, .ref 20), (1, .int x1)] [] I L c
  refine gx_iconst (v := (-1)) dX8_nearestTo_0 (by decide) ?_
  refine gx_istore_n (lv' := [(0, .ref 20), (1, .int x1), (2, .int (-1))]) dX8_nearestTo_1 rfl rfl rfl ?_
  refine gx_iconst (v := 0) dX8_nearestTo_2 (by decide) ?_
  refine gx_istore_n (lv' := [(0, .ref 20), (1, .int x1), (2, .int (-1)), (3, .int 0)]) dX8_nearestTo_3 rfl rfl rfl ?_
  refine gx_iconst (v := 0) dX8_nearestTo_4 (by decide) ?_
  refine gx_istore (lv' := [(0, .ref 20), (1, .int x1), (2, .int (-1)), (3, .int 0), (4, .int 0)]) dX8_nearestTo_5 rfl rfl ?_
  exact h
set_option maxRecDepth 100000 in
theorem r_Sh20_nearestTo_7 {g : gm_G} {Q : Int32 → mI → mL → gm_cfg → Prop} {x1 x2 x3 x4 : Int32} {I : mI} {L : mL} {c : gm_cfg} (h : (((I 20 2) ≤ x4 → Q x2 I L c) ∧ (¬ (I 20 2) ≤ x4 → (vp_in x4 40 ∧ ((x2 = (-1) → Z_Sh20_nearestTo g Q 7 [(0, .ref 20), (1, .int x1), (2, .int x4), (3, .int ((if 0 ≤ ((I 21 (Int32.toNatClampNeg x4)) - x1) then ((I 21 (Int32.toNatClampNeg x4)) - x1) else 0 - ((I 21 (Int32.toNatClampNeg x4)) - x1)) : Int32)), (4, .int (x4 + 1))] [] I L c) ∧ (¬ x2 = (-1) → ((x3 ≤ ((if 0 ≤ ((I 21 (Int32.toNatClampNeg x4)) - x1) then ((I 21 (Int32.toNatClampNeg x4)) - x1) else 0 - ((I 21 (Int32.toNatClampNeg x4)) - x1)) : Int32) → Z_Sh20_nearestTo g Q 7 [(0, .ref 20), (1, .int x1), (2, .int x2), (3, .int x3), (4, .int (x4 + 1))] [] I L c) ∧ (¬ x3 ≤ ((if 0 ≤ ((I 21 (Int32.toNatClampNeg x4)) - x1) then ((I 21 (Int32.toNatClampNeg x4)) - x1) else 0 - ((I 21 (Int32.toNatClampNeg x4)) - x1)) : Int32) → Z_Sh20_nearestTo g Q 7 [(0, .ref 20), (1, .int x1), (2, .int x4), (3, .int ((if 0 ≤ ((I 21 (Int32.toNatClampNeg x4)) - x1) then ((I 21 (Int32.toNatClampNeg x4)) - x1) else 0 - ((I 21 (Int32.toNatClampNeg x4)) - x1)) : Int32)), (4, .int (x4 + 1))] [] I L c)))))))) : Z_Sh20_nearestTo g Q 7 [(0, .ref 20), (1, .int x1), (2, .int x2), (3, .int x3), (4, .int x4)] [] I L c := by
  refine gx_iload 4 dX8_nearestTo_7 rfl ?_
  refine gx_aload_n 0 dX8_nearestTo_9 rfl rfl ?_
  refine gx_geti 8 2 (v := (I 20 2)) dX8_nearestTo_10 fl_X8_24 rfl rfl rfl ?_
  refine gx_icmp_ge 53 dX8_nearestTo_13 (by decide) ⟨fun z => ?_, fun z => ?_⟩
  · replace h := h.1 z
    refine gx_iload_n 2 dX8_nearestTo_53 rfl rfl ?_
    exact gx_iret dX8_nearestTo_54 rfl rfl rfl ⟨_, _, _, _, rfl, rfl, h⟩
  · replace h := h.2 z
    refine gx_aload_n 0 dX8_nearestTo_16 rfl rfl ?_
    refine gx_getr 8 0 (v := 21) dX8_nearestTo_17 fl_X8_9 rfl rfl rfl ?_
    refine gx_iload 4 dX8_nearestTo_20 rfl ?_
    obtain ⟨hi, h⟩ := h
    refine gx_iald (v := (I 21 (Int32.toNatClampNeg x4))) dX8_nearestTo_22 rfl rfl hi (k := (Int32.toNatClampNeg x4)) rfl rfl ?_
    refine gx_iload_n 1 dX8_nearestTo_23 rfl rfl ?_
    refine gx_isub dX8_nearestTo_24 ?_
    refine gx_mabs dX8_nearestTo_25 ml_X8_32 mw_abs rfl rfl rfl rfl ?_
    refine gx_istore (lv' := [(0, .ref 20), (1, .int x1), (2, .int x2), (3, .int x3), (4, .int x4), (5, .int ((if 0 ≤ ((I 21 (Int32.toNatClampNeg x4)) - x1) then ((I 21 (Int32.toNatClampNeg x4)) - x1) else 0 - ((I 21 (Int32.toNatClampNeg x4)) - x1)) : Int32))]) dX8_nearestTo_28 rfl rfl ?_
    refine gx_iload_n 2 dX8_nearestTo_30 rfl rfl ?_
    refine gx_iconst (v := (-1)) dX8_nearestTo_31 (by decide) ?_
    refine gx_icmp_eq 41 dX8_nearestTo_32 (by decide) ⟨fun z => ?_, fun z => ?_⟩
    · replace h := h.1 z
      refine gx_iload 5 dX8_nearestTo_41 rfl ?_
      refine gx_istore_n (lv' := [(0, .ref 20), (1, .int x1), (2, .int x2), (3, .int ((if 0 ≤ ((I 21 (Int32.toNatClampNeg x4)) - x1) then ((I 21 (Int32.toNatClampNeg x4)) - x1) else 0 - ((I 21 (Int32.toNatClampNeg x4)) - x1)) : Int32)), (4, .int x4), (5, .int ((if 0 ≤ ((I 21 (Int32.toNatClampNeg x4)) - x1) then ((I 21 (Int32.toNatClampNeg x4)) - x1) else 0 - ((I 21 (Int32.toNatClampNeg x4)) - x1)) : Int32))]) dX8_nearestTo_43 rfl rfl rfl ?_
      refine gx_iload 4 dX8_nearestTo_44 rfl ?_
      refine gx_istore_n (lv' := [(0, .ref 20), (1, .int x1), (2, .int x4), (3, .int ((if 0 ≤ ((I 21 (Int32.toNatClampNeg x4)) - x1) then ((I 21 (Int32.toNatClampNeg x4)) - x1) else 0 - ((I 21 (Int32.toNatClampNeg x4)) - x1)) : Int32)), (4, .int x4), (5, .int ((if 0 ≤ ((I 21 (Int32.toNatClampNeg x4)) - x1) then ((I 21 (Int32.toNatClampNeg x4)) - x1) else 0 - ((I 21 (Int32.toNatClampNeg x4)) - x1)) : Int32))]) dX8_nearestTo_46 rfl rfl rfl ?_
      refine gx_iinc (v := (x4 + 1)) (lv' := [(0, .ref 20), (1, .int x1), (2, .int x4), (3, .int ((if 0 ≤ ((I 21 (Int32.toNatClampNeg x4)) - x1) then ((I 21 (Int32.toNatClampNeg x4)) - x1) else 0 - ((I 21 (Int32.toNatClampNeg x4)) - x1)) : Int32)), (4, .int (x4 + 1)), (5, .int ((if 0 ≤ ((I 21 (Int32.toNatClampNeg x4)) - x1) then ((I 21 (Int32.toNatClampNeg x4)) - x1) else 0 - ((I 21 (Int32.toNatClampNeg x4)) - x1)) : Int32))]) 4 dX8_nearestTo_47 rfl rfl rfl rfl ?_
      refine gx_goto 7 dX8_nearestTo_50 (by decide) ?_
      refine gx_sub [0, 1, 2, 3, 4] (lv' := [(0, .ref 20), (1, .int x1), (2, .int x4), (3, .int ((if 0 ≤ ((I 21 (Int32.toNatClampNeg x4)) - x1) then ((I 21 (Int32.toNatClampNeg x4)) - x1) else 0 - ((I 21 (Int32.toNatClampNeg x4)) - x1)) : Int32)), (4, .int (x4 + 1))]) rfl ?_
      exact h
    · replace h := h.2 z
      refine gx_iload 5 dX8_nearestTo_35 rfl ?_
      refine gx_iload_n 3 dX8_nearestTo_37 rfl rfl ?_
      refine gx_icmp_ge 47 dX8_nearestTo_38 (by decide) ⟨fun z => ?_, fun z => ?_⟩
      · replace h := h.1 z
        refine gx_iinc (v := (x4 + 1)) (lv' := [(0, .ref 20), (1, .int x1), (2, .int x2), (3, .int x3), (4, .int (x4 + 1)), (5, .int ((if 0 ≤ ((I 21 (Int32.toNatClampNeg x4)) - x1) then ((I 21 (Int32.toNatClampNeg x4)) - x1) else 0 - ((I 21 (Int32.toNatClampNeg x4)) - x1)) : Int32))]) 4 dX8_nearestTo_47 rfl rfl rfl rfl ?_
        refine gx_goto 7 dX8_nearestTo_50 (by decide) ?_
        refine gx_sub [0, 1, 2, 3, 4] (lv' := [(0, .ref 20), (1, .int x1), (2, .int x2), (3, .int x3), (4, .int (x4 + 1))]) rfl ?_
        exact h
      · replace h := h.2 z
        refine gx_iload 5 dX8_nearestTo_41 rfl ?_
        refine gx_istore_n (lv' := [(0, .ref 20), (1, .int x1), (2, .int x2), (3, .int ((if 0 ≤ ((I 21 (Int32.toNatClampNeg x4)) - x1) then ((I 21 (Int32.toNatClampNeg x4)) - x1) else 0 - ((I 21 (Int32.toNatClampNeg x4)) - x1)) : Int32)), (4, .int x4), (5, .int ((if 0 ≤ ((I 21 (Int32.toNatClampNeg x4)) - x1) then ((I 21 (Int32.toNatClampNeg x4)) - x1) else 0 - ((I 21 (Int32.toNatClampNeg x4)) - x1)) : Int32))]) dX8_nearestTo_43 rfl rfl rfl ?_
        refine gx_iload 4 dX8_nearestTo_44 rfl ?_
        refine gx_istore_n (lv' := [(0, .ref 20), (1, .int x1), (2, .int x4), (3, .int ((if 0 ≤ ((I 21 (Int32.toNatClampNeg x4)) - x1) then ((I 21 (Int32.toNatClampNeg x4)) - x1) else 0 - ((I 21 (Int32.toNatClampNeg x4)) - x1)) : Int32)), (4, .int x4), (5, .int ((if 0 ≤ ((I 21 (Int32.toNatClampNeg x4)) - x1) then ((I 21 (Int32.toNatClampNeg x4)) - x1) else 0 - ((I 21 (Int32.toNatClampNeg x4)) - x1)) : Int32))]) dX8_nearestTo_46 rfl rfl rfl ?_
        refine gx_iinc (v := (x4 + 1)) (lv' := [(0, .ref 20), (1, .int x1), (2, .int x4), (3, .int ((if 0 ≤ ((I 21 (Int32.toNatClampNeg x4)) - x1) then ((I 21 (Int32.toNatClampNeg x4)) - x1) else 0 - ((I 21 (Int32.toNatClampNeg x4)) - x1)) : Int32)), (4, .int (x4 + 1)), (5, .int ((if 0 ≤ ((I 21 (Int32.toNatClampNeg x4)) - x1) then ((I 21 (Int32.toNatClampNeg x4)) - x1) else 0 - ((I 21 (Int32.toNatClampNeg x4)) - x1)) : Int32))]) 4 dX8_nearestTo_47 rfl rfl rfl rfl ?_
        refine gx_goto 7 dX8_nearestTo_50 (by decide) ?_
        refine gx_sub [0, 1, 2, 3, 4] (lv' := [(0, .ref 20), (1, .int x1), (2, .int x4), (3, .int ((if 0 ≤ ((I 21 (Int32.toNatClampNeg x4)) - x1) then ((I 21 (Int32.toNatClampNeg x4)) - x1) else 0 - ((I 21 (Int32.toNatClampNeg x4)) - x1)) : Int32)), (4, .int (x4 + 1))]) rfl ?_
        exact h
abbrev Z_Sh20_middle (g : gm_G) (Q : Int32 → mI → mL → gm_cfg → Prop) (pc : Nat) (lv : List (Nat × Value)) (st : List Value) (I : mI) (L : mL) (c : gm_cfg) : Prop := gm_X g RX8 "middle" cX8_middle 6 (some .int) 1 0 0 (qI Q) 0 0 pc lv st (SH, I, L, RR c)
abbrev C_Sh20_middle (g : gm_G) (I : mI) (L : mL) (c : gm_cfg) (Q : Int32 → mI → mL → gm_cfg → Prop) : Prop := gm_Met g yX8_middle cX8_middle 6 (some .int) 1 0 0 [.ref 20] (SH, I, L, RR c) (qI Q)
set_option maxRecDepth 100000 in
theorem e_Sh20_middle {g : gm_G} {Q : Int32 → mI → mL → gm_cfg → Prop} {I : mI} {L : mL} {c : gm_cfg} (h : Z_Sh20_middle g Q 11 [(0, .ref 20), (1, .int (((I 20 2) - 1) / 2)), (2, .int 0)] [] I L c) : C_Sh20_middle g  I L c Q := by
  refine gm_enter (lv := [(0, .ref 20)]) (by decide) rfl rfl rfl rfl ?_
  show Z_Sh20_middle g Q 0 [(0, .ref 20)] [] I L c
  refine gx_aload_n 0 dX8_middle_0 rfl rfl ?_
  refine gx_geti 8 2 (v := (I 20 2)) dX8_middle_1 fl_X8_24 rfl rfl rfl ?_
  refine gx_iconst (v := 1) dX8_middle_4 (by decide) ?_
  refine gx_isub dX8_middle_5 ?_
  refine gx_iconst (v := 2) dX8_middle_6 (by decide) ?_
  refine gx_idiv dX8_middle_7 (by decide) ?_
  refine gx_istore_n (lv' := [(0, .ref 20), (1, .int (((I 20 2) - 1) / 2))]) dX8_middle_8 rfl rfl rfl ?_
  refine gx_iconst (v := 0) dX8_middle_9 (by decide) ?_
  refine gx_istore_n (lv' := [(0, .ref 20), (1, .int (((I 20 2) - 1) / 2)), (2, .int 0)]) dX8_middle_10 rfl rfl rfl ?_
  exact h
set_option maxRecDepth 100000 in
theorem r_Sh20_middle_11 {g : gm_G} {Q : Int32 → mI → mL → gm_cfg → Prop} {x1 x2 : Int32} {I : mI} {L : mL} {c : gm_cfg} (h : (((I 20 2) ≤ x2 → Q (-1) I L c) ∧ (¬ (I 20 2) ≤ x2 → Z_Sh20_middle g Q 27 [(0, .ref 20), (1, .int x1), (2, .int x2), (3, .int 0), (4, .int 0), (5, .int 0)] [] I L c))) : Z_Sh20_middle g Q 11 [(0, .ref 20), (1, .int x1), (2, .int x2)] [] I L c := by
  refine gx_iload_n 2 dX8_middle_11 rfl rfl ?_
  refine gx_aload_n 0 dX8_middle_12 rfl rfl ?_
  refine gx_geti 8 2 (v := (I 20 2)) dX8_middle_13 fl_X8_24 rfl rfl rfl ?_
  refine gx_icmp_ge 109 dX8_middle_16 (by decide) ⟨fun z => ?_, fun z => ?_⟩
  · replace h := h.1 z
    refine gx_iconst (v := (-1)) dX8_middle_109 (by decide) ?_
    exact gx_iret dX8_middle_110 rfl rfl rfl ⟨_, _, _, _, rfl, rfl, h⟩
  · replace h := h.2 z
    refine gx_iconst (v := 0) dX8_middle_19 (by decide) ?_
    refine gx_istore_n (lv' := [(0, .ref 20), (1, .int x1), (2, .int x2), (3, .int 0)]) dX8_middle_20 rfl rfl rfl ?_
    refine gx_iconst (v := 0) dX8_middle_21 (by decide) ?_
    refine gx_istore (lv' := [(0, .ref 20), (1, .int x1), (2, .int x2), (3, .int 0), (4, .int 0)]) dX8_middle_22 rfl rfl ?_
    refine gx_iconst (v := 0) dX8_middle_24 (by decide) ?_
    refine gx_istore (lv' := [(0, .ref 20), (1, .int x1), (2, .int x2), (3, .int 0), (4, .int 0), (5, .int 0)]) dX8_middle_25 rfl rfl ?_
    exact h
set_option maxRecDepth 100000 in
theorem r_Sh20_middle_27 {g : gm_G} {Q : Int32 → mI → mL → gm_cfg → Prop} {x1 x2 x3 x4 x5 : Int32} {I : mI} {L : mL} {c : gm_cfg} (h : (((I 20 2) ≤ x5 → ((x1 < x3 → Z_Sh20_middle g Q 11 [(0, .ref 20), (1, .int x1), (2, .int (x2 + 1))] [] I L c) ∧ (¬ x1 < x3 → (((x3 + x4) ≤ x1 → Z_Sh20_middle g Q 11 [(0, .ref 20), (1, .int x1), (2, .int (x2 + 1))] [] I L c) ∧ (¬ (x3 + x4) ≤ x1 → (vp_in x2 40 ∧ Q (I 21 (Int32.toNatClampNeg x2)) I L c)))))) ∧ (¬ (I 20 2) ≤ x5 → (vp_in x5 40 ∧ (vp_in x2 40 ∧ (((I 21 (Int32.toNatClampNeg x2)) ≤ (I 21 (Int32.toNatClampNeg x5)) → (vp_in x5 40 ∧ (vp_in x2 40 ∧ (((I 21 (Int32.toNatClampNeg x5)) = (I 21 (Int32.toNatClampNeg x2)) → Z_Sh20_middle g Q 27 [(0, .ref 20), (1, .int x1), (2, .int x2), (3, .int x3), (4, .int (x4 + 1)), (5, .int (x5 + 1))] [] I L c) ∧ (¬ (I 21 (Int32.toNatClampNeg x5)) = (I 21 (Int32.toNatClampNeg x2)) → Z_Sh20_middle g Q 27 [(0, .ref 20), (1, .int x1), (2, .int x2), (3, .int x3), (4, .int x4), (5, .int (x5 + 1))] [] I L c))))) ∧ (¬ (I 21 (Int32.toNatClampNeg x2)) ≤ (I 21 (Int32.toNatClampNeg x5)) → Z_Sh20_middle g Q 27 [(0, .ref 20), (1, .int x1), (2, .int x2), (3, .int (x3 + 1)), (4, .int x4), (5, .int (x5 + 1))] [] I L c))))))) : Z_Sh20_middle g Q 27 [(0, .ref 20), (1, .int x1), (2, .int x2), (3, .int x3), (4, .int x4), (5, .int x5)] [] I L c := by
  refine gx_iload 5 dX8_middle_27 rfl ?_
  refine gx_aload_n 0 dX8_middle_29 rfl rfl ?_
  refine gx_geti 8 2 (v := (I 20 2)) dX8_middle_30 fl_X8_24 rfl rfl rfl ?_
  refine gx_icmp_ge 83 dX8_middle_33 (by decide) ⟨fun z => ?_, fun z => ?_⟩
  · replace h := h.1 z
    refine gx_iload_n 3 dX8_middle_83 rfl rfl ?_
    refine gx_iload_n 1 dX8_middle_84 rfl rfl ?_
    refine gx_icmp_gt 103 dX8_middle_85 (by decide) ⟨fun z => ?_, fun z => ?_⟩
    · replace h := h.1 z
      refine gx_iinc (v := (x2 + 1)) (lv' := [(0, .ref 20), (1, .int x1), (2, .int (x2 + 1)), (3, .int x3), (4, .int x4), (5, .int x5)]) 2 dX8_middle_103 rfl rfl rfl rfl ?_
      refine gx_goto 11 dX8_middle_106 (by decide) ?_
      refine gx_sub [0, 1, 2] (lv' := [(0, .ref 20), (1, .int x1), (2, .int (x2 + 1))]) rfl ?_
      exact h
    · replace h := h.2 z
      refine gx_iload_n 1 dX8_middle_88 rfl rfl ?_
      refine gx_iload_n 3 dX8_middle_89 rfl rfl ?_
      refine gx_iload 4 dX8_middle_90 rfl ?_
      refine gx_iadd dX8_middle_92 ?_
      refine gx_icmp_ge 103 dX8_middle_93 (by decide) ⟨fun z => ?_, fun z => ?_⟩
      · replace h := h.1 z
        refine gx_iinc (v := (x2 + 1)) (lv' := [(0, .ref 20), (1, .int x1), (2, .int (x2 + 1)), (3, .int x3), (4, .int x4), (5, .int x5)]) 2 dX8_middle_103 rfl rfl rfl rfl ?_
        refine gx_goto 11 dX8_middle_106 (by decide) ?_
        refine gx_sub [0, 1, 2] (lv' := [(0, .ref 20), (1, .int x1), (2, .int (x2 + 1))]) rfl ?_
        exact h
      · replace h := h.2 z
        refine gx_aload_n 0 dX8_middle_96 rfl rfl ?_
        refine gx_getr 8 0 (v := 21) dX8_middle_97 fl_X8_9 rfl rfl rfl ?_
        refine gx_iload_n 2 dX8_middle_100 rfl rfl ?_
        obtain ⟨hi, h⟩ := h
        refine gx_iald (v := (I 21 (Int32.toNatClampNeg x2))) dX8_middle_101 rfl rfl hi (k := (Int32.toNatClampNeg x2)) rfl rfl ?_
        exact gx_iret dX8_middle_102 rfl rfl rfl ⟨_, _, _, _, rfl, rfl, h⟩
  · replace h := h.2 z
    refine gx_aload_n 0 dX8_middle_36 rfl rfl ?_
    refine gx_getr 8 0 (v := 21) dX8_middle_37 fl_X8_9 rfl rfl rfl ?_
    refine gx_iload 5 dX8_middle_40 rfl ?_
    obtain ⟨hi, h⟩ := h
    refine gx_iald (v := (I 21 (Int32.toNatClampNeg x5))) dX8_middle_42 rfl rfl hi (k := (Int32.toNatClampNeg x5)) rfl rfl ?_
    refine gx_aload_n 0 dX8_middle_43 rfl rfl ?_
    refine gx_getr 8 0 (v := 21) dX8_middle_44 fl_X8_9 rfl rfl rfl ?_
    refine gx_iload_n 2 dX8_middle_47 rfl rfl ?_
    obtain ⟨hi, h⟩ := h
    refine gx_iald (v := (I 21 (Int32.toNatClampNeg x2))) dX8_middle_48 rfl rfl hi (k := (Int32.toNatClampNeg x2)) rfl rfl ?_
    refine gx_icmp_ge 58 dX8_middle_49 (by decide) ⟨fun z => ?_, fun z => ?_⟩
    · replace h := h.1 z
      refine gx_aload_n 0 dX8_middle_58 rfl rfl ?_
      refine gx_getr 8 0 (v := 21) dX8_middle_59 fl_X8_9 rfl rfl rfl ?_
      refine gx_iload 5 dX8_middle_62 rfl ?_
      obtain ⟨hi, h⟩ := h
      refine gx_iald (v := (I 21 (Int32.toNatClampNeg x5))) dX8_middle_64 rfl rfl hi (k := (Int32.toNatClampNeg x5)) rfl rfl ?_
      refine gx_aload_n 0 dX8_middle_65 rfl rfl ?_
      refine gx_getr 8 0 (v := 21) dX8_middle_66 fl_X8_9 rfl rfl rfl ?_
      refine gx_iload_n 2 dX8_middle_69 rfl rfl ?_
      obtain ⟨hi, h⟩ := h
      refine gx_iald (v := (I 21 (Int32.toNatClampNeg x2))) dX8_middle_70 rfl rfl hi (k := (Int32.toNatClampNeg x2)) rfl rfl ?_
      refine gx_icmp_ne 77 dX8_middle_71 (by decide) ⟨fun z => ?_, fun z => ?_⟩
      · replace h := h.1 z
        refine gx_iinc (v := (x4 + 1)) (lv' := [(0, .ref 20), (1, .int x1), (2, .int x2), (3, .int x3), (4, .int (x4 + 1)), (5, .int x5)]) 4 dX8_middle_74 rfl rfl rfl rfl ?_
        refine gx_iinc (v := (x5 + 1)) (lv' := [(0, .ref 20), (1, .int x1), (2, .int x2), (3, .int x3), (4, .int (x4 + 1)), (5, .int (x5 + 1))]) 5 dX8_middle_77 rfl rfl rfl rfl ?_
        refine gx_goto 27 dX8_middle_80 (by decide) ?_
        exact h
      · replace h := h.2 z
        refine gx_iinc (v := (x5 + 1)) (lv' := [(0, .ref 20), (1, .int x1), (2, .int x2), (3, .int x3), (4, .int x4), (5, .int (x5 + 1))]) 5 dX8_middle_77 rfl rfl rfl rfl ?_
        refine gx_goto 27 dX8_middle_80 (by decide) ?_
        exact h
    · replace h := h.2 z
      refine gx_iinc (v := (x3 + 1)) (lv' := [(0, .ref 20), (1, .int x1), (2, .int x2), (3, .int (x3 + 1)), (4, .int x4), (5, .int x5)]) 3 dX8_middle_52 rfl rfl rfl rfl ?_
      refine gx_goto 77 dX8_middle_55 (by decide) ?_
      refine gx_iinc (v := (x5 + 1)) (lv' := [(0, .ref 20), (1, .int x1), (2, .int x2), (3, .int (x3 + 1)), (4, .int x4), (5, .int (x5 + 1))]) 5 dX8_middle_77 rfl rfl rfl rfl ?_
      refine gx_goto 27 dX8_middle_80 (by decide) ?_
      exact h
abbrev Z_Sh20_least (g : gm_G) (Q : Int32 → mI → mL → gm_cfg → Prop) (pc : Nat) (lv : List (Nat × Value)) (st : List Value) (I : mI) (L : mL) (c : gm_cfg) : Prop := gm_X g RX8 "least" cX8_least 3 (some .int) 1 0 0 (qI Q) 0 0 pc lv st (SH, I, L, RR c)
abbrev C_Sh20_least (g : gm_G) (I : mI) (L : mL) (c : gm_cfg) (Q : Int32 → mI → mL → gm_cfg → Prop) : Prop := gm_Met g yX8_least cX8_least 3 (some .int) 1 0 0 [.ref 20] (SH, I, L, RR c) (qI Q)
set_option maxRecDepth 100000 in
theorem e_Sh20_least {g : gm_G} {Q : Int32 → mI → mL → gm_cfg → Prop} {I : mI} {L : mL} {c : gm_cfg} (h : (((I 20 2) ≤ 0 → Z_Sh20_least g Q 20 [(0, .ref 20), (1, .int (-1)), (2, .int 1)] [] I L c) ∧ (¬ (I 20 2) ≤ 0 → Z_Sh20_least g Q 20 [(0, .ref 20), (1, .int (I 21 0)), (2, .int 1)] [] I L c))) : C_Sh20_least g  I L c Q := by
  refine gm_enter (lv := [(0, .ref 20)]) (by decide) rfl rfl rfl rfl ?_
  show Z_Sh20_least g Q 0 [(0, .ref 20)] [] I L c
  refine gx_aload_n 0 dX8_least_0 rfl rfl ?_
  refine gx_geti 8 2 (v := (I 20 2)) dX8_least_1 fl_X8_24 rfl rfl rfl ?_
  refine gx_if_le 16 dX8_least_4 (by decide) ⟨fun z => ?_, fun z => ?_⟩
  · replace h := h.1 z
    refine gx_iconst (v := (-1)) dX8_least_16 (by decide) ?_
    refine gx_istore_n (lv' := [(0, .ref 20), (1, .int (-1))]) dX8_least_17 rfl rfl rfl ?_
    refine gx_iconst (v := 1) dX8_least_18 (by decide) ?_
    refine gx_istore_n (lv' := [(0, .ref 20), (1, .int (-1)), (2, .int 1)]) dX8_least_19 rfl rfl rfl ?_
    exact h
  · replace h := h.2 z
    refine gx_aload_n 0 dX8_least_7 rfl rfl ?_
    refine gx_getr 8 0 (v := 21) dX8_least_8 fl_X8_9 rfl rfl rfl ?_
    refine gx_iconst (v := 0) dX8_least_11 (by decide) ?_
    refine gx_iald (v := (I 21 0)) dX8_least_12 rfl rfl (gm_vin rfl) (k := 0) rfl rfl ?_
    refine gx_goto 17 dX8_least_13 (by decide) ?_
    refine gx_istore_n (lv' := [(0, .ref 20), (1, .int (I 21 0))]) dX8_least_17 rfl rfl rfl ?_
    refine gx_iconst (v := 1) dX8_least_18 (by decide) ?_
    refine gx_istore_n (lv' := [(0, .ref 20), (1, .int (I 21 0)), (2, .int 1)]) dX8_least_19 rfl rfl rfl ?_
    exact h
set_option maxRecDepth 100000 in
theorem r_Sh20_least_20 {g : gm_G} {Q : Int32 → mI → mL → gm_cfg → Prop} {x1 x2 : Int32} {I : mI} {L : mL} {c : gm_cfg} (h : (((I 20 2) ≤ x2 → Q x1 I L c) ∧ (¬ (I 20 2) ≤ x2 → (vp_in x2 40 ∧ Z_Sh20_least g Q 20 [(0, .ref 20), (1, .int ((if (I 21 (Int32.toNatClampNeg x2)) < x1 then (I 21 (Int32.toNatClampNeg x2)) else x1) : Int32)), (2, .int (x2 + 1))] [] I L c)))) : Z_Sh20_least g Q 20 [(0, .ref 20), (1, .int x1), (2, .int x2)] [] I L c := by
  refine gx_iload_n 2 dX8_least_20 rfl rfl ?_
  refine gx_aload_n 0 dX8_least_21 rfl rfl ?_
  refine gx_geti 8 2 (v := (I 20 2)) dX8_least_22 fl_X8_24 rfl rfl rfl ?_
  refine gx_icmp_ge 45 dX8_least_25 (by decide) ⟨fun z => ?_, fun z => ?_⟩
  · replace h := h.1 z
    refine gx_iload_n 1 dX8_least_45 rfl rfl ?_
    exact gx_iret dX8_least_46 rfl rfl rfl ⟨_, _, _, _, rfl, rfl, h⟩
  · replace h := h.2 z
    refine gx_iload_n 1 dX8_least_28 rfl rfl ?_
    refine gx_aload_n 0 dX8_least_29 rfl rfl ?_
    refine gx_getr 8 0 (v := 21) dX8_least_30 fl_X8_9 rfl rfl rfl ?_
    refine gx_iload_n 2 dX8_least_33 rfl rfl ?_
    obtain ⟨hi, h⟩ := h
    refine gx_iald (v := (I 21 (Int32.toNatClampNeg x2))) dX8_least_34 rfl rfl hi (k := (Int32.toNatClampNeg x2)) rfl rfl ?_
    refine gx_mmin dX8_least_35 ml_X8_37 mw_min rfl rfl rfl rfl ?_
    refine gx_istore_n (lv' := [(0, .ref 20), (1, .int ((if (I 21 (Int32.toNatClampNeg x2)) < x1 then (I 21 (Int32.toNatClampNeg x2)) else x1) : Int32)), (2, .int x2)]) dX8_least_38 rfl rfl rfl ?_
    refine gx_iinc (v := (x2 + 1)) (lv' := [(0, .ref 20), (1, .int ((if (I 21 (Int32.toNatClampNeg x2)) < x1 then (I 21 (Int32.toNatClampNeg x2)) else x1) : Int32)), (2, .int (x2 + 1))]) 2 dX8_least_39 rfl rfl rfl rfl ?_
    refine gx_goto 20 dX8_least_42 (by decide) ?_
    exact h
abbrev Z_Sh20_greatest (g : gm_G) (Q : Int32 → mI → mL → gm_cfg → Prop) (pc : Nat) (lv : List (Nat × Value)) (st : List Value) (I : mI) (L : mL) (c : gm_cfg) : Prop := gm_X g RX8 "greatest" cX8_greatest 3 (some .int) 1 0 0 (qI Q) 0 0 pc lv st (SH, I, L, RR c)
abbrev C_Sh20_greatest (g : gm_G) (I : mI) (L : mL) (c : gm_cfg) (Q : Int32 → mI → mL → gm_cfg → Prop) : Prop := gm_Met g yX8_greatest cX8_greatest 3 (some .int) 1 0 0 [.ref 20] (SH, I, L, RR c) (qI Q)
set_option maxRecDepth 100000 in
theorem e_Sh20_greatest {g : gm_G} {Q : Int32 → mI → mL → gm_cfg → Prop} {I : mI} {L : mL} {c : gm_cfg} (h : Z_Sh20_greatest g Q 4 [(0, .ref 20), (1, .int (-1)), (2, .int 0)] [] I L c) : C_Sh20_greatest g  I L c Q := by
  refine gm_enter (lv := [(0, .ref 20)]) (by decide) rfl rfl rfl rfl ?_
  show Z_Sh20_greatest g Q 0 [(0, .ref 20)] [] I L c
  refine gx_iconst (v := (-1)) dX8_greatest_0 (by decide) ?_
  refine gx_istore_n (lv' := [(0, .ref 20), (1, .int (-1))]) dX8_greatest_1 rfl rfl rfl ?_
  refine gx_iconst (v := 0) dX8_greatest_2 (by decide) ?_
  refine gx_istore_n (lv' := [(0, .ref 20), (1, .int (-1)), (2, .int 0)]) dX8_greatest_3 rfl rfl rfl ?_
  exact h
set_option maxRecDepth 100000 in
theorem r_Sh20_greatest_4 {g : gm_G} {Q : Int32 → mI → mL → gm_cfg → Prop} {x1 x2 : Int32} {I : mI} {L : mL} {c : gm_cfg} (h : (((I 20 2) ≤ x2 → Q x1 I L c) ∧ (¬ (I 20 2) ≤ x2 → (vp_in x2 40 ∧ Z_Sh20_greatest g Q 4 [(0, .ref 20), (1, .int ((if x1 < (I 21 (Int32.toNatClampNeg x2)) then (I 21 (Int32.toNatClampNeg x2)) else x1) : Int32)), (2, .int (x2 + 1))] [] I L c)))) : Z_Sh20_greatest g Q 4 [(0, .ref 20), (1, .int x1), (2, .int x2)] [] I L c := by
  refine gx_iload_n 2 dX8_greatest_4 rfl rfl ?_
  refine gx_aload_n 0 dX8_greatest_5 rfl rfl ?_
  refine gx_geti 8 2 (v := (I 20 2)) dX8_greatest_6 fl_X8_24 rfl rfl rfl ?_
  refine gx_icmp_ge 29 dX8_greatest_9 (by decide) ⟨fun z => ?_, fun z => ?_⟩
  · replace h := h.1 z
    refine gx_iload_n 1 dX8_greatest_29 rfl rfl ?_
    exact gx_iret dX8_greatest_30 rfl rfl rfl ⟨_, _, _, _, rfl, rfl, h⟩
  · replace h := h.2 z
    refine gx_iload_n 1 dX8_greatest_12 rfl rfl ?_
    refine gx_aload_n 0 dX8_greatest_13 rfl rfl ?_
    refine gx_getr 8 0 (v := 21) dX8_greatest_14 fl_X8_9 rfl rfl rfl ?_
    refine gx_iload_n 2 dX8_greatest_17 rfl rfl ?_
    obtain ⟨hi, h⟩ := h
    refine gx_iald (v := (I 21 (Int32.toNatClampNeg x2))) dX8_greatest_18 rfl rfl hi (k := (Int32.toNatClampNeg x2)) rfl rfl ?_
    refine gx_mmax dX8_greatest_19 ml_X8_41 mw_max rfl rfl rfl rfl ?_
    refine gx_istore_n (lv' := [(0, .ref 20), (1, .int ((if x1 < (I 21 (Int32.toNatClampNeg x2)) then (I 21 (Int32.toNatClampNeg x2)) else x1) : Int32)), (2, .int x2)]) dX8_greatest_22 rfl rfl rfl ?_
    refine gx_iinc (v := (x2 + 1)) (lv' := [(0, .ref 20), (1, .int ((if x1 < (I 21 (Int32.toNatClampNeg x2)) then (I 21 (Int32.toNatClampNeg x2)) else x1) : Int32)), (2, .int (x2 + 1))]) 2 dX8_greatest_23 rfl rfl rfl rfl ?_
    refine gx_goto 4 dX8_greatest_26 (by decide) ?_
    exact h
abbrev Z_Sh20_unlike (g : gm_G) (Q : Int32 → mI → mL → gm_cfg → Prop) (pc : Nat) (lv : List (Nat × Value)) (st : List Value) (I : mI) (L : mL) (c : gm_cfg) : Prop := gm_X g RX8 "unlike" cX8_unlike 3 (some .int) 2 0 0 (qI Q) 0 0 pc lv st (SH, I, L, RR c)
abbrev C_Sh20_unlike (g : gm_G) (I : mI) (L : mL) (c : gm_cfg) (Q : Int32 → mI → mL → gm_cfg → Prop) : Prop := gm_Met g yX8_unlike cX8_unlike 3 (some .int) 2 0 0 [.ref 20] (SH, I, L, RR c) (qI Q)
set_option maxRecDepth 100000 in
theorem e_Sh20_unlike {g : gm_G} {Q : Int32 → mI → mL → gm_cfg → Prop} {I : mI} {L : mL} {c : gm_cfg} (h : Z_Sh20_unlike g Q 4 [(0, .ref 20), (1, .int 0), (2, .int 0)] [] I L c) : C_Sh20_unlike g  I L c Q := by
  refine gm_enter (lv := [(0, .ref 20)]) (by decide) rfl rfl rfl rfl ?_
  show Z_Sh20_unlike g Q 0 [(0, .ref 20)] [] I L c
  refine gx_iconst (v := 0) dX8_unlike_0 (by decide) ?_
  refine gx_istore_n (lv' := [(0, .ref 20), (1, .int 0)]) dX8_unlike_1 rfl rfl rfl ?_
  refine gx_iconst (v := 0) dX8_unlike_2 (by decide) ?_
  refine gx_istore_n (lv' := [(0, .ref 20), (1, .int 0), (2, .int 0)]) dX8_unlike_3 rfl rfl rfl ?_
  exact h
set_option maxRecDepth 100000 in
theorem r_Sh20_unlike_4 {g : gm_G} {Q : Int32 → mI → mL → gm_cfg → Prop} {x1 x2 : Int32} {I : mI} {L : mL} {c : gm_cfg} (h : (((I 20 2) ≤ x2 → Q x1 I L c) ∧ (¬ (I 20 2) ≤ x2 → (vp_in x2 40 ∧ (C_Sh20_firstOf g (I 21 (Int32.toNatClampNeg x2)) I L c (fun r4 I1 L2 c3 => ((r4 = x2 → Z_Sh20_unlike g Q 4 [(0, .ref 20), (1, .int (x1 + 1)), (2, .int (x2 + 1))] [] I1 L2 c3) ∧ (¬ r4 = x2 → Z_Sh20_unlike g Q 4 [(0, .ref 20), (1, .int x1), (2, .int (x2 + 1))] [] I1 L2 c3)))))))) : Z_Sh20_unlike g Q 4 [(0, .ref 20), (1, .int x1), (2, .int x2)] [] I L c := by
  refine gx_iload_n 2 dX8_unlike_4 rfl rfl ?_
  refine gx_aload_n 0 dX8_unlike_5 rfl rfl ?_
  refine gx_geti 8 2 (v := (I 20 2)) dX8_unlike_6 fl_X8_24 rfl rfl rfl ?_
  refine gx_icmp_ge 35 dX8_unlike_9 (by decide) ⟨fun z => ?_, fun z => ?_⟩
  · replace h := h.1 z
    refine gx_iload_n 1 dX8_unlike_35 rfl rfl ?_
    exact gx_iret dX8_unlike_36 rfl rfl rfl ⟨_, _, _, _, rfl, rfl, h⟩
  · replace h := h.2 z
    refine gx_aload_n 0 dX8_unlike_12 rfl rfl ?_
    refine gx_aload_n 0 dX8_unlike_13 rfl rfl ?_
    refine gx_getr 8 0 (v := 21) dX8_unlike_14 fl_X8_9 rfl rfl rfl ?_
    refine gx_iload_n 2 dX8_unlike_17 rfl rfl ?_
    obtain ⟨hi, h⟩ := h
    refine gx_iald (v := (I 21 (Int32.toNatClampNeg x2))) dX8_unlike_18 rfl rfl hi (k := (Int32.toNatClampNeg x2)) rfl rfl ?_
    refine gx_callV 8 (As := [.int (I 21 (Int32.toNatClampNeg x2))]) (st := []) dX8_unlike_19 ml_X8_44 mm_X8_firstOf rfl rfl rfl rfl rfl rfl ⟨rfl, rfl⟩ h (fun v h2 hq => ?_)
    obtain ⟨r4, I1, L2, c3, rfl, rfl, h⟩ := hq
    show Z_Sh20_unlike g Q 22 [(0, .ref 20), (1, .int x1), (2, .int x2)] [.int r4] I1 L2 c3
    refine gx_iload_n 2 dX8_unlike_22 rfl rfl ?_
    refine gx_icmp_ne 29 dX8_unlike_23 (by decide) ⟨fun z => ?_, fun z => ?_⟩
    · replace h := h.1 z
      refine gx_iinc (v := (x1 + 1)) (lv' := [(0, .ref 20), (1, .int (x1 + 1)), (2, .int x2)]) 1 dX8_unlike_26 rfl rfl rfl rfl ?_
      refine gx_iinc (v := (x2 + 1)) (lv' := [(0, .ref 20), (1, .int (x1 + 1)), (2, .int (x2 + 1))]) 2 dX8_unlike_29 rfl rfl rfl rfl ?_
      refine gx_goto 4 dX8_unlike_32 (by decide) ?_
      exact h
    · replace h := h.2 z
      refine gx_iinc (v := (x2 + 1)) (lv' := [(0, .ref 20), (1, .int x1), (2, .int (x2 + 1))]) 2 dX8_unlike_29 rfl rfl rfl rfl ?_
      refine gx_goto 4 dX8_unlike_32 (by decide) ?_
      exact h
