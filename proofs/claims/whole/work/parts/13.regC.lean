abbrev Z_J_tapeInt (g : gm_G) (Q : mI → mL → gm_cfg → Prop) (pc : Nat) (lv : List (Nat × Value)) (st : List Value) (I : mI) (L : mL) (c : gm_cfg) : Prop := gm_X g RX10 "tapeInt" cX10_tapeInt 3 none 1 0 0 (qV Q) 0 0 pc lv st (SH, I, L, RR c)
abbrev C_J_tapeInt (g : gm_G) (x1 : Int32) (I : mI) (L : mL) (c : gm_cfg) (Q : mI → mL → gm_cfg → Prop) : Prop := gm_Met g yX10_tapeInt cX10_tapeInt 3 none 1 0 0 [.ref 0, .int x1] (SH, I, L, RR c) (qV Q)
set_option maxRecDepth 100000 in
theorem e_J_tapeInt {g : gm_G} {Q : mI → mL → gm_cfg → Prop} {x1 : Int32} {I : mI} {L : mL} {c : gm_cfg} (h : Z_J_tapeInt g Q 3 [(0, .ref 0), (1, .int x1), (2, .int 24)] [] I L c) : C_J_tapeInt g x1 I L c Q := by
  refine gm_enter (lv := [(0, .ref 0), (1, .int x1)]) (by decide) rfl rfl rfl rfl ?_
  show Z_J_tapeInt g Q 0 [(0, .ref 0), (1, .int x1)] [] I L c
  refine gx_bipush (v := 24) dX10_tapeInt_0 (by decide) ?_
  refine gx_istore_n (lv' := [(0, .ref 0), (1, .int x1), (2, .int 24)]) dX10_tapeInt_2 rfl rfl rfl ?_
  exact h
set_option maxRecDepth 100000 in
theorem r_J_tapeInt_3 {g : gm_G} {Q : mI → mL → gm_cfg → Prop} {x1 x2 : Int32} {I : mI} {L : mL} {c : gm_cfg} (h : ((x2 < 0 → Q I L c) ∧ (¬ x2 < 0 → ((700 ≤ (I 0 1) → Q I L c) ∧ (¬ 700 ≤ (I 0 1) → (vp_in (I 0 1) 700 ∧ Z_J_tapeInt g Q 3 [(0, .ref 0), (1, .int x1), (2, .int (x2 + (-8)))] [] (gm_u (gm_u I 1 (Int32.toNatClampNeg (I 0 1)) (vp_nar .byte (Int8.toInt32 (Int32.toInt8 ((x1.toUInt32 >>> ((x2 : Int32).toUInt32 &&& Int32.toUInt32 31)).toInt32))))) 0 1 ((I 0 1) + 1)) L c)))))) : Z_J_tapeInt g Q 3 [(0, .ref 0), (1, .int x1), (2, .int x2)] [] I L c := by
  refine gx_iload_n 2 dX10_tapeInt_3 rfl rfl ?_
  refine gx_if_lt 46 dX10_tapeInt_4 (by decide) ⟨fun z => ?_, fun z => ?_⟩
  · replace h := h.1 z
    exact gx_vret dX10_tapeInt_46 rfl rfl rfl ⟨_, _, _, rfl, rfl, h⟩
  · replace h := h.2 z
    refine gx_aload_n 0 dX10_tapeInt_7 rfl rfl ?_
    refine gx_geti 10 1 (v := (I 0 1)) dX10_tapeInt_8 fl_X10_86 rfl rfl rfl ?_
    refine gx_sipush (v := 700) dX10_tapeInt_11 (by decide) ?_
    refine gx_icmp_ge 46 dX10_tapeInt_14 (by decide) ⟨fun z => ?_, fun z => ?_⟩
    · replace h := h.1 z
      exact gx_vret dX10_tapeInt_46 rfl rfl rfl ⟨_, _, _, rfl, rfl, h⟩
    · replace h := h.2 z
      refine gx_aload_n 0 dX10_tapeInt_17 rfl rfl ?_
      refine gx_getr 10 0 (v := 1) dX10_tapeInt_18 fl_X10_9 rfl rfl rfl ?_
      refine gx_aload_n 0 dX10_tapeInt_21 rfl rfl ?_
      refine gx_geti 10 1 (v := (I 0 1)) dX10_tapeInt_22 fl_X10_86 rfl rfl rfl ?_
      refine gx_iload_n 1 dX10_tapeInt_25 rfl rfl ?_
      refine gx_iload_n 2 dX10_tapeInt_26 rfl rfl ?_
      refine gx_iushr dX10_tapeInt_27 ?_
      refine gx_i2b dX10_tapeInt_28 ?_
      obtain ⟨hi, h⟩ := h
      refine gx_bast dX10_tapeInt_29 rfl rfl hi (k := (Int32.toNatClampNeg (I 0 1))) rfl ?_
      show Z_J_tapeInt g Q 30 [(0, .ref 0), (1, .int x1), (2, .int x2)] [] (gm_u I 1 (Int32.toNatClampNeg (I 0 1)) (vp_nar .byte (Int8.toInt32 (Int32.toInt8 ((x1.toUInt32 >>> ((x2 : Int32).toUInt32 &&& Int32.toUInt32 31)).toInt32))))) L c
      refine gx_aload_n 0 dX10_tapeInt_30 rfl rfl ?_
      refine gx_dup dX10_tapeInt_31 rfl ?_
      refine gx_geti 10 1 (v := (I 0 1)) dX10_tapeInt_32 fl_X10_86 rfl rfl rfl ?_
      refine gx_iconst (v := 1) dX10_tapeInt_35 (by decide) ?_
      refine gx_iadd dX10_tapeInt_36 ?_
      refine gx_puti 10 1 dX10_tapeInt_37 fl_X10_86 rfl rfl rfl ⟨rfl, rfl⟩ ?_
      show Z_J_tapeInt g Q 40 [(0, .ref 0), (1, .int x1), (2, .int x2)] [] (gm_u (gm_u I 1 (Int32.toNatClampNeg (I 0 1)) (vp_nar .byte (Int8.toInt32 (Int32.toInt8 ((x1.toUInt32 >>> ((x2 : Int32).toUInt32 &&& Int32.toUInt32 31)).toInt32))))) 0 1 ((I 0 1) + 1)) L c
      refine gx_iinc (v := (x2 + (-8))) (lv' := [(0, .ref 0), (1, .int x1), (2, .int (x2 + (-8)))]) 2 dX10_tapeInt_40 rfl rfl rfl rfl ?_
      refine gx_goto 3 dX10_tapeInt_43 (by decide) ?_
      exact h
abbrev Z_J_feed (g : gm_G) (Q : Int32 → mI → mL → gm_cfg → Prop) (pc : Nat) (lv : List (Nat × Value)) (st : List Value) (I : mI) (L : mL) (c : gm_cfg) : Prop := gm_X g RX10 "feed" cX10_feed 6 (some .int) 2 0 0 (qI Q) 0 0 pc lv st (SH, I, L, RR c)
abbrev C_J_feed (g : gm_G) (x1 : Int32) (x2 : Int32) (x3 : Int32) (x4 : Int32) (x5 : Int32) (I : mI) (L : mL) (c : gm_cfg) (Q : Int32 → mI → mL → gm_cfg → Prop) : Prop := gm_Met g yX10_feed cX10_feed 6 (some .int) 2 0 0 [.ref 0, .int x1, .int x2, .int x3, .int x4, .int x5] (SH, I, L, RR c) (qI Q)
set_option maxRecDepth 100000 in
theorem e_J_feed {g : gm_G} {Q : Int32 → mI → mL → gm_cfg → Prop} {x1 x2 x3 x4 x5 : Int32} {I : mI} {L : mL} {c : gm_cfg} (h : ((((I 0 1) + 20) ≤ 700 → (C_J_tapeInt g x1 I L c (fun I1 L2 c3 => (C_J_tapeInt g x2 I1 L2 c3 (fun I4 L5 c6 => (C_J_tapeInt g x3 I4 L5 c6 (fun I7 L8 c9 => (C_J_tapeInt g x4 I7 L8 c9 (fun I10 L11 c12 => (C_J_tapeInt g x5 I10 L11 c12 (fun I13 L14 c15 => Q (I13 0 1) I13 L14 c15))))))))))) ∧ (¬ ((I 0 1) + 20) ≤ 700 → Q (-5) I L c))) : C_J_feed g x1 x2 x3 x4 x5 I L c Q := by
  refine gm_enter (lv := [(0, .ref 0), (1, .int x1), (2, .int x2), (3, .int x3), (4, .int x4), (5, .int x5)]) (by decide) rfl rfl rfl rfl ?_
  show Z_J_feed g Q 0 [(0, .ref 0), (1, .int x1), (2, .int x2), (3, .int x3), (4, .int x4), (5, .int x5)] [] I L c
  refine gx_aload_n 0 dX10_feed_0 rfl rfl ?_
  refine gx_geti 10 1 (v := (I 0 1)) dX10_feed_1 fl_X10_86 rfl rfl rfl ?_
  refine gx_bipush (v := 20) dX10_feed_4 (by decide) ?_
  refine gx_iadd dX10_feed_6 ?_
  refine gx_sipush (v := 700) dX10_feed_7 (by decide) ?_
  refine gx_icmp_le 16 dX10_feed_10 (by decide) ⟨fun z => ?_, fun z => ?_⟩
  · replace h := h.1 z
    refine gx_aload_n 0 dX10_feed_16 rfl rfl ?_
    refine gx_iload_n 1 dX10_feed_17 rfl rfl ?_
    refine gx_callV 10 (As := [.int x1]) (st := []) dX10_feed_18 ml_X10_90 mm_X10_tapeInt rfl rfl rfl rfl rfl rfl ⟨rfl, rfl⟩ h (fun v h2 hq => ?_)
    clear h
    obtain ⟨I1, L2, c3, rfl, rfl, h⟩ := hq
    show Z_J_feed g Q 21 [(0, .ref 0), (1, .int x1), (2, .int x2), (3, .int x3), (4, .int x4), (5, .int x5)] [] I1 L2 c3
    refine gx_aload_n 0 dX10_feed_21 rfl rfl ?_
    refine gx_iload_n 2 dX10_feed_22 rfl rfl ?_
    refine gx_callV 10 (As := [.int x2]) (st := []) dX10_feed_23 ml_X10_90 mm_X10_tapeInt rfl rfl rfl rfl rfl rfl ⟨rfl, rfl⟩ h (fun v h2 hq => ?_)
    clear h
    obtain ⟨I4, L5, c6, rfl, rfl, h⟩ := hq
    show Z_J_feed g Q 26 [(0, .ref 0), (1, .int x1), (2, .int x2), (3, .int x3), (4, .int x4), (5, .int x5)] [] I4 L5 c6
    refine gx_aload_n 0 dX10_feed_26 rfl rfl ?_
    refine gx_iload_n 3 dX10_feed_27 rfl rfl ?_
    refine gx_callV 10 (As := [.int x3]) (st := []) dX10_feed_28 ml_X10_90 mm_X10_tapeInt rfl rfl rfl rfl rfl rfl ⟨rfl, rfl⟩ h (fun v h2 hq => ?_)
    clear h
    obtain ⟨I7, L8, c9, rfl, rfl, h⟩ := hq
    show Z_J_feed g Q 31 [(0, .ref 0), (1, .int x1), (2, .int x2), (3, .int x3), (4, .int x4), (5, .int x5)] [] I7 L8 c9
    refine gx_aload_n 0 dX10_feed_31 rfl rfl ?_
    refine gx_iload 4 dX10_feed_32 rfl ?_
    refine gx_callV 10 (As := [.int x4]) (st := []) dX10_feed_34 ml_X10_90 mm_X10_tapeInt rfl rfl rfl rfl rfl rfl ⟨rfl, rfl⟩ h (fun v h2 hq => ?_)
    clear h
    obtain ⟨I10, L11, c12, rfl, rfl, h⟩ := hq
    show Z_J_feed g Q 37 [(0, .ref 0), (1, .int x1), (2, .int x2), (3, .int x3), (4, .int x4), (5, .int x5)] [] I10 L11 c12
    refine gx_aload_n 0 dX10_feed_37 rfl rfl ?_
    refine gx_iload 5 dX10_feed_38 rfl ?_
    refine gx_callV 10 (As := [.int x5]) (st := []) dX10_feed_40 ml_X10_90 mm_X10_tapeInt rfl rfl rfl rfl rfl rfl ⟨rfl, rfl⟩ h (fun v h2 hq => ?_)
    clear h
    obtain ⟨I13, L14, c15, rfl, rfl, h⟩ := hq
    show Z_J_feed g Q 43 [(0, .ref 0), (1, .int x1), (2, .int x2), (3, .int x3), (4, .int x4), (5, .int x5)] [] I13 L14 c15
    refine gx_aload_n 0 dX10_feed_43 rfl rfl ?_
    refine gx_geti 10 1 (v := (I13 0 1)) dX10_feed_44 fl_X10_86 rfl rfl rfl ?_
    exact gx_iret dX10_feed_47 rfl rfl rfl ⟨_, _, _, _, rfl, rfl, h⟩
  · replace h := h.2 z
    refine gx_bipush (v := (-5)) dX10_feed_13 (by decide) ?_
    exact gx_iret dX10_feed_15 rfl rfl rfl ⟨_, _, _, _, rfl, rfl, h⟩
abbrev Z_J_fete (g : gm_G) (Q : Int32 → mI → mL → gm_cfg → Prop) (pc : Nat) (lv : List (Nat × Value)) (st : List Value) (I : mI) (L : mL) (c : gm_cfg) : Prop := gm_X g RX10 "fete" cX10_fete 2 (some .int) 10 0 0 (qI Q) 0 0 pc lv st (SH, I, L, RR c)
abbrev C_J_fete (g : gm_G) (x1 : Int32) (I : mI) (L : mL) (c : gm_cfg) (Q : Int32 → mI → mL → gm_cfg → Prop) : Prop := gm_Met g yX10_fete cX10_fete 2 (some .int) 10 0 0 [.ref 0, .int x1] (SH, I, L, RR c) (qI Q)
set_option maxRecDepth 100000 in
theorem e_J_fete {g : gm_G} {Q : Int32 → mI → mL → gm_cfg → Prop} {x1 : Int32} {I : mI} {L : mL} {w a t : Option Nat} (h : ((x1 < 0 → Q (-3) I L (w, a, t)) ∧ (¬ x1 < 0 → ((x1 ≤ (I 0 1) → (C_Rd_readText_1_2 g x1 (gm_u I 0 1 0) L (w, a, t) (fun I1 L2 c3 => c3 = (w, a, (some 1)) ∧ (((I1 6 0) = 0 → (C_Fe16_takeFrom_2 g I1 L2 (w, a, (some 1)) (fun I4 L5 c6 => c6 = (w, a, (some 1)) ∧ (C_Sh20_cutTo g 0 I4 L5 (w, a, (some 1)) (fun I7 L8 c9 => c9 = (w, a, (some 1)) ∧ Q (I7 16 13) I7 L8 (w, a, (some 1))))))) ∧ (¬ (I1 6 0) = 0 → Q ((-30) - (I1 6 0)) I1 L2 (w, a, (some 1))))))) ∧ (¬ x1 ≤ (I 0 1) → Q (-3) I L (w, a, t)))))) : C_J_fete g x1 I L (w, a, t) Q := by
  refine gm_enter (lv := [(0, .ref 0), (1, .int x1)]) (by decide) rfl rfl rfl rfl ?_
  show Z_J_fete g Q 0 [(0, .ref 0), (1, .int x1)] [] I L (w, a, t)
  refine gx_iload_n 1 dX10_fete_0 rfl rfl ?_
  refine gx_if_lt 12 dX10_fete_1 (by decide) ⟨fun z => ?_, fun z => ?_⟩
  · replace h := h.1 z
    refine gx_bipush (v := (-3)) dX10_fete_12 (by decide) ?_
    exact gx_iret dX10_fete_14 rfl rfl rfl ⟨_, _, _, _, rfl, rfl, h⟩
  · replace h := h.2 z
    refine gx_iload_n 1 dX10_fete_4 rfl rfl ?_
    refine gx_aload_n 0 dX10_fete_5 rfl rfl ?_
    refine gx_geti 10 1 (v := (I 0 1)) dX10_fete_6 fl_X10_86 rfl rfl rfl ?_
    refine gx_icmp_le 15 dX10_fete_9 (by decide) ⟨fun z => ?_, fun z => ?_⟩
    · replace h := h.1 z
      refine gx_aload_n 0 dX10_fete_15 rfl rfl ?_
      refine gx_iconst (v := 0) dX10_fete_16 (by decide) ?_
      refine gx_puti 10 1 dX10_fete_17 fl_X10_86 rfl rfl rfl ⟨rfl, rfl⟩ ?_
      show Z_J_fete g Q 20 [(0, .ref 0), (1, .int x1)] [] (gm_u I 0 1 0) L (w, a, t)
      refine gx_aload_n 0 dX10_fete_20 rfl rfl ?_
      refine gx_getr 10 4 (v := 6) dX10_fete_21 fl_X10_23 rfl rfl rfl ?_
      refine gx_aload_n 0 dX10_fete_24 rfl rfl ?_
      refine gx_getr 10 0 (v := 1) dX10_fete_25 fl_X10_9 rfl rfl rfl ?_
      refine gx_iload_n 1 dX10_fete_28 rfl rfl ?_
      refine gx_aload_n 0 dX10_fete_29 rfl rfl ?_
      refine gx_getr 10 3 (v := 2) dX10_fete_30 fl_X10_16 rfl rfl rfl ?_
      refine gx_callV 5 (As := [.ref 1, .int x1, .ref 2]) (st := []) dX10_fete_33 ml_X10_94 mm_X5_readText rfl rfl rfl rfl rfl rfl ⟨rfl, rfl⟩ h (fun v h2 hq => ?_)
      clear h
      obtain ⟨I1, L2, c3, rfl, rfl, h⟩ := hq
      obtain ⟨rfl, h⟩ := h
      show Z_J_fete g Q 36 [(0, .ref 0), (1, .int x1)] [] I1 L2 (w, a, (some 1))
      refine gx_aload_n 0 dX10_fete_36 rfl rfl ?_
      refine gx_getr 10 4 (v := 6) dX10_fete_37 fl_X10_23 rfl rfl rfl ?_
      refine gx_geti 5 0 (v := (I1 6 0)) dX10_fete_40 fl_X10_98 rfl rfl rfl ?_
      refine gx_if_eq 57 dX10_fete_43 (by decide) ⟨fun z => ?_, fun z => ?_⟩
      · replace h := h.1 z
        refine gx_aload_n 0 dX10_fete_57 rfl rfl ?_
        refine gx_getr 10 2 (v := 16) dX10_fete_58 fl_X10_65 rfl rfl rfl ?_
        refine gx_aload_n 0 dX10_fete_61 rfl rfl ?_
        refine gx_getr 10 3 (v := 2) dX10_fete_62 fl_X10_16 rfl rfl rfl ?_
        refine gx_callV 1 (As := [.ref 2]) (st := []) dX10_fete_65 ml_X10_101 mm_X1_takeFrom rfl rfl rfl rfl rfl rfl ⟨rfl, rfl⟩ h (fun v h2 hq => ?_)
        clear h
        obtain ⟨I4, L5, c6, rfl, rfl, h⟩ := hq
        obtain ⟨rfl, h⟩ := h
        show Z_J_fete g Q 68 [(0, .ref 0), (1, .int x1)] [] I4 L5 (w, a, (some 1))
        refine gx_aload_n 0 dX10_fete_68 rfl rfl ?_
        refine gx_getr 10 5 (v := 20) dX10_fete_69 fl_X10_68 rfl rfl rfl ?_
        refine gx_iconst (v := 0) dX10_fete_72 (by decide) ?_
        refine gx_callV 8 (As := [.int 0]) (st := []) dX10_fete_73 ml_X10_105 mm_X8_cutTo rfl rfl rfl rfl rfl rfl ⟨rfl, rfl⟩ h (fun v h2 hq => ?_)
        clear h
        obtain ⟨I7, L8, c9, rfl, rfl, h⟩ := hq
        obtain ⟨rfl, h⟩ := h
        show Z_J_fete g Q 76 [(0, .ref 0), (1, .int x1)] [] I7 L8 (w, a, (some 1))
        refine gx_aload_n 0 dX10_fete_76 rfl rfl ?_
        refine gx_getr 10 2 (v := 16) dX10_fete_77 fl_X10_65 rfl rfl rfl ?_
        refine gx_geti 1 13 (v := (I7 16 13)) dX10_fete_80 fl_X10_108 rfl rfl rfl ?_
        exact gx_iret dX10_fete_83 rfl rfl rfl ⟨_, _, _, _, rfl, rfl, h⟩
      · replace h := h.2 z
        refine gx_bipush (v := (-30)) dX10_fete_46 (by decide) ?_
        refine gx_aload_n 0 dX10_fete_48 rfl rfl ?_
        refine gx_getr 10 4 (v := 6) dX10_fete_49 fl_X10_23 rfl rfl rfl ?_
        refine gx_geti 5 0 (v := (I1 6 0)) dX10_fete_52 fl_X10_98 rfl rfl rfl ?_
        refine gx_isub dX10_fete_55 ?_
        exact gx_iret dX10_fete_56 rfl rfl rfl ⟨_, _, _, _, rfl, rfl, h⟩
    · replace h := h.2 z
      refine gx_bipush (v := (-3)) dX10_fete_12 (by decide) ?_
      exact gx_iret dX10_fete_14 rfl rfl rfl ⟨_, _, _, _, rfl, rfl, h⟩
abbrev Z_J_fault (g : gm_G) (Q : Int32 → mI → mL → gm_cfg → Prop) (pc : Nat) (lv : List (Nat × Value)) (st : List Value) (I : mI) (L : mL) (c : gm_cfg) : Prop := gm_X g RX10 "fault" cX10_fault 2 (some .int) 1 0 0 (qI Q) 0 0 pc lv st (SH, I, L, RR c)
abbrev C_J_fault (g : gm_G) (x1 : Int32) (I : mI) (L : mL) (c : gm_cfg) (Q : Int32 → mI → mL → gm_cfg → Prop) : Prop := gm_Met g yX10_fault cX10_fault 2 (some .int) 1 0 0 [.ref 0, .int x1] (SH, I, L, RR c) (qI Q)
set_option maxRecDepth 100000 in
theorem e_J_fault {g : gm_G} {Q : Int32 → mI → mL → gm_cfg → Prop} {x1 : Int32} {I : mI} {L : mL} {c : gm_cfg} (h : ((x1 = 0 → Q (I 6 0) I L c) ∧ (¬ x1 = 0 → ((x1 = 1 → Q (I 6 1) I L c) ∧ (¬ x1 = 1 → Q (-1) I L c))))) : C_J_fault g x1 I L c Q := by
  refine gm_enter (lv := [(0, .ref 0), (1, .int x1)]) (by decide) rfl rfl rfl rfl ?_
  show Z_J_fault g Q 0 [(0, .ref 0), (1, .int x1)] [] I L c
  refine gx_iload_n 1 dX10_fault_0 rfl rfl ?_
  refine gx_lsw [(0, 28), (1, 36)] 44 dX10_fault_1 (by decide +kernel) (by decide +kernel) ?_
  refine ⟨fun z => ?_, fun z => ?_⟩
  · replace h := h.1 z
    show Z_J_fault g Q 28 [(0, .ref 0), (1, .int x1)] [] I L c
    refine gx_aload_n 0 dX10_fault_28 rfl rfl ?_
    refine gx_getr 10 4 (v := 6) dX10_fault_29 fl_X10_23 rfl rfl rfl ?_
    refine gx_geti 5 0 (v := (I 6 0)) dX10_fault_32 fl_X10_98 rfl rfl rfl ?_
    exact gx_iret dX10_fault_35 rfl rfl rfl ⟨_, _, _, _, rfl, rfl, h⟩
  · replace h := h.2 z
    refine ⟨fun z => ?_, fun z => ?_⟩
    · replace h := h.1 z
      show Z_J_fault g Q 36 [(0, .ref 0), (1, .int x1)] [] I L c
      refine gx_aload_n 0 dX10_fault_36 rfl rfl ?_
      refine gx_getr 10 4 (v := 6) dX10_fault_37 fl_X10_23 rfl rfl rfl ?_
      refine gx_geti 5 1 (v := (I 6 1)) dX10_fault_40 fl_X10_111 rfl rfl rfl ?_
      exact gx_iret dX10_fault_43 rfl rfl rfl ⟨_, _, _, _, rfl, rfl, h⟩
    · replace h := h.2 z
      show Z_J_fault g Q 44 [(0, .ref 0), (1, .int x1)] [] I L c
      refine gx_iconst (v := (-1)) dX10_fault_44 (by decide) ?_
      exact gx_iret dX10_fault_45 rfl rfl rfl ⟨_, _, _, _, rfl, rfl, h⟩
abbrev Z_J_guesser (g : gm_G) (Q : Int32 → mI → mL → gm_cfg → Prop) (pc : Nat) (lv : List (Nat × Value)) (st : List Value) (I : mI) (L : mL) (c : gm_cfg) : Prop := gm_X g RX10 "guesser" cX10_guesser 3 (some .int) 2 0 0 (qI Q) 0 0 pc lv st (SH, I, L, RR c)
abbrev C_J_guesser (g : gm_G) (x1 : Int32) (x2 : Int32) (I : mI) (L : mL) (c : gm_cfg) (Q : Int32 → mI → mL → gm_cfg → Prop) : Prop := gm_Met g yX10_guesser cX10_guesser 3 (some .int) 2 0 0 [.ref 0, .int x1, .int x2] (SH, I, L, RR c) (qI Q)
set_option maxRecDepth 100000 in
theorem e_J_guesser {g : gm_G} {Q : Int32 → mI → mL → gm_cfg → Prop} {x1 x2 : Int32} {I : mI} {L : mL} {c : gm_cfg} (h : (C_Fe16_has g x1 I L c (fun b4 I1 L2 c3 => ((b4 = false → Q (-2) I1 L2 c3) ∧ (b4 = true → ((x2 = 0 → (vp_in x1 6 ∧ Q (I1 17 (Int32.toNatClampNeg x1)) I1 L2 c3)) ∧ (¬ x2 = 0 → ((x2 = 1 → (vp_in x1 6 ∧ Q (I1 18 (Int32.toNatClampNeg x1)) I1 L2 c3)) ∧ (¬ x2 = 1 → ((x2 = 2 → (vp_in x1 6 ∧ Q (I1 19 (Int32.toNatClampNeg x1)) I1 L2 c3)) ∧ (¬ x2 = 2 → ((x2 = 3 → (C_Sh20_writtenBy g x1 I1 L2 c3 (fun r8 I5 L6 c7 => Q r8 I5 L6 c7))) ∧ (¬ x2 = 3 → ((x2 = 4 → (C_Sh20_latestBy g x1 I1 L2 c3 (fun r12 I9 L10 c11 => Q r12 I9 L10 c11))) ∧ (¬ x2 = 4 → Q (-2) I1 L2 c3))))))))))))))) : C_J_guesser g x1 x2 I L c Q := by
  refine gm_enter (lv := [(0, .ref 0), (1, .int x1), (2, .int x2)]) (by decide) rfl rfl rfl rfl ?_
  show Z_J_guesser g Q 0 [(0, .ref 0), (1, .int x1), (2, .int x2)] [] I L c
  refine gx_aload_n 0 dX10_guesser_0 rfl rfl ?_
  refine gx_getr 10 2 (v := 16) dX10_guesser_1 fl_X10_65 rfl rfl rfl ?_
  refine gx_iload_n 1 dX10_guesser_4 rfl rfl ?_
  refine gx_callV 1 (As := [.int x1]) (st := []) dX10_guesser_5 ml_X10_114 mm_X1_has rfl rfl rfl rfl rfl rfl ⟨rfl, rfl⟩ h (fun v h2 hq => ?_)
  clear h
  obtain ⟨b4, I1, L2, c3, rfl, rfl, h⟩ := hq
  show Z_J_guesser g Q 8 [(0, .ref 0), (1, .int x1), (2, .int x2)] [.int (gm_b b4)] I1 L2 c3
  refine gx_if_ne 14 dX10_guesser_8 (by decide) ⟨fun z => ?_, fun z => ?_⟩
  · replace h := h.1 (gm_b0.mp z)
    refine gx_bipush (v := (-2)) dX10_guesser_11 (by decide) ?_
    exact gx_iret dX10_guesser_13 rfl rfl rfl ⟨_, _, _, _, rfl, rfl, h⟩
  · replace h := h.2 (gm_bn0 z)
    refine gx_iload_n 2 dX10_guesser_14 rfl rfl ?_
    refine gx_tsw [(0, 48), (1, 58), (2, 68), (3, 78), (4, 87)] 96 dX10_guesser_15 (by decide +kernel) ?_
    refine ⟨fun z => ?_, fun z => ?_⟩
    · replace h := h.1 z
      show Z_J_guesser g Q 48 [(0, .ref 0), (1, .int x1), (2, .int x2)] [] I1 L2 c3
      refine gx_aload_n 0 dX10_guesser_48 rfl rfl ?_
      refine gx_getr 10 2 (v := 16) dX10_guesser_49 fl_X10_65 rfl rfl rfl ?_
      refine gx_getr 1 6 (v := 17) dX10_guesser_52 fl_X10_118 rfl rfl rfl ?_
      refine gx_iload_n 1 dX10_guesser_55 rfl rfl ?_
      obtain ⟨hi, h⟩ := h
      refine gx_iald (v := (I1 17 (Int32.toNatClampNeg x1))) dX10_guesser_56 rfl rfl hi (k := (Int32.toNatClampNeg x1)) rfl rfl ?_
      exact gx_iret dX10_guesser_57 rfl rfl rfl ⟨_, _, _, _, rfl, rfl, h⟩
    · replace h := h.2 z
      refine ⟨fun z => ?_, fun z => ?_⟩
      · replace h := h.1 z
        show Z_J_guesser g Q 58 [(0, .ref 0), (1, .int x1), (2, .int x2)] [] I1 L2 c3
        refine gx_aload_n 0 dX10_guesser_58 rfl rfl ?_
        refine gx_getr 10 2 (v := 16) dX10_guesser_59 fl_X10_65 rfl rfl rfl ?_
        refine gx_getr 1 7 (v := 18) dX10_guesser_62 fl_X10_122 rfl rfl rfl ?_
        refine gx_iload_n 1 dX10_guesser_65 rfl rfl ?_
        obtain ⟨hi, h⟩ := h
        refine gx_iald (v := (I1 18 (Int32.toNatClampNeg x1))) dX10_guesser_66 rfl rfl hi (k := (Int32.toNatClampNeg x1)) rfl rfl ?_
        exact gx_iret dX10_guesser_67 rfl rfl rfl ⟨_, _, _, _, rfl, rfl, h⟩
      · replace h := h.2 z
        refine ⟨fun z => ?_, fun z => ?_⟩
        · replace h := h.1 z
          show Z_J_guesser g Q 68 [(0, .ref 0), (1, .int x1), (2, .int x2)] [] I1 L2 c3
          refine gx_aload_n 0 dX10_guesser_68 rfl rfl ?_
          refine gx_getr 10 2 (v := 16) dX10_guesser_69 fl_X10_65 rfl rfl rfl ?_
          refine gx_getr 1 8 (v := 19) dX10_guesser_72 fl_X10_125 rfl rfl rfl ?_
          refine gx_iload_n 1 dX10_guesser_75 rfl rfl ?_
          obtain ⟨hi, h⟩ := h
          refine gx_iald (v := (I1 19 (Int32.toNatClampNeg x1))) dX10_guesser_76 rfl rfl hi (k := (Int32.toNatClampNeg x1)) rfl rfl ?_
          exact gx_iret dX10_guesser_77 rfl rfl rfl ⟨_, _, _, _, rfl, rfl, h⟩
        · replace h := h.2 z
          refine ⟨fun z => ?_, fun z => ?_⟩
          · replace h := h.1 z
            show Z_J_guesser g Q 78 [(0, .ref 0), (1, .int x1), (2, .int x2)] [] I1 L2 c3
            refine gx_aload_n 0 dX10_guesser_78 rfl rfl ?_
            refine gx_getr 10 5 (v := 20) dX10_guesser_79 fl_X10_68 rfl rfl rfl ?_
            refine gx_iload_n 1 dX10_guesser_82 rfl rfl ?_
            refine gx_callV 8 (As := [.int x1]) (st := []) dX10_guesser_83 ml_X10_128 mm_X8_writtenBy rfl rfl rfl rfl rfl rfl ⟨rfl, rfl⟩ h (fun v h2 hq => ?_)
            clear h
            obtain ⟨r8, I5, L6, c7, rfl, rfl, h⟩ := hq
            show Z_J_guesser g Q 86 [(0, .ref 0), (1, .int x1), (2, .int x2)] [.int r8] I5 L6 c7
            exact gx_iret dX10_guesser_86 rfl rfl rfl ⟨_, _, _, _, rfl, rfl, h⟩
          · replace h := h.2 z
            refine ⟨fun z => ?_, fun z => ?_⟩
            · replace h := h.1 z
              show Z_J_guesser g Q 87 [(0, .ref 0), (1, .int x1), (2, .int x2)] [] I1 L2 c3
              refine gx_aload_n 0 dX10_guesser_87 rfl rfl ?_
              refine gx_getr 10 5 (v := 20) dX10_guesser_88 fl_X10_68 rfl rfl rfl ?_
              refine gx_iload_n 1 dX10_guesser_91 rfl rfl ?_
              refine gx_callV 8 (As := [.int x1]) (st := []) dX10_guesser_92 ml_X10_132 mm_X8_latestBy rfl rfl rfl rfl rfl rfl ⟨rfl, rfl⟩ h (fun v h2 hq => ?_)
              clear h
              obtain ⟨r12, I9, L10, c11, rfl, rfl, h⟩ := hq
              show Z_J_guesser g Q 95 [(0, .ref 0), (1, .int x1), (2, .int x2)] [.int r12] I9 L10 c11
              exact gx_iret dX10_guesser_95 rfl rfl rfl ⟨_, _, _, _, rfl, rfl, h⟩
            · replace h := h.2 z
              show Z_J_guesser g Q 96 [(0, .ref 0), (1, .int x1), (2, .int x2)] [] I1 L2 c3
              refine gx_bipush (v := (-2)) dX10_guesser_96 (by decide) ?_
              exact gx_iret dX10_guesser_98 rfl rfl rfl ⟨_, _, _, _, rfl, rfl, h⟩
abbrev Z_J_isJar (g : gm_G) (Q : Bool → mI → mL → gm_cfg → Prop) (pc : Nat) (lv : List (Nat × Value)) (st : List Value) (I : mI) (L : mL) (c : gm_cfg) : Prop := gm_X g RX10 "isJar" cX10_isJar 1 (some .boolean) 1 0 0 (qZ Q) 0 0 pc lv st (SH, I, L, RR c)
abbrev C_J_isJar (g : gm_G) (x0 : Int32) (I : mI) (L : mL) (c : gm_cfg) (Q : Bool → mI → mL → gm_cfg → Prop) : Prop := gm_Met g yX10_isJar cX10_isJar 1 (some .boolean) 1 0 0 [.int x0] (SH, I, L, RR c) (qZ Q)
set_option maxRecDepth 100000 in
theorem e_J_isJar {g : gm_G} {Q : Bool → mI → mL → gm_cfg → Prop} {x0 : Int32} {I : mI} {L : mL} {c : gm_cfg} (h : ((x0 < 1 → Q false I L c) ∧ (¬ x0 < 1 → ((999 < x0 → Q false I L c) ∧ (¬ 999 < x0 → Q true I L c))))) : C_J_isJar g x0 I L c Q := by
  refine gm_enter (lv := [(0, .int x0)]) (by decide) rfl rfl rfl rfl ?_
  show Z_J_isJar g Q 0 [(0, .int x0)] [] I L c
  refine gx_iload_n 0 dX10_isJar_0 rfl rfl ?_
  refine gx_iconst (v := 1) dX10_isJar_1 (by decide) ?_
  refine gx_icmp_lt 16 dX10_isJar_2 (by decide) ⟨fun z => ?_, fun z => ?_⟩
  · replace h := h.1 z
    refine gx_iconst (v := 0) dX10_isJar_16 (by decide) ?_
    exact gx_zret .boolean dX10_isJar_17 rfl rfl rfl rfl ⟨false, _, _, _, rfl, rfl, h⟩
  · replace h := h.2 z
    refine gx_iload_n 0 dX10_isJar_5 rfl rfl ?_
    refine gx_sipush (v := 999) dX10_isJar_6 (by decide) ?_
    refine gx_icmp_gt 16 dX10_isJar_9 (by decide) ⟨fun z => ?_, fun z => ?_⟩
    · replace h := h.1 z
      refine gx_iconst (v := 0) dX10_isJar_16 (by decide) ?_
      exact gx_zret .boolean dX10_isJar_17 rfl rfl rfl rfl ⟨false, _, _, _, rfl, rfl, h⟩
    · replace h := h.2 z
      refine gx_iconst (v := 1) dX10_isJar_12 (by decide) ?_
      refine gx_goto 17 dX10_isJar_13 (by decide) ?_
      exact gx_zret .boolean dX10_isJar_17 rfl rfl rfl rfl ⟨true, _, _, _, rfl, rfl, h⟩
abbrev Z_J_sight (g : gm_G) (Q : Int32 → mI → mL → gm_cfg → Prop) (pc : Nat) (lv : List (Nat × Value)) (st : List Value) (I : mI) (L : mL) (c : gm_cfg) : Prop := gm_X g RX10 "sight" cX10_sight 3 (some .int) 3 0 0 (qI Q) 0 0 pc lv st (SH, I, L, RR c)
abbrev C_J_sight (g : gm_G) (x1 : Int32) (x2 : Int32) (I : mI) (L : mL) (c : gm_cfg) (Q : Int32 → mI → mL → gm_cfg → Prop) : Prop := gm_Met g yX10_sight cX10_sight 3 (some .int) 3 0 0 [.ref 0, .int x1, .int x2] (SH, I, L, RR c) (qI Q)
set_option maxRecDepth 100000 in
theorem e_J_sight {g : gm_G} {Q : Int32 → mI → mL → gm_cfg → Prop} {x1 x2 : Int32} {I : mI} {L : mL} {c : gm_cfg} (h : (C_Fe16_has g x1 I L c (fun b4 I1 L2 c3 => ((b4 = false → Q (-2) I1 L2 c3) ∧ (b4 = true → (C_J_isJar g x2 I1 L2 c3 (fun b8 I5 L6 c7 => ((b8 = false → Q (-3) I5 L6 c7) ∧ (b8 = true → (C_Fe16_sightOf g x1 x2 I5 L6 c7 (fun r12 I9 L10 c11 => Q r12 I9 L10 c11))))))))))) : C_J_sight g x1 x2 I L c Q := by
  refine gm_enter (lv := [(0, .ref 0), (1, .int x1), (2, .int x2)]) (by decide) rfl rfl rfl rfl ?_
  show Z_J_sight g Q 0 [(0, .ref 0), (1, .int x1), (2, .int x2)] [] I L c
  refine gx_aload_n 0 dX10_sight_0 rfl rfl ?_
  refine gx_getr 10 2 (v := 16) dX10_sight_1 fl_X10_65 rfl rfl rfl ?_
  refine gx_iload_n 1 dX10_sight_4 rfl rfl ?_
  refine gx_callV 1 (As := [.int x1]) (st := []) dX10_sight_5 ml_X10_114 mm_X1_has rfl rfl rfl rfl rfl rfl ⟨rfl, rfl⟩ h (fun v h2 hq => ?_)
  clear h
  obtain ⟨b4, I1, L2, c3, rfl, rfl, h⟩ := hq
  show Z_J_sight g Q 8 [(0, .ref 0), (1, .int x1), (2, .int x2)] [.int (gm_b b4)] I1 L2 c3
  refine gx_if_ne 14 dX10_sight_8 (by decide) ⟨fun z => ?_, fun z => ?_⟩
  · replace h := h.1 (gm_b0.mp z)
    refine gx_bipush (v := (-2)) dX10_sight_11 (by decide) ?_
    exact gx_iret dX10_sight_13 rfl rfl rfl ⟨_, _, _, _, rfl, rfl, h⟩
  · replace h := h.2 (gm_bn0 z)
    refine gx_iload_n 2 dX10_sight_14 rfl rfl ?_
    refine gx_callS (As := [.int x2]) (st := []) dX10_sight_15 ml_X10_135 mm_X10_isJar rfl rfl rfl rfl ⟨rfl, rfl⟩ h (fun v h2 hq => ?_)
    clear h
    obtain ⟨b8, I5, L6, c7, rfl, rfl, h⟩ := hq
    show Z_J_sight g Q 18 [(0, .ref 0), (1, .int x1), (2, .int x2)] [.int (gm_b b8)] I5 L6 c7
    refine gx_if_eq 33 dX10_sight_18 (by decide) ⟨fun z => ?_, fun z => ?_⟩
    · replace h := h.1 (gm_b0.mp z)
      refine gx_bipush (v := (-3)) dX10_sight_33 (by decide) ?_
      exact gx_iret dX10_sight_35 rfl rfl rfl ⟨_, _, _, _, rfl, rfl, h⟩
    · replace h := h.2 (gm_bn0 z)
      refine gx_aload_n 0 dX10_sight_21 rfl rfl ?_
      refine gx_getr 10 2 (v := 16) dX10_sight_22 fl_X10_65 rfl rfl rfl ?_
      refine gx_iload_n 1 dX10_sight_25 rfl rfl ?_
      refine gx_iload_n 2 dX10_sight_26 rfl rfl ?_
      refine gx_callV 1 (As := [.int x1, .int x2]) (st := []) dX10_sight_27 ml_X10_138 mm_X1_sightOf rfl rfl rfl rfl rfl rfl ⟨rfl, rfl⟩ h (fun v h2 hq => ?_)
      clear h
      obtain ⟨r12, I9, L10, c11, rfl, rfl, h⟩ := hq
      show Z_J_sight g Q 30 [(0, .ref 0), (1, .int x1), (2, .int x2)] [.int r12] I9 L10 c11
      refine gx_goto 35 dX10_sight_30 (by decide) ?_
      exact gx_iret dX10_sight_35 rfl rfl rfl ⟨_, _, _, _, rfl, rfl, h⟩
abbrev Z_J_weight (g : gm_G) (Q : Int32 → mI → mL → gm_cfg → Prop) (pc : Nat) (lv : List (Nat × Value)) (st : List Value) (I : mI) (L : mL) (c : gm_cfg) : Prop := gm_X g RX10 "weight" cX10_weight 2 (some .int) 2 0 0 (qI Q) 0 0 pc lv st (SH, I, L, RR c)
abbrev C_J_weight (g : gm_G) (x1 : Int32) (I : mI) (L : mL) (c : gm_cfg) (Q : Int32 → mI → mL → gm_cfg → Prop) : Prop := gm_Met g yX10_weight cX10_weight 2 (some .int) 2 0 0 [.ref 0, .int x1] (SH, I, L, RR c) (qI Q)
set_option maxRecDepth 100000 in
theorem e_J_weight {g : gm_G} {Q : Int32 → mI → mL → gm_cfg → Prop} {x1 : Int32} {I : mI} {L : mL} {c : gm_cfg} (h : (C_Fe16_spans g x1 I L c (fun b4 I1 L2 c3 => ((b4 = false → Q (-3) I1 L2 c3) ∧ (b4 = true → (C_Fe16_weightOf g x1 I1 L2 c3 (fun r8 I5 L6 c7 => Q r8 I5 L6 c7))))))) : C_J_weight g x1 I L c Q := by
  refine gm_enter (lv := [(0, .ref 0), (1, .int x1)]) (by decide) rfl rfl rfl rfl ?_
  show Z_J_weight g Q 0 [(0, .ref 0), (1, .int x1)] [] I L c
  refine gx_aload_n 0 dX10_weight_0 rfl rfl ?_
  refine gx_getr 10 2 (v := 16) dX10_weight_1 fl_X10_65 rfl rfl rfl ?_
  refine gx_iload_n 1 dX10_weight_4 rfl rfl ?_
  refine gx_callV 1 (As := [.int x1]) (st := []) dX10_weight_5 ml_X10_142 mm_X1_spans rfl rfl rfl rfl rfl rfl ⟨rfl, rfl⟩ h (fun v h2 hq => ?_)
  clear h
  obtain ⟨b4, I1, L2, c3, rfl, rfl, h⟩ := hq
  show Z_J_weight g Q 8 [(0, .ref 0), (1, .int x1)] [.int (gm_b b4)] I1 L2 c3
  refine gx_if_eq 22 dX10_weight_8 (by decide) ⟨fun z => ?_, fun z => ?_⟩
  · replace h := h.1 (gm_b0.mp z)
    refine gx_bipush (v := (-3)) dX10_weight_22 (by decide) ?_
    exact gx_iret dX10_weight_24 rfl rfl rfl ⟨_, _, _, _, rfl, rfl, h⟩
  · replace h := h.2 (gm_bn0 z)
    refine gx_aload_n 0 dX10_weight_11 rfl rfl ?_
    refine gx_getr 10 2 (v := 16) dX10_weight_12 fl_X10_65 rfl rfl rfl ?_
    refine gx_iload_n 1 dX10_weight_15 rfl rfl ?_
    refine gx_callV 1 (As := [.int x1]) (st := []) dX10_weight_16 ml_X10_145 mm_X1_weightOf rfl rfl rfl rfl rfl rfl ⟨rfl, rfl⟩ h (fun v h2 hq => ?_)
    clear h
    obtain ⟨r8, I5, L6, c7, rfl, rfl, h⟩ := hq
    show Z_J_weight g Q 19 [(0, .ref 0), (1, .int x1)] [.int r8] I5 L6 c7
    refine gx_goto 24 dX10_weight_19 (by decide) ?_
    exact gx_iret dX10_weight_24 rfl rfl rfl ⟨_, _, _, _, rfl, rfl, h⟩
abbrev Z_J_jar (g : gm_G) (Q : Int32 → mI → mL → gm_cfg → Prop) (pc : Nat) (lv : List (Nat × Value)) (st : List Value) (I : mI) (L : mL) (c : gm_cfg) : Prop := gm_X g RX10 "jar" cX10_jar 3 (some .int) 2 0 0 (qI Q) 0 0 pc lv st (SH, I, L, RR c)
abbrev C_J_jar (g : gm_G) (x1 : Int32) (I : mI) (L : mL) (c : gm_cfg) (Q : Int32 → mI → mL → gm_cfg → Prop) : Prop := gm_Met g yX10_jar cX10_jar 3 (some .int) 2 0 0 [.ref 0, .int x1] (SH, I, L, RR c) (qI Q)
set_option maxRecDepth 100000 in
theorem e_J_jar {g : gm_G} {Q : Int32 → mI → mL → gm_cfg → Prop} {x1 : Int32} {I : mI} {L : mL} {c : gm_cfg} (h : ((x1 = 0 → Q (I 16 12) (gm_u I 16 12 x1) L c) ∧ (¬ x1 = 0 → (C_J_isJar g x1 I L c (fun b4 I1 L2 c3 => ((b4 = false → Q (-3) I1 L2 c3) ∧ (b4 = true → Q (I1 16 12) (gm_u I1 16 12 x1) L2 c3))))))) : C_J_jar g x1 I L c Q := by
  refine gm_enter (lv := [(0, .ref 0), (1, .int x1)]) (by decide) rfl rfl rfl rfl ?_
  show Z_J_jar g Q 0 [(0, .ref 0), (1, .int x1)] [] I L c
  refine gx_iload_n 1 dX10_jar_0 rfl rfl ?_
  refine gx_if_eq 14 dX10_jar_1 (by decide) ⟨fun z => ?_, fun z => ?_⟩
  · replace h := h.1 z
    refine gx_aload_n 0 dX10_jar_14 rfl rfl ?_
    refine gx_getr 10 2 (v := 16) dX10_jar_15 fl_X10_65 rfl rfl rfl ?_
    refine gx_geti 1 12 (v := (I 16 12)) dX10_jar_18 fl_X10_148 rfl rfl rfl ?_
    refine gx_istore_n (lv' := [(0, .ref 0), (1, .int x1), (2, .int (I 16 12))]) dX10_jar_21 rfl rfl rfl ?_
    refine gx_aload_n 0 dX10_jar_22 rfl rfl ?_
    refine gx_getr 10 2 (v := 16) dX10_jar_23 fl_X10_65 rfl rfl rfl ?_
    refine gx_iload_n 1 dX10_jar_26 rfl rfl ?_
    refine gx_puti 1 12 dX10_jar_27 fl_X10_148 rfl rfl rfl ⟨rfl, rfl⟩ ?_
    show Z_J_jar g Q 30 [(0, .ref 0), (1, .int x1), (2, .int (I 16 12))] [] (gm_u I 16 12 x1) L c
    refine gx_iload_n 2 dX10_jar_30 rfl rfl ?_
    exact gx_iret dX10_jar_31 rfl rfl rfl ⟨_, _, _, _, rfl, rfl, h⟩
  · replace h := h.2 z
    refine gx_iload_n 1 dX10_jar_4 rfl rfl ?_
    refine gx_callS (As := [.int x1]) (st := []) dX10_jar_5 ml_X10_135 mm_X10_isJar rfl rfl rfl rfl ⟨rfl, rfl⟩ h (fun v h2 hq => ?_)
    clear h
    obtain ⟨b4, I1, L2, c3, rfl, rfl, h⟩ := hq
    show Z_J_jar g Q 8 [(0, .ref 0), (1, .int x1)] [.int (gm_b b4)] I1 L2 c3
    refine gx_if_ne 14 dX10_jar_8 (by decide) ⟨fun z => ?_, fun z => ?_⟩
    · replace h := h.1 (gm_b0.mp z)
      refine gx_bipush (v := (-3)) dX10_jar_11 (by decide) ?_
      exact gx_iret dX10_jar_13 rfl rfl rfl ⟨_, _, _, _, rfl, rfl, h⟩
    · replace h := h.2 (gm_bn0 z)
      refine gx_aload_n 0 dX10_jar_14 rfl rfl ?_
      refine gx_getr 10 2 (v := 16) dX10_jar_15 fl_X10_65 rfl rfl rfl ?_
      refine gx_geti 1 12 (v := (I1 16 12)) dX10_jar_18 fl_X10_148 rfl rfl rfl ?_
      refine gx_istore_n (lv' := [(0, .ref 0), (1, .int x1), (2, .int (I1 16 12))]) dX10_jar_21 rfl rfl rfl ?_
      refine gx_aload_n 0 dX10_jar_22 rfl rfl ?_
      refine gx_getr 10 2 (v := 16) dX10_jar_23 fl_X10_65 rfl rfl rfl ?_
      refine gx_iload_n 1 dX10_jar_26 rfl rfl ?_
      refine gx_puti 1 12 dX10_jar_27 fl_X10_148 rfl rfl rfl ⟨rfl, rfl⟩ ?_
      show Z_J_jar g Q 30 [(0, .ref 0), (1, .int x1), (2, .int (I1 16 12))] [] (gm_u I1 16 12 x1) L2 c3
      refine gx_iload_n 2 dX10_jar_30 rfl rfl ?_
      exact gx_iret dX10_jar_31 rfl rfl rfl ⟨_, _, _, _, rfl, rfl, h⟩
abbrev Z_J_isNumber (g : gm_G) (Q : Bool → mI → mL → gm_cfg → Prop) (pc : Nat) (lv : List (Nat × Value)) (st : List Value) (I : mI) (L : mL) (c : gm_cfg) : Prop := gm_X g RX10 "isNumber" cX10_isNumber 1 (some .boolean) 1 0 0 (qZ Q) 0 0 pc lv st (SH, I, L, RR c)
abbrev C_J_isNumber (g : gm_G) (x0 : Int32) (I : mI) (L : mL) (c : gm_cfg) (Q : Bool → mI → mL → gm_cfg → Prop) : Prop := gm_Met g yX10_isNumber cX10_isNumber 1 (some .boolean) 1 0 0 [.int x0] (SH, I, L, RR c) (qZ Q)
set_option maxRecDepth 100000 in
theorem e_J_isNumber {g : gm_G} {Q : Bool → mI → mL → gm_cfg → Prop} {x0 : Int32} {I : mI} {L : mL} {c : gm_cfg} (h : ((x0 < 0 → Q false I L c) ∧ (¬ x0 < 0 → ((2000 < x0 → Q false I L c) ∧ (¬ 2000 < x0 → Q true I L c))))) : C_J_isNumber g x0 I L c Q := by
  refine gm_enter (lv := [(0, .int x0)]) (by decide) rfl rfl rfl rfl ?_
  show Z_J_isNumber g Q 0 [(0, .int x0)] [] I L c
  refine gx_iload_n 0 dX10_isNumber_0 rfl rfl ?_
  refine gx_if_lt 15 dX10_isNumber_1 (by decide) ⟨fun z => ?_, fun z => ?_⟩
  · replace h := h.1 z
    refine gx_iconst (v := 0) dX10_isNumber_15 (by decide) ?_
    exact gx_zret .boolean dX10_isNumber_16 rfl rfl rfl rfl ⟨false, _, _, _, rfl, rfl, h⟩
  · replace h := h.2 z
    refine gx_iload_n 0 dX10_isNumber_4 rfl rfl ?_
    refine gx_sipush (v := 2000) dX10_isNumber_5 (by decide) ?_
    refine gx_icmp_gt 15 dX10_isNumber_8 (by decide) ⟨fun z => ?_, fun z => ?_⟩
    · replace h := h.1 z
      refine gx_iconst (v := 0) dX10_isNumber_15 (by decide) ?_
      exact gx_zret .boolean dX10_isNumber_16 rfl rfl rfl rfl ⟨false, _, _, _, rfl, rfl, h⟩
    · replace h := h.2 z
      refine gx_iconst (v := 1) dX10_isNumber_11 (by decide) ?_
      refine gx_goto 16 dX10_isNumber_12 (by decide) ?_
      exact gx_zret .boolean dX10_isNumber_16 rfl rfl rfl rfl ⟨true, _, _, _, rfl, rfl, h⟩
abbrev Z_J_write (g : gm_G) (Q : Int32 → mI → mL → gm_cfg → Prop) (pc : Nat) (lv : List (Nat × Value)) (st : List Value) (I : mI) (L : mL) (c : gm_cfg) : Prop := gm_X g RX10 "write" cX10_write 3 (some .int) 2 0 0 (qI Q) 0 0 pc lv st (SH, I, L, RR c)
abbrev C_J_write (g : gm_G) (x1 : Int32) (x2 : Int32) (I : mI) (L : mL) (c : gm_cfg) (Q : Int32 → mI → mL → gm_cfg → Prop) : Prop := gm_Met g yX10_write cX10_write 3 (some .int) 2 0 0 [.ref 0, .int x1, .int x2] (SH, I, L, RR c) (qI Q)
set_option maxRecDepth 100000 in
theorem e_J_write {g : gm_G} {Q : Int32 → mI → mL → gm_cfg → Prop} {x1 x2 : Int32} {I : mI} {L : mL} {c : gm_cfg} (h : (C_Fe16_has g x1 I L c (fun b4 I1 L2 c3 => ((b4 = false → Q (-2) I1 L2 c3) ∧ (b4 = true → (C_J_isNumber g x2 I1 L2 c3 (fun b8 I5 L6 c7 => ((b8 = false → Q (-3) I5 L6 c7) ∧ (b8 = true → (((I5 20 2) < 40 → (C_Sh20_add g x1 x2 I5 L6 c7 (fun I9 L10 c11 => Q (I9 20 2) I9 L10 c11))) ∧ (¬ (I5 20 2) < 40 → Q (-4) I5 L6 c7))))))))))) : C_J_write g x1 x2 I L c Q := by
  refine gm_enter (lv := [(0, .ref 0), (1, .int x1), (2, .int x2)]) (by decide) rfl rfl rfl rfl ?_
  show Z_J_write g Q 0 [(0, .ref 0), (1, .int x1), (2, .int x2)] [] I L c
  refine gx_aload_n 0 dX10_write_0 rfl rfl ?_
  refine gx_getr 10 2 (v := 16) dX10_write_1 fl_X10_65 rfl rfl rfl ?_
  refine gx_iload_n 1 dX10_write_4 rfl rfl ?_
  refine gx_callV 1 (As := [.int x1]) (st := []) dX10_write_5 ml_X10_114 mm_X1_has rfl rfl rfl rfl rfl rfl ⟨rfl, rfl⟩ h (fun v h2 hq => ?_)
  clear h
  obtain ⟨b4, I1, L2, c3, rfl, rfl, h⟩ := hq
  show Z_J_write g Q 8 [(0, .ref 0), (1, .int x1), (2, .int x2)] [.int (gm_b b4)] I1 L2 c3
  refine gx_if_ne 14 dX10_write_8 (by decide) ⟨fun z => ?_, fun z => ?_⟩
  · replace h := h.1 (gm_b0.mp z)
    refine gx_bipush (v := (-2)) dX10_write_11 (by decide) ?_
    exact gx_iret dX10_write_13 rfl rfl rfl ⟨_, _, _, _, rfl, rfl, h⟩
  · replace h := h.2 (gm_bn0 z)
    refine gx_iload_n 2 dX10_write_14 rfl rfl ?_
    refine gx_callS (As := [.int x2]) (st := []) dX10_write_15 ml_X10_151 mm_X10_isNumber rfl rfl rfl rfl ⟨rfl, rfl⟩ h (fun v h2 hq => ?_)
    clear h
    obtain ⟨b8, I5, L6, c7, rfl, rfl, h⟩ := hq
    show Z_J_write g Q 18 [(0, .ref 0), (1, .int x1), (2, .int x2)] [.int (gm_b b8)] I5 L6 c7
    refine gx_if_ne 24 dX10_write_18 (by decide) ⟨fun z => ?_, fun z => ?_⟩
    · replace h := h.1 (gm_b0.mp z)
      refine gx_bipush (v := (-3)) dX10_write_21 (by decide) ?_
      exact gx_iret dX10_write_23 rfl rfl rfl ⟨_, _, _, _, rfl, rfl, h⟩
    · replace h := h.2 (gm_bn0 z)
      refine gx_aload_n 0 dX10_write_24 rfl rfl ?_
      refine gx_getr 10 5 (v := 20) dX10_write_25 fl_X10_68 rfl rfl rfl ?_
      refine gx_geti 8 2 (v := (I5 20 2)) dX10_write_28 fl_X10_154 rfl rfl rfl ?_
      refine gx_bipush (v := 40) dX10_write_31 (by decide) ?_
      refine gx_icmp_lt 39 dX10_write_33 (by decide) ⟨fun z => ?_, fun z => ?_⟩
      · replace h := h.1 z
        refine gx_aload_n 0 dX10_write_39 rfl rfl ?_
        refine gx_getr 10 5 (v := 20) dX10_write_40 fl_X10_68 rfl rfl rfl ?_
        refine gx_iload_n 1 dX10_write_43 rfl rfl ?_
        refine gx_iload_n 2 dX10_write_44 rfl rfl ?_
        refine gx_callV 8 (As := [.int x1, .int x2]) (st := []) dX10_write_45 ml_X10_157 mm_X8_add rfl rfl rfl rfl rfl rfl ⟨rfl, rfl⟩ h (fun v h2 hq => ?_)
        clear h
        obtain ⟨I9, L10, c11, rfl, rfl, h⟩ := hq
        show Z_J_write g Q 48 [(0, .ref 0), (1, .int x1), (2, .int x2)] [] I9 L10 c11
        refine gx_aload_n 0 dX10_write_48 rfl rfl ?_
        refine gx_getr 10 5 (v := 20) dX10_write_49 fl_X10_68 rfl rfl rfl ?_
        refine gx_geti 8 2 (v := (I9 20 2)) dX10_write_52 fl_X10_154 rfl rfl rfl ?_
        exact gx_iret dX10_write_55 rfl rfl rfl ⟨_, _, _, _, rfl, rfl, h⟩
      · replace h := h.2 z
        refine gx_bipush (v := (-4)) dX10_write_36 (by decide) ?_
        exact gx_iret dX10_write_38 rfl rfl rfl ⟨_, _, _, _, rfl, rfl, h⟩
abbrev Z_J_strike (g : gm_G) (Q : Int32 → mI → mL → gm_cfg → Prop) (pc : Nat) (lv : List (Nat × Value)) (st : List Value) (I : mI) (L : mL) (c : gm_cfg) : Prop := gm_X g RX10 "strike" cX10_strike 2 (some .int) 2 0 0 (qI Q) 0 0 pc lv st (SH, I, L, RR c)
abbrev C_J_strike (g : gm_G) (x1 : Int32) (I : mI) (L : mL) (c : gm_cfg) (Q : Int32 → mI → mL → gm_cfg → Prop) : Prop := gm_Met g yX10_strike cX10_strike 2 (some .int) 2 0 0 [.ref 0, .int x1] (SH, I, L, RR c) (qI Q)
set_option maxRecDepth 100000 in
theorem e_J_strike {g : gm_G} {Q : Int32 → mI → mL → gm_cfg → Prop} {x1 : Int32} {I : mI} {L : mL} {c : gm_cfg} (h : ((x1 < 0 → Q (-3) I L c) ∧ (¬ x1 < 0 → ((x1 ≤ (I 20 2) → (C_Sh20_cutTo g ((I 20 2) - x1) I L c (fun I1 L2 c3 => Q (I1 20 2) I1 L2 c3))) ∧ (¬ x1 ≤ (I 20 2) → Q (-3) I L c))))) : C_J_strike g x1 I L c Q := by
  refine gm_enter (lv := [(0, .ref 0), (1, .int x1)]) (by decide) rfl rfl rfl rfl ?_
  show Z_J_strike g Q 0 [(0, .ref 0), (1, .int x1)] [] I L c
  refine gx_iload_n 1 dX10_strike_0 rfl rfl ?_
  refine gx_if_lt 15 dX10_strike_1 (by decide) ⟨fun z => ?_, fun z => ?_⟩
  · replace h := h.1 z
    refine gx_bipush (v := (-3)) dX10_strike_15 (by decide) ?_
    exact gx_iret dX10_strike_17 rfl rfl rfl ⟨_, _, _, _, rfl, rfl, h⟩
  · replace h := h.2 z
    refine gx_iload_n 1 dX10_strike_4 rfl rfl ?_
    refine gx_aload_n 0 dX10_strike_5 rfl rfl ?_
    refine gx_getr 10 5 (v := 20) dX10_strike_6 fl_X10_68 rfl rfl rfl ?_
    refine gx_geti 8 2 (v := (I 20 2)) dX10_strike_9 fl_X10_154 rfl rfl rfl ?_
    refine gx_icmp_le 18 dX10_strike_12 (by decide) ⟨fun z => ?_, fun z => ?_⟩
    · replace h := h.1 z
      refine gx_aload_n 0 dX10_strike_18 rfl rfl ?_
      refine gx_getr 10 5 (v := 20) dX10_strike_19 fl_X10_68 rfl rfl rfl ?_
      refine gx_aload_n 0 dX10_strike_22 rfl rfl ?_
      refine gx_getr 10 5 (v := 20) dX10_strike_23 fl_X10_68 rfl rfl rfl ?_
      refine gx_geti 8 2 (v := (I 20 2)) dX10_strike_26 fl_X10_154 rfl rfl rfl ?_
      refine gx_iload_n 1 dX10_strike_29 rfl rfl ?_
      refine gx_isub dX10_strike_30 ?_
      refine gx_callV 8 (As := [.int ((I 20 2) - x1)]) (st := []) dX10_strike_31 ml_X10_105 mm_X8_cutTo rfl rfl rfl rfl rfl rfl ⟨rfl, rfl⟩ h (fun v h2 hq => ?_)
      clear h
      obtain ⟨I1, L2, c3, rfl, rfl, h⟩ := hq
      show Z_J_strike g Q 34 [(0, .ref 0), (1, .int x1)] [] I1 L2 c3
      refine gx_aload_n 0 dX10_strike_34 rfl rfl ?_
      refine gx_getr 10 5 (v := 20) dX10_strike_35 fl_X10_68 rfl rfl rfl ?_
      refine gx_geti 8 2 (v := (I1 20 2)) dX10_strike_38 fl_X10_154 rfl rfl rfl ?_
      exact gx_iret dX10_strike_41 rfl rfl rfl ⟨_, _, _, _, rfl, rfl, h⟩
    · replace h := h.2 z
      refine gx_bipush (v := (-3)) dX10_strike_15 (by decide) ?_
      exact gx_iret dX10_strike_17 rfl rfl rfl ⟨_, _, _, _, rfl, rfl, h⟩
abbrev Z_J_offJar (g : gm_G) (Q : Int32 → mI → mL → gm_cfg → Prop) (pc : Nat) (lv : List (Nat × Value)) (st : List Value) (I : mI) (L : mL) (c : gm_cfg) : Prop := gm_X g RX10 "offJar" cX10_offJar 2 (some .int) 1 0 0 (qI Q) 0 0 pc lv st (SH, I, L, RR c)
abbrev C_J_offJar (g : gm_G) (x1 : Int32) (I : mI) (L : mL) (c : gm_cfg) (Q : Int32 → mI → mL → gm_cfg → Prop) : Prop := gm_Met g yX10_offJar cX10_offJar 2 (some .int) 1 0 0 [.ref 0, .int x1] (SH, I, L, RR c) (qI Q)
set_option maxRecDepth 100000 in
theorem e_J_offJar {g : gm_G} {Q : Int32 → mI → mL → gm_cfg → Prop} {x1 : Int32} {I : mI} {L : mL} {c : gm_cfg} (h : Q ((if 0 ≤ (x1 - (I 16 12)) then (x1 - (I 16 12)) else 0 - (x1 - (I 16 12))) : Int32) I L c) : C_J_offJar g x1 I L c Q := by
  refine gm_enter (lv := [(0, .ref 0), (1, .int x1)]) (by decide) rfl rfl rfl rfl ?_
  show Z_J_offJar g Q 0 [(0, .ref 0), (1, .int x1)] [] I L c
  refine gx_iload_n 1 dX10_offJar_0 rfl rfl ?_
  refine gx_aload_n 0 dX10_offJar_1 rfl rfl ?_
  refine gx_getr 10 2 (v := 16) dX10_offJar_2 fl_X10_65 rfl rfl rfl ?_
  refine gx_geti 1 12 (v := (I 16 12)) dX10_offJar_5 fl_X10_148 rfl rfl rfl ?_
  refine gx_isub dX10_offJar_8 ?_
  refine gx_mabs dX10_offJar_9 ml_X10_182 mw_abs rfl rfl rfl rfl ?_
  exact gx_iret dX10_offJar_12 rfl rfl rfl ⟨_, _, _, _, rfl, rfl, h⟩
abbrev Z_J_list (g : gm_G) (Q : Int32 → mI → mL → gm_cfg → Prop) (pc : Nat) (lv : List (Nat × Value)) (st : List Value) (I : mI) (L : mL) (c : gm_cfg) : Prop := gm_X g RX10 "list" cX10_list 3 (some .int) 3 0 0 (qI Q) 0 0 pc lv st (SH, I, L, RR c)
abbrev C_J_list (g : gm_G) (x1 : Int32) (x2 : Int32) (I : mI) (L : mL) (c : gm_cfg) (Q : Int32 → mI → mL → gm_cfg → Prop) : Prop := gm_Met g yX10_list cX10_list 3 (some .int) 3 0 0 [.ref 0, .int x1, .int x2] (SH, I, L, RR c) (qI Q)
set_option maxRecDepth 100000 in
theorem e_J_list {g : gm_G} {Q : Int32 → mI → mL → gm_cfg → Prop} {x1 x2 : Int32} {I : mI} {L : mL} {c : gm_cfg} (h : (C_Sh20_has g x1 I L c (fun b4 I1 L2 c3 => ((b4 = false → Q (-2) I1 L2 c3) ∧ (b4 = true → ((x2 = 0 → (vp_in x1 40 ∧ Q (I1 21 (Int32.toNatClampNeg x1)) I1 L2 c3)) ∧ (¬ x2 = 0 → ((x2 = 1 → (vp_in x1 40 ∧ Q (I1 22 (Int32.toNatClampNeg x1)) I1 L2 c3)) ∧ (¬ x2 = 1 → ((x2 = 2 → (C_Sh20_goalAt g x1 (I1 16 9) I1 L2 c3 (fun r8 I5 L6 c7 => Q r8 I5 L6 c7))) ∧ (¬ x2 = 2 → ((x2 = 3 → (((I1 16 12) = 0 → Q (-1) I1 L2 c3) ∧ (¬ (I1 16 12) = 0 → (vp_in x1 40 ∧ (C_J_offJar g (I1 21 (Int32.toNatClampNeg x1)) I1 L2 c3 (fun r12 I9 L10 c11 => Q r12 I9 L10 c11)))))) ∧ (¬ x2 = 3 → ((x2 = 4 → (vp_in x1 40 ∧ (C_Sh20_firstOf g (I1 21 (Int32.toNatClampNeg x1)) I1 L2 c3 (fun r16 I13 L14 c15 => Q r16 I13 L14 c15)))) ∧ (¬ x2 = 4 → Q (-2) I1 L2 c3))))))))))))))) : C_J_list g x1 x2 I L c Q := by
  refine gm_enter (lv := [(0, .ref 0), (1, .int x1), (2, .int x2)]) (by decide) rfl rfl rfl rfl ?_
  show Z_J_list g Q 0 [(0, .ref 0), (1, .int x1), (2, .int x2)] [] I L c
  refine gx_aload_n 0 dX10_list_0 rfl rfl ?_
  refine gx_getr 10 5 (v := 20) dX10_list_1 fl_X10_68 rfl rfl rfl ?_
  refine gx_iload_n 1 dX10_list_4 rfl rfl ?_
  refine gx_callV 8 (As := [.int x1]) (st := []) dX10_list_5 ml_X10_161 mm_X8_has rfl rfl rfl rfl rfl rfl ⟨rfl, rfl⟩ h (fun v h2 hq => ?_)
  clear h
  obtain ⟨b4, I1, L2, c3, rfl, rfl, h⟩ := hq
  show Z_J_list g Q 8 [(0, .ref 0), (1, .int x1), (2, .int x2)] [.int (gm_b b4)] I1 L2 c3
  refine gx_if_ne 14 dX10_list_8 (by decide) ⟨fun z => ?_, fun z => ?_⟩
  · replace h := h.1 (gm_b0.mp z)
    refine gx_bipush (v := (-2)) dX10_list_11 (by decide) ?_
    exact gx_iret dX10_list_13 rfl rfl rfl ⟨_, _, _, _, rfl, rfl, h⟩
  · replace h := h.2 (gm_bn0 z)
    refine gx_iload_n 2 dX10_list_14 rfl rfl ?_
    refine gx_tsw [(0, 48), (1, 58), (2, 68), (3, 84), (4, 112)] 129 dX10_list_15 (by decide +kernel) ?_
    refine ⟨fun z => ?_, fun z => ?_⟩
    · replace h := h.1 z
      show Z_J_list g Q 48 [(0, .ref 0), (1, .int x1), (2, .int x2)] [] I1 L2 c3
      refine gx_aload_n 0 dX10_list_48 rfl rfl ?_
      refine gx_getr 10 5 (v := 20) dX10_list_49 fl_X10_68 rfl rfl rfl ?_
      refine gx_getr 8 0 (v := 21) dX10_list_52 fl_X10_162 rfl rfl rfl ?_
      refine gx_iload_n 1 dX10_list_55 rfl rfl ?_
      obtain ⟨hi, h⟩ := h
      refine gx_iald (v := (I1 21 (Int32.toNatClampNeg x1))) dX10_list_56 rfl rfl hi (k := (Int32.toNatClampNeg x1)) rfl rfl ?_
      exact gx_iret dX10_list_57 rfl rfl rfl ⟨_, _, _, _, rfl, rfl, h⟩
    · replace h := h.2 z
      refine ⟨fun z => ?_, fun z => ?_⟩
      · replace h := h.1 z
        show Z_J_list g Q 58 [(0, .ref 0), (1, .int x1), (2, .int x2)] [] I1 L2 c3
        refine gx_aload_n 0 dX10_list_58 rfl rfl ?_
        refine gx_getr 10 5 (v := 20) dX10_list_59 fl_X10_68 rfl rfl rfl ?_
        refine gx_getr 8 1 (v := 22) dX10_list_62 fl_X10_165 rfl rfl rfl ?_
        refine gx_iload_n 1 dX10_list_65 rfl rfl ?_
        obtain ⟨hi, h⟩ := h
        refine gx_iald (v := (I1 22 (Int32.toNatClampNeg x1))) dX10_list_66 rfl rfl hi (k := (Int32.toNatClampNeg x1)) rfl rfl ?_
        exact gx_iret dX10_list_67 rfl rfl rfl ⟨_, _, _, _, rfl, rfl, h⟩
      · replace h := h.2 z
        refine ⟨fun z => ?_, fun z => ?_⟩
        · replace h := h.1 z
          show Z_J_list g Q 68 [(0, .ref 0), (1, .int x1), (2, .int x2)] [] I1 L2 c3
          refine gx_aload_n 0 dX10_list_68 rfl rfl ?_
          refine gx_getr 10 5 (v := 20) dX10_list_69 fl_X10_68 rfl rfl rfl ?_
          refine gx_iload_n 1 dX10_list_72 rfl rfl ?_
          refine gx_aload_n 0 dX10_list_73 rfl rfl ?_
          refine gx_getr 10 2 (v := 16) dX10_list_74 fl_X10_65 rfl rfl rfl ?_
          refine gx_geti 1 9 (v := (I1 16 9)) dX10_list_77 fl_X10_168 rfl rfl rfl ?_
          refine gx_callV 8 (As := [.int x1, .int (I1 16 9)]) (st := []) dX10_list_80 ml_X10_172 mm_X8_goalAt rfl rfl rfl rfl rfl rfl ⟨rfl, rfl⟩ h (fun v h2 hq => ?_)
          clear h
          obtain ⟨r8, I5, L6, c7, rfl, rfl, h⟩ := hq
          show Z_J_list g Q 83 [(0, .ref 0), (1, .int x1), (2, .int x2)] [.int r8] I5 L6 c7
          exact gx_iret dX10_list_83 rfl rfl rfl ⟨_, _, _, _, rfl, rfl, h⟩
        · replace h := h.2 z
          refine ⟨fun z => ?_, fun z => ?_⟩
          · replace h := h.1 z
            show Z_J_list g Q 84 [(0, .ref 0), (1, .int x1), (2, .int x2)] [] I1 L2 c3
            refine gx_aload_n 0 dX10_list_84 rfl rfl ?_
            refine gx_getr 10 2 (v := 16) dX10_list_85 fl_X10_65 rfl rfl rfl ?_
            refine gx_geti 1 12 (v := (I1 16 12)) dX10_list_88 fl_X10_148 rfl rfl rfl ?_
            refine gx_if_ne 98 dX10_list_91 (by decide) ⟨fun z => ?_, fun z => ?_⟩
            · replace h := h.1 z
              refine gx_iconst (v := (-1)) dX10_list_94 (by decide) ?_
              refine gx_goto 111 dX10_list_95 (by decide) ?_
              exact gx_iret dX10_list_111 rfl rfl rfl ⟨_, _, _, _, rfl, rfl, h⟩
            · replace h := h.2 z
              refine gx_aload_n 0 dX10_list_98 rfl rfl ?_
              refine gx_aload_n 0 dX10_list_99 rfl rfl ?_
              refine gx_getr 10 5 (v := 20) dX10_list_100 fl_X10_68 rfl rfl rfl ?_
              refine gx_getr 8 0 (v := 21) dX10_list_103 fl_X10_162 rfl rfl rfl ?_
              refine gx_iload_n 1 dX10_list_106 rfl rfl ?_
              obtain ⟨hi, h⟩ := h
              refine gx_iald (v := (I1 21 (Int32.toNatClampNeg x1))) dX10_list_107 rfl rfl hi (k := (Int32.toNatClampNeg x1)) rfl rfl ?_
              refine gx_callV 10 (As := [.int (I1 21 (Int32.toNatClampNeg x1))]) (st := []) dX10_list_108 ml_X10_176 mm_X10_offJar rfl rfl rfl rfl rfl rfl ⟨rfl, rfl⟩ h (fun v h2 hq => ?_)
              clear h
              obtain ⟨r12, I9, L10, c11, rfl, rfl, h⟩ := hq
              show Z_J_list g Q 111 [(0, .ref 0), (1, .int x1), (2, .int x2)] [.int r12] I9 L10 c11
              exact gx_iret dX10_list_111 rfl rfl rfl ⟨_, _, _, _, rfl, rfl, h⟩
          · replace h := h.2 z
            refine ⟨fun z => ?_, fun z => ?_⟩
            · replace h := h.1 z
              show Z_J_list g Q 112 [(0, .ref 0), (1, .int x1), (2, .int x2)] [] I1 L2 c3
              refine gx_aload_n 0 dX10_list_112 rfl rfl ?_
              refine gx_getr 10 5 (v := 20) dX10_list_113 fl_X10_68 rfl rfl rfl ?_
              refine gx_aload_n 0 dX10_list_116 rfl rfl ?_
              refine gx_getr 10 5 (v := 20) dX10_list_117 fl_X10_68 rfl rfl rfl ?_
              refine gx_getr 8 0 (v := 21) dX10_list_120 fl_X10_162 rfl rfl rfl ?_
              refine gx_iload_n 1 dX10_list_123 rfl rfl ?_
              obtain ⟨hi, h⟩ := h
              refine gx_iald (v := (I1 21 (Int32.toNatClampNeg x1))) dX10_list_124 rfl rfl hi (k := (Int32.toNatClampNeg x1)) rfl rfl ?_
              refine gx_callV 8 (As := [.int (I1 21 (Int32.toNatClampNeg x1))]) (st := []) dX10_list_125 ml_X10_179 mm_X8_firstOf rfl rfl rfl rfl rfl rfl ⟨rfl, rfl⟩ h (fun v h2 hq => ?_)
              clear h
              obtain ⟨r16, I13, L14, c15, rfl, rfl, h⟩ := hq
              show Z_J_list g Q 128 [(0, .ref 0), (1, .int x1), (2, .int x2)] [.int r16] I13 L14 c15
              exact gx_iret dX10_list_128 rfl rfl rfl ⟨_, _, _, _, rfl, rfl, h⟩
            · replace h := h.2 z
              show Z_J_list g Q 129 [(0, .ref 0), (1, .int x1), (2, .int x2)] [] I1 L2 c3
              refine gx_bipush (v := (-2)) dX10_list_129 (by decide) ?_
              exact gx_iret dX10_list_131 rfl rfl rfl ⟨_, _, _, _, rfl, rfl, h⟩
abbrev Z_J_isRow (g : gm_G) (Q : Bool → mI → mL → gm_cfg → Prop) (pc : Nat) (lv : List (Nat × Value)) (st : List Value) (I : mI) (L : mL) (c : gm_cfg) : Prop := gm_X g RX10 "isRow" cX10_isRow 1 (some .boolean) 1 0 0 (qZ Q) 0 0 pc lv st (SH, I, L, RR c)
abbrev C_J_isRow (g : gm_G) (x0 : Int32) (I : mI) (L : mL) (c : gm_cfg) (Q : Bool → mI → mL → gm_cfg → Prop) : Prop := gm_Met g yX10_isRow cX10_isRow 1 (some .boolean) 1 0 0 [.int x0] (SH, I, L, RR c) (qZ Q)
set_option maxRecDepth 100000 in
theorem e_J_isRow {g : gm_G} {Q : Bool → mI → mL → gm_cfg → Prop} {x0 : Int32} {I : mI} {L : mL} {c : gm_cfg} (h : ((x0 < 0 → Q false I L c) ∧ (¬ x0 < 0 → ((4 ≤ x0 → Q false I L c) ∧ (¬ 4 ≤ x0 → Q true I L c))))) : C_J_isRow g x0 I L c Q := by
  refine gm_enter (lv := [(0, .int x0)]) (by decide) rfl rfl rfl rfl ?_
  show Z_J_isRow g Q 0 [(0, .int x0)] [] I L c
  refine gx_iload_n 0 dX10_isRow_0 rfl rfl ?_
  refine gx_if_lt 13 dX10_isRow_1 (by decide) ⟨fun z => ?_, fun z => ?_⟩
  · replace h := h.1 z
    refine gx_iconst (v := 0) dX10_isRow_13 (by decide) ?_
    exact gx_zret .boolean dX10_isRow_14 rfl rfl rfl rfl ⟨false, _, _, _, rfl, rfl, h⟩
  · replace h := h.2 z
    refine gx_iload_n 0 dX10_isRow_4 rfl rfl ?_
    refine gx_iconst (v := 4) dX10_isRow_5 (by decide) ?_
    refine gx_icmp_ge 13 dX10_isRow_6 (by decide) ⟨fun z => ?_, fun z => ?_⟩
    · replace h := h.1 z
      refine gx_iconst (v := 0) dX10_isRow_13 (by decide) ?_
      exact gx_zret .boolean dX10_isRow_14 rfl rfl rfl rfl ⟨false, _, _, _, rfl, rfl, h⟩
    · replace h := h.2 z
      refine gx_iconst (v := 1) dX10_isRow_9 (by decide) ?_
      refine gx_goto 14 dX10_isRow_10 (by decide) ?_
      exact gx_zret .boolean dX10_isRow_14 rfl rfl rfl rfl ⟨true, _, _, _, rfl, rfl, h⟩
abbrev Z_J_toldNumber (g : gm_G) (Q : Int32 → mI → mL → gm_cfg → Prop) (pc : Nat) (lv : List (Nat × Value)) (st : List Value) (I : mI) (L : mL) (c : gm_cfg) : Prop := gm_X g RX10 "toldNumber" cX10_toldNumber 2 (some .int) 1 0 0 (qI Q) 0 0 pc lv st (SH, I, L, RR c)
abbrev C_J_toldNumber (g : gm_G) (x0 : Int64) (I : mI) (L : mL) (c : gm_cfg) (Q : Int32 → mI → mL → gm_cfg → Prop) : Prop := gm_Met g yX10_toldNumber cX10_toldNumber 2 (some .int) 1 0 0 [.long x0] (SH, I, L, RR c) (qI Q)
set_option maxRecDepth 100000 in
theorem e_J_toldNumber {g : gm_G} {Q : Int32 → mI → mL → gm_cfg → Prop} {x0 : Int64} {I : mI} {L : mL} {c : gm_cfg} (h : Q (Int64.toInt32 (x0 - x0 / 10000 * 10000)) I L c) : C_J_toldNumber g x0 I L c Q := by
  refine gm_enter (lv := [(0, .long x0)]) (by decide) rfl rfl rfl rfl ?_
  show Z_J_toldNumber g Q 0 [(0, .long x0)] [] I L c
  refine gx_lload_n 0 dX10_toldNumber_0 rfl rfl ?_
  refine gx_ldc2 dX10_toldNumber_1 kl_X10_218 ?_
  refine gx_lrem dX10_toldNumber_4 (by decide) ?_
  refine gx_l2i dX10_toldNumber_5 ?_
  exact gx_iret dX10_toldNumber_6 rfl rfl rfl ⟨_, _, _, _, rfl, rfl, h⟩
abbrev Z_J_tellFault (g : gm_G) (Q : Int32 → mI → mL → gm_cfg → Prop) (pc : Nat) (lv : List (Nat × Value)) (st : List Value) (I : mI) (L : mL) (c : gm_cfg) : Prop := gm_X g RX10 "tellFault" cX10_tellFault 4 (some .int) 2 0 0 (qI Q) 0 0 pc lv st (SH, I, L, RR c)
abbrev C_J_tellFault (g : gm_G) (x1 : Int64) (x3 : Int32) (I : mI) (L : mL) (c : gm_cfg) (Q : Int32 → mI → mL → gm_cfg → Prop) : Prop := gm_Met g yX10_tellFault cX10_tellFault 4 (some .int) 2 0 0 [.ref 0, .long x1, .int x3] (SH, I, L, RR c) (qI Q)
set_option maxRecDepth 100000 in
theorem e_J_tellFault {g : gm_G} {Q : Int32 → mI → mL → gm_cfg → Prop} {x3 : Int32} {x1 : Int64} {I : mI} {L : mL} {c : gm_cfg} (h : (((x1 : Int64) < 0 → Q 1 I L c) ∧ (¬ (x1 : Int64) < 0 → (((10000 * (Int32.toInt64 (I 16 5))) ≤ x1 → Q 1 I L c) ∧ (¬ (10000 * (Int32.toInt64 (I 16 5))) ≤ x1 → (C_J_toldNumber g x1 I L c (fun r4 I1 L2 c3 => (C_J_isNumber g r4 I1 L2 c3 (fun b8 I5 L6 c7 => ((b8 = false → Q 1 I5 L6 c7) ∧ (b8 = true → ((x3 < 40 → Q 0 I5 L6 c7) ∧ (¬ x3 < 40 → Q 2 I5 L6 c7))))))))))))) : C_J_tellFault g x1 x3 I L c Q := by
  refine gm_enter (lv := [(0, .ref 0), (1, .long x1), (3, .int x3)]) (by decide) rfl rfl rfl rfl ?_
  show Z_J_tellFault g Q 0 [(0, .ref 0), (1, .long x1), (3, .int x3)] [] I L c
  refine gx_lload_n 1 dX10_tellFault_0 rfl rfl ?_
  refine gx_lconst (v := 0) dX10_tellFault_1 (by decide) ?_
  refine gx_lcmp_lt 33 dX10_tellFault_2 dX10_tellFault_3 (by decide) ⟨fun z => ?_, fun z => ?_⟩
  · replace h := h.1 z
    refine gx_iconst (v := 1) dX10_tellFault_33 (by decide) ?_
    exact gx_iret dX10_tellFault_34 rfl rfl rfl ⟨_, _, _, _, rfl, rfl, h⟩
  · replace h := h.2 z
    refine gx_lload_n 1 dX10_tellFault_6 rfl rfl ?_
    refine gx_ldc2 dX10_tellFault_7 kl_X10_218 ?_
    refine gx_aload_n 0 dX10_tellFault_10 rfl rfl ?_
    refine gx_getr 10 2 (v := 16) dX10_tellFault_11 fl_X10_65 rfl rfl rfl ?_
    refine gx_geti 1 5 (v := (I 16 5)) dX10_tellFault_14 fl_X10_220 rfl rfl rfl ?_
    refine gx_i2l dX10_tellFault_17 ?_
    refine gx_lmul dX10_tellFault_18 ?_
    refine gx_lcmp_ge 33 dX10_tellFault_19 dX10_tellFault_20 (by decide) ⟨fun z => ?_, fun z => ?_⟩
    · replace h := h.1 z
      refine gx_iconst (v := 1) dX10_tellFault_33 (by decide) ?_
      exact gx_iret dX10_tellFault_34 rfl rfl rfl ⟨_, _, _, _, rfl, rfl, h⟩
    · replace h := h.2 z
      refine gx_lload_n 1 dX10_tellFault_23 rfl rfl ?_
      refine gx_callS (As := [.long x1]) (st := []) dX10_tellFault_24 ml_X10_215 mm_X10_toldNumber rfl rfl rfl rfl ⟨rfl, rfl⟩ h (fun v h2 hq => ?_)
      clear h
      obtain ⟨r4, I1, L2, c3, rfl, rfl, h⟩ := hq
      show Z_J_tellFault g Q 27 [(0, .ref 0), (1, .long x1), (3, .int x3)] [.int r4] I1 L2 c3
      refine gx_callS (As := [.int r4]) (st := []) dX10_tellFault_27 ml_X10_151 mm_X10_isNumber rfl rfl rfl rfl ⟨rfl, rfl⟩ h (fun v h2 hq => ?_)
      clear h
      obtain ⟨b8, I5, L6, c7, rfl, rfl, h⟩ := hq
      show Z_J_tellFault g Q 30 [(0, .ref 0), (1, .long x1), (3, .int x3)] [.int (gm_b b8)] I5 L6 c7
      refine gx_if_ne 35 dX10_tellFault_30 (by decide) ⟨fun z => ?_, fun z => ?_⟩
      · replace h := h.1 (gm_b0.mp z)
        refine gx_iconst (v := 1) dX10_tellFault_33 (by decide) ?_
        exact gx_iret dX10_tellFault_34 rfl rfl rfl ⟨_, _, _, _, rfl, rfl, h⟩
      · replace h := h.2 (gm_bn0 z)
        refine gx_iload_n 2 dX10_tellFault_35 rfl rfl ?_
        refine gx_bipush (v := 40) dX10_tellFault_36 (by decide) ?_
        refine gx_icmp_lt 45 dX10_tellFault_38 (by decide) ⟨fun z => ?_, fun z => ?_⟩
        · replace h := h.1 z
          refine gx_iconst (v := 0) dX10_tellFault_45 (by decide) ?_
          exact gx_iret dX10_tellFault_46 rfl rfl rfl ⟨_, _, _, _, rfl, rfl, h⟩
        · replace h := h.2 z
          refine gx_iconst (v := 2) dX10_tellFault_41 (by decide) ?_
          refine gx_goto 46 dX10_tellFault_42 (by decide) ?_
          exact gx_iret dX10_tellFault_46 rfl rfl rfl ⟨_, _, _, _, rfl, rfl, h⟩
abbrev Z_J_writable_35 (g : gm_G) (Q : Int32 → mI → mL → gm_cfg → Prop) (pc : Nat) (lv : List (Nat × Value)) (st : List Value) (I : mI) (L : mL) (c : gm_cfg) : Prop := gm_X g RX10 "writable" cX10_writable 3 (some .int) 3 0 0 (qI Q) 0 0 pc lv st (SH, I, L, RR c)
abbrev C_J_writable_35 (g : gm_G) (I : mI) (L : mL) (c : gm_cfg) (Q : Int32 → mI → mL → gm_cfg → Prop) : Prop := gm_Met g yX10_writable cX10_writable 3 (some .int) 3 0 0 [.ref 0, .ref 35] (SH, I, L, RR c) (qI Q)
set_option maxRecDepth 100000 in
theorem e_J_writable_35 {g : gm_G} {Q : Int32 → mI → mL → gm_cfg → Prop} {I : mI} {L : mL} {c : gm_cfg} (h : Z_J_writable_35 g Q 2 [(0, .ref 0), (1, .ref 35), (2, .int 0)] [] I L c) : C_J_writable_35 g  I L c Q := by
  refine gm_enter (lv := [(0, .ref 0), (1, .ref 35)]) (by decide) rfl rfl rfl rfl ?_
  show Z_J_writable_35 g Q 0 [(0, .ref 0), (1, .ref 35)] [] I L c
  refine gx_iconst (v := 0) dX10_writable_0 (by decide) ?_
  refine gx_istore_n (lv' := [(0, .ref 0), (1, .ref 35), (2, .int 0)]) dX10_writable_1 rfl rfl rfl ?_
  exact h
set_option maxRecDepth 100000 in
theorem r_J_writable_35_2 {g : gm_G} {Q : Int32 → mI → mL → gm_cfg → Prop} {x2 : Int32} {I : mI} {L : mL} {c : gm_cfg} (h : (((I 35 1) ≤ x2 → Q (I 35 1) I L c) ∧ (¬ (I 35 1) ≤ x2 → (vp_in x2 40 ∧ (C_J_tellFault g (L 36 (Int32.toNatClampNeg x2)) ((I 20 2) + x2) I L c (fun r4 I1 L2 c3 => ((r4 = 0 → Z_J_writable_35 g Q 2 [(0, .ref 0), (1, .ref 35), (2, .int (x2 + 1))] [] I1 L2 c3) ∧ (¬ r4 = 0 → Q x2 I1 L2 c3)))))))) : Z_J_writable_35 g Q 2 [(0, .ref 0), (1, .ref 35), (2, .int x2)] [] I L c := by
  refine gx_iload_n 2 dX10_writable_2 rfl rfl ?_
  refine gx_aload_n 1 dX10_writable_3 rfl rfl ?_
  refine gx_geti 6 1 (v := (I 35 1)) dX10_writable_4 fl_X10_198 rfl rfl rfl ?_
  refine gx_icmp_ge 40 dX10_writable_7 (by decide) ⟨fun z => ?_, fun z => ?_⟩
  · replace h := h.1 z
    refine gx_aload_n 1 dX10_writable_40 rfl rfl ?_
    refine gx_geti 6 1 (v := (I 35 1)) dX10_writable_41 fl_X10_198 rfl rfl rfl ?_
    exact gx_iret dX10_writable_44 rfl rfl rfl ⟨_, _, _, _, rfl, rfl, h⟩
  · replace h := h.2 z
    refine gx_aload_n 0 dX10_writable_10 rfl rfl ?_
    refine gx_aload_n 1 dX10_writable_11 rfl rfl ?_
    refine gx_getr 6 0 (v := 36) dX10_writable_12 fl_X10_199 rfl rfl rfl ?_
    refine gx_iload_n 2 dX10_writable_15 rfl rfl ?_
    obtain ⟨hi, h⟩ := h
    refine gx_lald (v := (L 36 (Int32.toNatClampNeg x2))) dX10_writable_16 rfl rfl hi (k := (Int32.toNatClampNeg x2)) rfl rfl ?_
    refine gx_aload_n 0 dX10_writable_17 rfl rfl ?_
    refine gx_getr 10 5 (v := 20) dX10_writable_18 fl_X10_68 rfl rfl rfl ?_
    refine gx_geti 8 2 (v := (I 20 2)) dX10_writable_21 fl_X10_154 rfl rfl rfl ?_
    refine gx_iload_n 2 dX10_writable_24 rfl rfl ?_
    refine gx_iadd dX10_writable_25 ?_
    refine gx_callV 10 (As := [.long (L 36 (Int32.toNatClampNeg x2)), .int ((I 20 2) + x2)]) (st := []) dX10_writable_26 ml_X10_203 mm_X10_tellFault rfl rfl rfl rfl rfl rfl ⟨rfl, rfl⟩ h (fun v h2 hq => ?_)
    clear h
    obtain ⟨r4, I1, L2, c3, rfl, rfl, h⟩ := hq
    show Z_J_writable_35 g Q 29 [(0, .ref 0), (1, .ref 35), (2, .int x2)] [.int r4] I1 L2 c3
    refine gx_if_eq 34 dX10_writable_29 (by decide) ⟨fun z => ?_, fun z => ?_⟩
    · replace h := h.1 z
      refine gx_iinc (v := (x2 + 1)) (lv' := [(0, .ref 0), (1, .ref 35), (2, .int (x2 + 1))]) 2 dX10_writable_34 rfl rfl rfl rfl ?_
      refine gx_goto 2 dX10_writable_37 (by decide) ?_
      exact h
    · replace h := h.2 z
      refine gx_iload_n 2 dX10_writable_32 rfl rfl ?_
      exact gx_iret dX10_writable_33 rfl rfl rfl ⟨_, _, _, _, rfl, rfl, h⟩
abbrev Z_J_meanWith_35 (g : gm_G) (Q : Int32 → mI → mL → gm_cfg → Prop) (pc : Nat) (lv : List (Nat × Value)) (st : List Value) (I : mI) (L : mL) (c : gm_cfg) : Prop := gm_X g RX10 "meanWith" cX10_meanWith 6 (some .int) 2 0 0 (qI Q) 0 0 pc lv st (SH, I, L, RR c)
abbrev C_J_meanWith_35 (g : gm_G) (x2 : Int32) (I : mI) (L : mL) (c : gm_cfg) (Q : Int32 → mI → mL → gm_cfg → Prop) : Prop := gm_Met g yX10_meanWith cX10_meanWith 6 (some .int) 2 0 0 [.ref 0, .ref 35, .int x2] (SH, I, L, RR c) (qI Q)
set_option maxRecDepth 100000 in
theorem e_J_meanWith_35 {g : gm_G} {Q : Int32 → mI → mL → gm_cfg → Prop} {x2 : Int32} {I : mI} {L : mL} {c : gm_cfg} (h : ((((I 20 2) + x2) = 0 → Q (-1) I L c) ∧ (¬ ((I 20 2) + x2) = 0 → (C_Sh20_sumOf g (I 20 2) I L c (fun r4 I1 L2 c3 => Z_J_meanWith_35 g Q 35 [(0, .ref 0), (1, .ref 35), (2, .int x2), (3, .int ((I 20 2) + x2)), (4, .int r4), (5, .int 0)] [] I1 L2 c3))))) : C_J_meanWith_35 g x2 I L c Q := by
  refine gm_enter (lv := [(0, .ref 0), (1, .ref 35), (2, .int x2)]) (by decide) rfl rfl rfl rfl ?_
  show Z_J_meanWith_35 g Q 0 [(0, .ref 0), (1, .ref 35), (2, .int x2)] [] I L c
  refine gx_aload_n 0 dX10_meanWith_0 rfl rfl ?_
  refine gx_getr 10 5 (v := 20) dX10_meanWith_1 fl_X10_68 rfl rfl rfl ?_
  refine gx_geti 8 2 (v := (I 20 2)) dX10_meanWith_4 fl_X10_154 rfl rfl rfl ?_
  refine gx_iload_n 2 dX10_meanWith_7 rfl rfl ?_
  refine gx_iadd dX10_meanWith_8 ?_
  refine gx_istore_n (lv' := [(0, .ref 0), (1, .ref 35), (2, .int x2), (3, .int ((I 20 2) + x2))]) dX10_meanWith_9 rfl rfl rfl ?_
  refine gx_iload_n 3 dX10_meanWith_10 rfl rfl ?_
  refine gx_if_ne 16 dX10_meanWith_11 (by decide) ⟨fun z => ?_, fun z => ?_⟩
  · replace h := h.1 z
    refine gx_iconst (v := (-1)) dX10_meanWith_14 (by decide) ?_
    exact gx_iret dX10_meanWith_15 rfl rfl rfl ⟨_, _, _, _, rfl, rfl, h⟩
  · replace h := h.2 z
    refine gx_aload_n 0 dX10_meanWith_16 rfl rfl ?_
    refine gx_getr 10 5 (v := 20) dX10_meanWith_17 fl_X10_68 rfl rfl rfl ?_
    refine gx_aload_n 0 dX10_meanWith_20 rfl rfl ?_
    refine gx_getr 10 5 (v := 20) dX10_meanWith_21 fl_X10_68 rfl rfl rfl ?_
    refine gx_geti 8 2 (v := (I 20 2)) dX10_meanWith_24 fl_X10_154 rfl rfl rfl ?_
    refine gx_callV 8 (As := [.int (I 20 2)]) (st := []) dX10_meanWith_27 ml_X10_223 mm_X8_sumOf rfl rfl rfl rfl rfl rfl ⟨rfl, rfl⟩ h (fun v h2 hq => ?_)
    clear h
    obtain ⟨r4, I1, L2, c3, rfl, rfl, h⟩ := hq
    show Z_J_meanWith_35 g Q 30 [(0, .ref 0), (1, .ref 35), (2, .int x2), (3, .int ((I 20 2) + x2))] [.int r4] I1 L2 c3
    refine gx_istore (lv' := [(0, .ref 0), (1, .ref 35), (2, .int x2), (3, .int ((I 20 2) + x2)), (4, .int r4)]) dX10_meanWith_30 rfl rfl ?_
    refine gx_iconst (v := 0) dX10_meanWith_32 (by decide) ?_
    refine gx_istore (lv' := [(0, .ref 0), (1, .ref 35), (2, .int x2), (3, .int ((I 20 2) + x2)), (4, .int r4), (5, .int 0)]) dX10_meanWith_33 rfl rfl ?_
    exact h
set_option maxRecDepth 100000 in
theorem r_J_meanWith_35_35 {g : gm_G} {Q : Int32 → mI → mL → gm_cfg → Prop} {x2 x3 x4 x5 : Int32} {I : mI} {L : mL} {c : gm_cfg} (h : ((x2 ≤ x5 → (¬ x3 = 0 ∧ Q (x4 / x3) I L c)) ∧ (¬ x2 ≤ x5 → (vp_in x5 40 ∧ (C_J_toldNumber g (L 36 (Int32.toNatClampNeg x5)) I L c (fun r4 I1 L2 c3 => Z_J_meanWith_35 g Q 35 [(0, .ref 0), (1, .ref 35), (2, .int x2), (3, .int x3), (4, .int (x4 + r4)), (5, .int (x5 + 1))] [] I1 L2 c3)))))) : Z_J_meanWith_35 g Q 35 [(0, .ref 0), (1, .ref 35), (2, .int x2), (3, .int x3), (4, .int x4), (5, .int x5)] [] I L c := by
  refine gx_iload 5 dX10_meanWith_35 rfl ?_
  refine gx_iload_n 2 dX10_meanWith_37 rfl rfl ?_
  refine gx_icmp_ge 62 dX10_meanWith_38 (by decide) ⟨fun z => ?_, fun z => ?_⟩
  · replace h := h.1 z
    refine gx_iload 4 dX10_meanWith_62 rfl ?_
    refine gx_iload_n 3 dX10_meanWith_64 rfl rfl ?_
    obtain ⟨hn, h⟩ := h
    refine gx_idiv dX10_meanWith_65 hn ?_
    exact gx_iret dX10_meanWith_66 rfl rfl rfl ⟨_, _, _, _, rfl, rfl, h⟩
  · replace h := h.2 z
    refine gx_iload 4 dX10_meanWith_41 rfl ?_
    refine gx_aload_n 1 dX10_meanWith_43 rfl rfl ?_
    refine gx_getr 6 0 (v := 36) dX10_meanWith_44 fl_X10_199 rfl rfl rfl ?_
    refine gx_iload 5 dX10_meanWith_47 rfl ?_
    obtain ⟨hi, h⟩ := h
    refine gx_lald (v := (L 36 (Int32.toNatClampNeg x5))) dX10_meanWith_49 rfl rfl hi (k := (Int32.toNatClampNeg x5)) rfl rfl ?_
    refine gx_callS (As := [.long (L 36 (Int32.toNatClampNeg x5))]) (st := [.int x4]) dX10_meanWith_50 ml_X10_215 mm_X10_toldNumber rfl rfl rfl rfl ⟨rfl, rfl⟩ h (fun v h2 hq => ?_)
    clear h
    obtain ⟨r4, I1, L2, c3, rfl, rfl, h⟩ := hq
    show Z_J_meanWith_35 g Q 53 [(0, .ref 0), (1, .ref 35), (2, .int x2), (3, .int x3), (4, .int x4), (5, .int x5)] [.int r4, .int x4] I1 L2 c3
    refine gx_iadd dX10_meanWith_53 ?_
    refine gx_istore (lv' := [(0, .ref 0), (1, .ref 35), (2, .int x2), (3, .int x3), (4, .int (x4 + r4)), (5, .int x5)]) dX10_meanWith_54 rfl rfl ?_
    refine gx_iinc (v := (x5 + 1)) (lv' := [(0, .ref 0), (1, .ref 35), (2, .int x2), (3, .int x3), (4, .int (x4 + r4)), (5, .int (x5 + 1))]) 5 dX10_meanWith_56 rfl rfl rfl rfl ?_
    refine gx_goto 35 dX10_meanWith_59 (by decide) ?_
    exact h
abbrev Z_J_writable_37 (g : gm_G) (Q : Int32 → mI → mL → gm_cfg → Prop) (pc : Nat) (lv : List (Nat × Value)) (st : List Value) (I : mI) (L : mL) (c : gm_cfg) : Prop := gm_X g RX10 "writable" cX10_writable 3 (some .int) 3 0 0 (qI Q) 0 0 pc lv st (SH, I, L, RR c)
abbrev C_J_writable_37 (g : gm_G) (I : mI) (L : mL) (c : gm_cfg) (Q : Int32 → mI → mL → gm_cfg → Prop) : Prop := gm_Met g yX10_writable cX10_writable 3 (some .int) 3 0 0 [.ref 0, .ref 37] (SH, I, L, RR c) (qI Q)
set_option maxRecDepth 100000 in
theorem e_J_writable_37 {g : gm_G} {Q : Int32 → mI → mL → gm_cfg → Prop} {I : mI} {L : mL} {c : gm_cfg} (h : Z_J_writable_37 g Q 2 [(0, .ref 0), (1, .ref 37), (2, .int 0)] [] I L c) : C_J_writable_37 g  I L c Q := by
  refine gm_enter (lv := [(0, .ref 0), (1, .ref 37)]) (by decide) rfl rfl rfl rfl ?_
  show Z_J_writable_37 g Q 0 [(0, .ref 0), (1, .ref 37)] [] I L c
  refine gx_iconst (v := 0) dX10_writable_0 (by decide) ?_
  refine gx_istore_n (lv' := [(0, .ref 0), (1, .ref 37), (2, .int 0)]) dX10_writable_1 rfl rfl rfl ?_
  exact h
set_option maxRecDepth 100000 in
theorem r_J_writable_37_2 {g : gm_G} {Q : Int32 → mI → mL → gm_cfg → Prop} {x2 : Int32} {I : mI} {L : mL} {c : gm_cfg} (h : (((I 37 1) ≤ x2 → Q (I 37 1) I L c) ∧ (¬ (I 37 1) ≤ x2 → (vp_in x2 40 ∧ (C_J_tellFault g (L 38 (Int32.toNatClampNeg x2)) ((I 20 2) + x2) I L c (fun r4 I1 L2 c3 => ((r4 = 0 → Z_J_writable_37 g Q 2 [(0, .ref 0), (1, .ref 37), (2, .int (x2 + 1))] [] I1 L2 c3) ∧ (¬ r4 = 0 → Q x2 I1 L2 c3)))))))) : Z_J_writable_37 g Q 2 [(0, .ref 0), (1, .ref 37), (2, .int x2)] [] I L c := by
  refine gx_iload_n 2 dX10_writable_2 rfl rfl ?_
  refine gx_aload_n 1 dX10_writable_3 rfl rfl ?_
  refine gx_geti 6 1 (v := (I 37 1)) dX10_writable_4 fl_X10_198 rfl rfl rfl ?_
  refine gx_icmp_ge 40 dX10_writable_7 (by decide) ⟨fun z => ?_, fun z => ?_⟩
  · replace h := h.1 z
    refine gx_aload_n 1 dX10_writable_40 rfl rfl ?_
    refine gx_geti 6 1 (v := (I 37 1)) dX10_writable_41 fl_X10_198 rfl rfl rfl ?_
    exact gx_iret dX10_writable_44 rfl rfl rfl ⟨_, _, _, _, rfl, rfl, h⟩
  · replace h := h.2 z
    refine gx_aload_n 0 dX10_writable_10 rfl rfl ?_
    refine gx_aload_n 1 dX10_writable_11 rfl rfl ?_
    refine gx_getr 6 0 (v := 38) dX10_writable_12 fl_X10_199 rfl rfl rfl ?_
    refine gx_iload_n 2 dX10_writable_15 rfl rfl ?_
    obtain ⟨hi, h⟩ := h
    refine gx_lald (v := (L 38 (Int32.toNatClampNeg x2))) dX10_writable_16 rfl rfl hi (k := (Int32.toNatClampNeg x2)) rfl rfl ?_
    refine gx_aload_n 0 dX10_writable_17 rfl rfl ?_
    refine gx_getr 10 5 (v := 20) dX10_writable_18 fl_X10_68 rfl rfl rfl ?_
    refine gx_geti 8 2 (v := (I 20 2)) dX10_writable_21 fl_X10_154 rfl rfl rfl ?_
    refine gx_iload_n 2 dX10_writable_24 rfl rfl ?_
    refine gx_iadd dX10_writable_25 ?_
    refine gx_callV 10 (As := [.long (L 38 (Int32.toNatClampNeg x2)), .int ((I 20 2) + x2)]) (st := []) dX10_writable_26 ml_X10_203 mm_X10_tellFault rfl rfl rfl rfl rfl rfl ⟨rfl, rfl⟩ h (fun v h2 hq => ?_)
    clear h
    obtain ⟨r4, I1, L2, c3, rfl, rfl, h⟩ := hq
    show Z_J_writable_37 g Q 29 [(0, .ref 0), (1, .ref 37), (2, .int x2)] [.int r4] I1 L2 c3
    refine gx_if_eq 34 dX10_writable_29 (by decide) ⟨fun z => ?_, fun z => ?_⟩
    · replace h := h.1 z
      refine gx_iinc (v := (x2 + 1)) (lv' := [(0, .ref 0), (1, .ref 37), (2, .int (x2 + 1))]) 2 dX10_writable_34 rfl rfl rfl rfl ?_
      refine gx_goto 2 dX10_writable_37 (by decide) ?_
      exact h
    · replace h := h.2 z
      refine gx_iload_n 2 dX10_writable_32 rfl rfl ?_
      exact gx_iret dX10_writable_33 rfl rfl rfl ⟨_, _, _, _, rfl, rfl, h⟩
abbrev Z_J_meanWith_37 (g : gm_G) (Q : Int32 → mI → mL → gm_cfg → Prop) (pc : Nat) (lv : List (Nat × Value)) (st : List Value) (I : mI) (L : mL) (c : gm_cfg) : Prop := gm_X g RX10 "meanWith" cX10_meanWith 6 (some .int) 2 0 0 (qI Q) 0 0 pc lv st (SH, I, L, RR c)
abbrev C_J_meanWith_37 (g : gm_G) (x2 : Int32) (I : mI) (L : mL) (c : gm_cfg) (Q : Int32 → mI → mL → gm_cfg → Prop) : Prop := gm_Met g yX10_meanWith cX10_meanWith 6 (some .int) 2 0 0 [.ref 0, .ref 37, .int x2] (SH, I, L, RR c) (qI Q)
set_option maxRecDepth 100000 in
theorem e_J_meanWith_37 {g : gm_G} {Q : Int32 → mI → mL → gm_cfg → Prop} {x2 : Int32} {I : mI} {L : mL} {c : gm_cfg} (h : ((((I 20 2) + x2) = 0 → Q (-1) I L c) ∧ (¬ ((I 20 2) + x2) = 0 → (C_Sh20_sumOf g (I 20 2) I L c (fun r4 I1 L2 c3 => Z_J_meanWith_37 g Q 35 [(0, .ref 0), (1, .ref 37), (2, .int x2), (3, .int ((I 20 2) + x2)), (4, .int r4), (5, .int 0)] [] I1 L2 c3))))) : C_J_meanWith_37 g x2 I L c Q := by
  refine gm_enter (lv := [(0, .ref 0), (1, .ref 37), (2, .int x2)]) (by decide) rfl rfl rfl rfl ?_
  show Z_J_meanWith_37 g Q 0 [(0, .ref 0), (1, .ref 37), (2, .int x2)] [] I L c
  refine gx_aload_n 0 dX10_meanWith_0 rfl rfl ?_
  refine gx_getr 10 5 (v := 20) dX10_meanWith_1 fl_X10_68 rfl rfl rfl ?_
  refine gx_geti 8 2 (v := (I 20 2)) dX10_meanWith_4 fl_X10_154 rfl rfl rfl ?_
  refine gx_iload_n 2 dX10_meanWith_7 rfl rfl ?_
  refine gx_iadd dX10_meanWith_8 ?_
  refine gx_istore_n (lv' := [(0, .ref 0), (1, .ref 37), (2, .int x2), (3, .int ((I 20 2) + x2))]) dX10_meanWith_9 rfl rfl rfl ?_
  refine gx_iload_n 3 dX10_meanWith_10 rfl rfl ?_
  refine gx_if_ne 16 dX10_meanWith_11 (by decide) ⟨fun z => ?_, fun z => ?_⟩
  · replace h := h.1 z
    refine gx_iconst (v := (-1)) dX10_meanWith_14 (by decide) ?_
    exact gx_iret dX10_meanWith_15 rfl rfl rfl ⟨_, _, _, _, rfl, rfl, h⟩
  · replace h := h.2 z
    refine gx_aload_n 0 dX10_meanWith_16 rfl rfl ?_
    refine gx_getr 10 5 (v := 20) dX10_meanWith_17 fl_X10_68 rfl rfl rfl ?_
    refine gx_aload_n 0 dX10_meanWith_20 rfl rfl ?_
    refine gx_getr 10 5 (v := 20) dX10_meanWith_21 fl_X10_68 rfl rfl rfl ?_
    refine gx_geti 8 2 (v := (I 20 2)) dX10_meanWith_24 fl_X10_154 rfl rfl rfl ?_
    refine gx_callV 8 (As := [.int (I 20 2)]) (st := []) dX10_meanWith_27 ml_X10_223 mm_X8_sumOf rfl rfl rfl rfl rfl rfl ⟨rfl, rfl⟩ h (fun v h2 hq => ?_)
    clear h
    obtain ⟨r4, I1, L2, c3, rfl, rfl, h⟩ := hq
    show Z_J_meanWith_37 g Q 30 [(0, .ref 0), (1, .ref 37), (2, .int x2), (3, .int ((I 20 2) + x2))] [.int r4] I1 L2 c3
    refine gx_istore (lv' := [(0, .ref 0), (1, .ref 37), (2, .int x2), (3, .int ((I 20 2) + x2)), (4, .int r4)]) dX10_meanWith_30 rfl rfl ?_
    refine gx_iconst (v := 0) dX10_meanWith_32 (by decide) ?_
    refine gx_istore (lv' := [(0, .ref 0), (1, .ref 37), (2, .int x2), (3, .int ((I 20 2) + x2)), (4, .int r4), (5, .int 0)]) dX10_meanWith_33 rfl rfl ?_
    exact h
set_option maxRecDepth 100000 in
theorem r_J_meanWith_37_35 {g : gm_G} {Q : Int32 → mI → mL → gm_cfg → Prop} {x2 x3 x4 x5 : Int32} {I : mI} {L : mL} {c : gm_cfg} (h : ((x2 ≤ x5 → (¬ x3 = 0 ∧ Q (x4 / x3) I L c)) ∧ (¬ x2 ≤ x5 → (vp_in x5 40 ∧ (C_J_toldNumber g (L 38 (Int32.toNatClampNeg x5)) I L c (fun r4 I1 L2 c3 => Z_J_meanWith_37 g Q 35 [(0, .ref 0), (1, .ref 37), (2, .int x2), (3, .int x3), (4, .int (x4 + r4)), (5, .int (x5 + 1))] [] I1 L2 c3)))))) : Z_J_meanWith_37 g Q 35 [(0, .ref 0), (1, .ref 37), (2, .int x2), (3, .int x3), (4, .int x4), (5, .int x5)] [] I L c := by
  refine gx_iload 5 dX10_meanWith_35 rfl ?_
  refine gx_iload_n 2 dX10_meanWith_37 rfl rfl ?_
  refine gx_icmp_ge 62 dX10_meanWith_38 (by decide) ⟨fun z => ?_, fun z => ?_⟩
  · replace h := h.1 z
    refine gx_iload 4 dX10_meanWith_62 rfl ?_
    refine gx_iload_n 3 dX10_meanWith_64 rfl rfl ?_
    obtain ⟨hn, h⟩ := h
    refine gx_idiv dX10_meanWith_65 hn ?_
    exact gx_iret dX10_meanWith_66 rfl rfl rfl ⟨_, _, _, _, rfl, rfl, h⟩
  · replace h := h.2 z
    refine gx_iload 4 dX10_meanWith_41 rfl ?_
    refine gx_aload_n 1 dX10_meanWith_43 rfl rfl ?_
    refine gx_getr 6 0 (v := 38) dX10_meanWith_44 fl_X10_199 rfl rfl rfl ?_
    refine gx_iload 5 dX10_meanWith_47 rfl ?_
    obtain ⟨hi, h⟩ := h
    refine gx_lald (v := (L 38 (Int32.toNatClampNeg x5))) dX10_meanWith_49 rfl rfl hi (k := (Int32.toNatClampNeg x5)) rfl rfl ?_
    refine gx_callS (As := [.long (L 38 (Int32.toNatClampNeg x5))]) (st := [.int x4]) dX10_meanWith_50 ml_X10_215 mm_X10_toldNumber rfl rfl rfl rfl ⟨rfl, rfl⟩ h (fun v h2 hq => ?_)
    clear h
    obtain ⟨r4, I1, L2, c3, rfl, rfl, h⟩ := hq
    show Z_J_meanWith_37 g Q 53 [(0, .ref 0), (1, .ref 37), (2, .int x2), (3, .int x3), (4, .int x4), (5, .int x5)] [.int r4, .int x4] I1 L2 c3
    refine gx_iadd dX10_meanWith_53 ?_
    refine gx_istore (lv' := [(0, .ref 0), (1, .ref 37), (2, .int x2), (3, .int x3), (4, .int (x4 + r4)), (5, .int x5)]) dX10_meanWith_54 rfl rfl ?_
    refine gx_iinc (v := (x5 + 1)) (lv' := [(0, .ref 0), (1, .ref 37), (2, .int x2), (3, .int x3), (4, .int (x4 + r4)), (5, .int (x5 + 1))]) 5 dX10_meanWith_56 rfl rfl rfl rfl ?_
    refine gx_goto 35 dX10_meanWith_59 (by decide) ?_
    exact h
abbrev Z_J_writable_39 (g : gm_G) (Q : Int32 → mI → mL → gm_cfg → Prop) (pc : Nat) (lv : List (Nat × Value)) (st : List Value) (I : mI) (L : mL) (c : gm_cfg) : Prop := gm_X g RX10 "writable" cX10_writable 3 (some .int) 3 0 0 (qI Q) 0 0 pc lv st (SH, I, L, RR c)
abbrev C_J_writable_39 (g : gm_G) (I : mI) (L : mL) (c : gm_cfg) (Q : Int32 → mI → mL → gm_cfg → Prop) : Prop := gm_Met g yX10_writable cX10_writable 3 (some .int) 3 0 0 [.ref 0, .ref 39] (SH, I, L, RR c) (qI Q)
set_option maxRecDepth 100000 in
theorem e_J_writable_39 {g : gm_G} {Q : Int32 → mI → mL → gm_cfg → Prop} {I : mI} {L : mL} {c : gm_cfg} (h : Z_J_writable_39 g Q 2 [(0, .ref 0), (1, .ref 39), (2, .int 0)] [] I L c) : C_J_writable_39 g  I L c Q := by
  refine gm_enter (lv := [(0, .ref 0), (1, .ref 39)]) (by decide) rfl rfl rfl rfl ?_
  show Z_J_writable_39 g Q 0 [(0, .ref 0), (1, .ref 39)] [] I L c
  refine gx_iconst (v := 0) dX10_writable_0 (by decide) ?_
  refine gx_istore_n (lv' := [(0, .ref 0), (1, .ref 39), (2, .int 0)]) dX10_writable_1 rfl rfl rfl ?_
  exact h
set_option maxRecDepth 100000 in
theorem r_J_writable_39_2 {g : gm_G} {Q : Int32 → mI → mL → gm_cfg → Prop} {x2 : Int32} {I : mI} {L : mL} {c : gm_cfg} (h : (((I 39 1) ≤ x2 → Q (I 39 1) I L c) ∧ (¬ (I 39 1) ≤ x2 → (vp_in x2 40 ∧ (C_J_tellFault g (L 40 (Int32.toNatClampNeg x2)) ((I 20 2) + x2) I L c (fun r4 I1 L2 c3 => ((r4 = 0 → Z_J_writable_39 g Q 2 [(0, .ref 0), (1, .ref 39), (2, .int (x2 + 1))] [] I1 L2 c3) ∧ (¬ r4 = 0 → Q x2 I1 L2 c3)))))))) : Z_J_writable_39 g Q 2 [(0, .ref 0), (1, .ref 39), (2, .int x2)] [] I L c := by
  refine gx_iload_n 2 dX10_writable_2 rfl rfl ?_
  refine gx_aload_n 1 dX10_writable_3 rfl rfl ?_
  refine gx_geti 6 1 (v := (I 39 1)) dX10_writable_4 fl_X10_198 rfl rfl rfl ?_
  refine gx_icmp_ge 40 dX10_writable_7 (by decide) ⟨fun z => ?_, fun z => ?_⟩
  · replace h := h.1 z
    refine gx_aload_n 1 dX10_writable_40 rfl rfl ?_
    refine gx_geti 6 1 (v := (I 39 1)) dX10_writable_41 fl_X10_198 rfl rfl rfl ?_
    exact gx_iret dX10_writable_44 rfl rfl rfl ⟨_, _, _, _, rfl, rfl, h⟩
  · replace h := h.2 z
    refine gx_aload_n 0 dX10_writable_10 rfl rfl ?_
    refine gx_aload_n 1 dX10_writable_11 rfl rfl ?_
    refine gx_getr 6 0 (v := 40) dX10_writable_12 fl_X10_199 rfl rfl rfl ?_
    refine gx_iload_n 2 dX10_writable_15 rfl rfl ?_
    obtain ⟨hi, h⟩ := h
    refine gx_lald (v := (L 40 (Int32.toNatClampNeg x2))) dX10_writable_16 rfl rfl hi (k := (Int32.toNatClampNeg x2)) rfl rfl ?_
    refine gx_aload_n 0 dX10_writable_17 rfl rfl ?_
    refine gx_getr 10 5 (v := 20) dX10_writable_18 fl_X10_68 rfl rfl rfl ?_
    refine gx_geti 8 2 (v := (I 20 2)) dX10_writable_21 fl_X10_154 rfl rfl rfl ?_
    refine gx_iload_n 2 dX10_writable_24 rfl rfl ?_
    refine gx_iadd dX10_writable_25 ?_
    refine gx_callV 10 (As := [.long (L 40 (Int32.toNatClampNeg x2)), .int ((I 20 2) + x2)]) (st := []) dX10_writable_26 ml_X10_203 mm_X10_tellFault rfl rfl rfl rfl rfl rfl ⟨rfl, rfl⟩ h (fun v h2 hq => ?_)
    clear h
    obtain ⟨r4, I1, L2, c3, rfl, rfl, h⟩ := hq
    show Z_J_writable_39 g Q 29 [(0, .ref 0), (1, .ref 39), (2, .int x2)] [.int r4] I1 L2 c3
    refine gx_if_eq 34 dX10_writable_29 (by decide) ⟨fun z => ?_, fun z => ?_⟩
    · replace h := h.1 z
      refine gx_iinc (v := (x2 + 1)) (lv' := [(0, .ref 0), (1, .ref 39), (2, .int (x2 + 1))]) 2 dX10_writable_34 rfl rfl rfl rfl ?_
      refine gx_goto 2 dX10_writable_37 (by decide) ?_
      exact h
    · replace h := h.2 z
      refine gx_iload_n 2 dX10_writable_32 rfl rfl ?_
      exact gx_iret dX10_writable_33 rfl rfl rfl ⟨_, _, _, _, rfl, rfl, h⟩
abbrev Z_J_meanWith_39 (g : gm_G) (Q : Int32 → mI → mL → gm_cfg → Prop) (pc : Nat) (lv : List (Nat × Value)) (st : List Value) (I : mI) (L : mL) (c : gm_cfg) : Prop := gm_X g RX10 "meanWith" cX10_meanWith 6 (some .int) 2 0 0 (qI Q) 0 0 pc lv st (SH, I, L, RR c)
abbrev C_J_meanWith_39 (g : gm_G) (x2 : Int32) (I : mI) (L : mL) (c : gm_cfg) (Q : Int32 → mI → mL → gm_cfg → Prop) : Prop := gm_Met g yX10_meanWith cX10_meanWith 6 (some .int) 2 0 0 [.ref 0, .ref 39, .int x2] (SH, I, L, RR c) (qI Q)
set_option maxRecDepth 100000 in
theorem e_J_meanWith_39 {g : gm_G} {Q : Int32 → mI → mL → gm_cfg → Prop} {x2 : Int32} {I : mI} {L : mL} {c : gm_cfg} (h : ((((I 20 2) + x2) = 0 → Q (-1) I L c) ∧ (¬ ((I 20 2) + x2) = 0 → (C_Sh20_sumOf g (I 20 2) I L c (fun r4 I1 L2 c3 => Z_J_meanWith_39 g Q 35 [(0, .ref 0), (1, .ref 39), (2, .int x2), (3, .int ((I 20 2) + x2)), (4, .int r4), (5, .int 0)] [] I1 L2 c3))))) : C_J_meanWith_39 g x2 I L c Q := by
  refine gm_enter (lv := [(0, .ref 0), (1, .ref 39), (2, .int x2)]) (by decide) rfl rfl rfl rfl ?_
  show Z_J_meanWith_39 g Q 0 [(0, .ref 0), (1, .ref 39), (2, .int x2)] [] I L c
  refine gx_aload_n 0 dX10_meanWith_0 rfl rfl ?_
  refine gx_getr 10 5 (v := 20) dX10_meanWith_1 fl_X10_68 rfl rfl rfl ?_
  refine gx_geti 8 2 (v := (I 20 2)) dX10_meanWith_4 fl_X10_154 rfl rfl rfl ?_
  refine gx_iload_n 2 dX10_meanWith_7 rfl rfl ?_
  refine gx_iadd dX10_meanWith_8 ?_
  refine gx_istore_n (lv' := [(0, .ref 0), (1, .ref 39), (2, .int x2), (3, .int ((I 20 2) + x2))]) dX10_meanWith_9 rfl rfl rfl ?_
  refine gx_iload_n 3 dX10_meanWith_10 rfl rfl ?_
  refine gx_if_ne 16 dX10_meanWith_11 (by decide) ⟨fun z => ?_, fun z => ?_⟩
  · replace h := h.1 z
    refine gx_iconst (v := (-1)) dX10_meanWith_14 (by decide) ?_
    exact gx_iret dX10_meanWith_15 rfl rfl rfl ⟨_, _, _, _, rfl, rfl, h⟩
  · replace h := h.2 z
    refine gx_aload_n 0 dX10_meanWith_16 rfl rfl ?_
    refine gx_getr 10 5 (v := 20) dX10_meanWith_17 fl_X10_68 rfl rfl rfl ?_
    refine gx_aload_n 0 dX10_meanWith_20 rfl rfl ?_
    refine gx_getr 10 5 (v := 20) dX10_meanWith_21 fl_X10_68 rfl rfl rfl ?_
    refine gx_geti 8 2 (v := (I 20 2)) dX10_meanWith_24 fl_X10_154 rfl rfl rfl ?_
    refine gx_callV 8 (As := [.int (I 20 2)]) (st := []) dX10_meanWith_27 ml_X10_223 mm_X8_sumOf rfl rfl rfl rfl rfl rfl ⟨rfl, rfl⟩ h (fun v h2 hq => ?_)
    clear h
    obtain ⟨r4, I1, L2, c3, rfl, rfl, h⟩ := hq
    show Z_J_meanWith_39 g Q 30 [(0, .ref 0), (1, .ref 39), (2, .int x2), (3, .int ((I 20 2) + x2))] [.int r4] I1 L2 c3
    refine gx_istore (lv' := [(0, .ref 0), (1, .ref 39), (2, .int x2), (3, .int ((I 20 2) + x2)), (4, .int r4)]) dX10_meanWith_30 rfl rfl ?_
    refine gx_iconst (v := 0) dX10_meanWith_32 (by decide) ?_
    refine gx_istore (lv' := [(0, .ref 0), (1, .ref 39), (2, .int x2), (3, .int ((I 20 2) + x2)), (4, .int r4), (5, .int 0)]) dX10_meanWith_33 rfl rfl ?_
    exact h
set_option maxRecDepth 100000 in
theorem r_J_meanWith_39_35 {g : gm_G} {Q : Int32 → mI → mL → gm_cfg → Prop} {x2 x3 x4 x5 : Int32} {I : mI} {L : mL} {c : gm_cfg} (h : ((x2 ≤ x5 → (¬ x3 = 0 ∧ Q (x4 / x3) I L c)) ∧ (¬ x2 ≤ x5 → (vp_in x5 40 ∧ (C_J_toldNumber g (L 40 (Int32.toNatClampNeg x5)) I L c (fun r4 I1 L2 c3 => Z_J_meanWith_39 g Q 35 [(0, .ref 0), (1, .ref 39), (2, .int x2), (3, .int x3), (4, .int (x4 + r4)), (5, .int (x5 + 1))] [] I1 L2 c3)))))) : Z_J_meanWith_39 g Q 35 [(0, .ref 0), (1, .ref 39), (2, .int x2), (3, .int x3), (4, .int x4), (5, .int x5)] [] I L c := by
  refine gx_iload 5 dX10_meanWith_35 rfl ?_
  refine gx_iload_n 2 dX10_meanWith_37 rfl rfl ?_
  refine gx_icmp_ge 62 dX10_meanWith_38 (by decide) ⟨fun z => ?_, fun z => ?_⟩
  · replace h := h.1 z
    refine gx_iload 4 dX10_meanWith_62 rfl ?_
    refine gx_iload_n 3 dX10_meanWith_64 rfl rfl ?_
    obtain ⟨hn, h⟩ := h
    refine gx_idiv dX10_meanWith_65 hn ?_
    exact gx_iret dX10_meanWith_66 rfl rfl rfl ⟨_, _, _, _, rfl, rfl, h⟩
  · replace h := h.2 z
    refine gx_iload 4 dX10_meanWith_41 rfl ?_
    refine gx_aload_n 1 dX10_meanWith_43 rfl rfl ?_
    refine gx_getr 6 0 (v := 40) dX10_meanWith_44 fl_X10_199 rfl rfl rfl ?_
    refine gx_iload 5 dX10_meanWith_47 rfl ?_
    obtain ⟨hi, h⟩ := h
    refine gx_lald (v := (L 40 (Int32.toNatClampNeg x5))) dX10_meanWith_49 rfl rfl hi (k := (Int32.toNatClampNeg x5)) rfl rfl ?_
    refine gx_callS (As := [.long (L 40 (Int32.toNatClampNeg x5))]) (st := [.int x4]) dX10_meanWith_50 ml_X10_215 mm_X10_toldNumber rfl rfl rfl rfl ⟨rfl, rfl⟩ h (fun v h2 hq => ?_)
    clear h
    obtain ⟨r4, I1, L2, c3, rfl, rfl, h⟩ := hq
    show Z_J_meanWith_39 g Q 53 [(0, .ref 0), (1, .ref 39), (2, .int x2), (3, .int x3), (4, .int x4), (5, .int x5)] [.int r4, .int x4] I1 L2 c3
    refine gx_iadd dX10_meanWith_53 ?_
    refine gx_istore (lv' := [(0, .ref 0), (1, .ref 39), (2, .int x2), (3, .int x3), (4, .int (x4 + r4)), (5, .int x5)]) dX10_meanWith_54 rfl rfl ?_
    refine gx_iinc (v := (x5 + 1)) (lv' := [(0, .ref 0), (1, .ref 39), (2, .int x2), (3, .int x3), (4, .int (x4 + r4)), (5, .int (x5 + 1))]) 5 dX10_meanWith_56 rfl rfl rfl rfl ?_
    refine gx_goto 35 dX10_meanWith_59 (by decide) ?_
    exact h
abbrev Z_J_writable_41 (g : gm_G) (Q : Int32 → mI → mL → gm_cfg → Prop) (pc : Nat) (lv : List (Nat × Value)) (st : List Value) (I : mI) (L : mL) (c : gm_cfg) : Prop := gm_X g RX10 "writable" cX10_writable 3 (some .int) 3 0 0 (qI Q) 0 0 pc lv st (SH, I, L, RR c)
abbrev C_J_writable_41 (g : gm_G) (I : mI) (L : mL) (c : gm_cfg) (Q : Int32 → mI → mL → gm_cfg → Prop) : Prop := gm_Met g yX10_writable cX10_writable 3 (some .int) 3 0 0 [.ref 0, .ref 41] (SH, I, L, RR c) (qI Q)
set_option maxRecDepth 100000 in
theorem e_J_writable_41 {g : gm_G} {Q : Int32 → mI → mL → gm_cfg → Prop} {I : mI} {L : mL} {c : gm_cfg} (h : Z_J_writable_41 g Q 2 [(0, .ref 0), (1, .ref 41), (2, .int 0)] [] I L c) : C_J_writable_41 g  I L c Q := by
  refine gm_enter (lv := [(0, .ref 0), (1, .ref 41)]) (by decide) rfl rfl rfl rfl ?_
  show Z_J_writable_41 g Q 0 [(0, .ref 0), (1, .ref 41)] [] I L c
  refine gx_iconst (v := 0) dX10_writable_0 (by decide) ?_
  refine gx_istore_n (lv' := [(0, .ref 0), (1, .ref 41), (2, .int 0)]) dX10_writable_1 rfl rfl rfl ?_
  exact h
set_option maxRecDepth 100000 in
theorem r_J_writable_41_2 {g : gm_G} {Q : Int32 → mI → mL → gm_cfg → Prop} {x2 : Int32} {I : mI} {L : mL} {c : gm_cfg} (h : (((I 41 1) ≤ x2 → Q (I 41 1) I L c) ∧ (¬ (I 41 1) ≤ x2 → (vp_in x2 40 ∧ (C_J_tellFault g (L 42 (Int32.toNatClampNeg x2)) ((I 20 2) + x2) I L c (fun r4 I1 L2 c3 => ((r4 = 0 → Z_J_writable_41 g Q 2 [(0, .ref 0), (1, .ref 41), (2, .int (x2 + 1))] [] I1 L2 c3) ∧ (¬ r4 = 0 → Q x2 I1 L2 c3)))))))) : Z_J_writable_41 g Q 2 [(0, .ref 0), (1, .ref 41), (2, .int x2)] [] I L c := by
  refine gx_iload_n 2 dX10_writable_2 rfl rfl ?_
  refine gx_aload_n 1 dX10_writable_3 rfl rfl ?_
  refine gx_geti 6 1 (v := (I 41 1)) dX10_writable_4 fl_X10_198 rfl rfl rfl ?_
  refine gx_icmp_ge 40 dX10_writable_7 (by decide) ⟨fun z => ?_, fun z => ?_⟩
  · replace h := h.1 z
    refine gx_aload_n 1 dX10_writable_40 rfl rfl ?_
    refine gx_geti 6 1 (v := (I 41 1)) dX10_writable_41 fl_X10_198 rfl rfl rfl ?_
    exact gx_iret dX10_writable_44 rfl rfl rfl ⟨_, _, _, _, rfl, rfl, h⟩
  · replace h := h.2 z
    refine gx_aload_n 0 dX10_writable_10 rfl rfl ?_
    refine gx_aload_n 1 dX10_writable_11 rfl rfl ?_
    refine gx_getr 6 0 (v := 42) dX10_writable_12 fl_X10_199 rfl rfl rfl ?_
    refine gx_iload_n 2 dX10_writable_15 rfl rfl ?_
    obtain ⟨hi, h⟩ := h
    refine gx_lald (v := (L 42 (Int32.toNatClampNeg x2))) dX10_writable_16 rfl rfl hi (k := (Int32.toNatClampNeg x2)) rfl rfl ?_
    refine gx_aload_n 0 dX10_writable_17 rfl rfl ?_
    refine gx_getr 10 5 (v := 20) dX10_writable_18 fl_X10_68 rfl rfl rfl ?_
    refine gx_geti 8 2 (v := (I 20 2)) dX10_writable_21 fl_X10_154 rfl rfl rfl ?_
    refine gx_iload_n 2 dX10_writable_24 rfl rfl ?_
    refine gx_iadd dX10_writable_25 ?_
    refine gx_callV 10 (As := [.long (L 42 (Int32.toNatClampNeg x2)), .int ((I 20 2) + x2)]) (st := []) dX10_writable_26 ml_X10_203 mm_X10_tellFault rfl rfl rfl rfl rfl rfl ⟨rfl, rfl⟩ h (fun v h2 hq => ?_)
    clear h
    obtain ⟨r4, I1, L2, c3, rfl, rfl, h⟩ := hq
    show Z_J_writable_41 g Q 29 [(0, .ref 0), (1, .ref 41), (2, .int x2)] [.int r4] I1 L2 c3
    refine gx_if_eq 34 dX10_writable_29 (by decide) ⟨fun z => ?_, fun z => ?_⟩
    · replace h := h.1 z
      refine gx_iinc (v := (x2 + 1)) (lv' := [(0, .ref 0), (1, .ref 41), (2, .int (x2 + 1))]) 2 dX10_writable_34 rfl rfl rfl rfl ?_
      refine gx_goto 2 dX10_writable_37 (by decide) ?_
      exact h
    · replace h := h.2 z
      refine gx_iload_n 2 dX10_writable_32 rfl rfl ?_
      exact gx_iret dX10_writable_33 rfl rfl rfl ⟨_, _, _, _, rfl, rfl, h⟩
abbrev Z_J_meanWith_41 (g : gm_G) (Q : Int32 → mI → mL → gm_cfg → Prop) (pc : Nat) (lv : List (Nat × Value)) (st : List Value) (I : mI) (L : mL) (c : gm_cfg) : Prop := gm_X g RX10 "meanWith" cX10_meanWith 6 (some .int) 2 0 0 (qI Q) 0 0 pc lv st (SH, I, L, RR c)
abbrev C_J_meanWith_41 (g : gm_G) (x2 : Int32) (I : mI) (L : mL) (c : gm_cfg) (Q : Int32 → mI → mL → gm_cfg → Prop) : Prop := gm_Met g yX10_meanWith cX10_meanWith 6 (some .int) 2 0 0 [.ref 0, .ref 41, .int x2] (SH, I, L, RR c) (qI Q)
set_option maxRecDepth 100000 in
theorem e_J_meanWith_41 {g : gm_G} {Q : Int32 → mI → mL → gm_cfg → Prop} {x2 : Int32} {I : mI} {L : mL} {c : gm_cfg} (h : ((((I 20 2) + x2) = 0 → Q (-1) I L c) ∧ (¬ ((I 20 2) + x2) = 0 → (C_Sh20_sumOf g (I 20 2) I L c (fun r4 I1 L2 c3 => Z_J_meanWith_41 g Q 35 [(0, .ref 0), (1, .ref 41), (2, .int x2), (3, .int ((I 20 2) + x2)), (4, .int r4), (5, .int 0)] [] I1 L2 c3))))) : C_J_meanWith_41 g x2 I L c Q := by
  refine gm_enter (lv := [(0, .ref 0), (1, .ref 41), (2, .int x2)]) (by decide) rfl rfl rfl rfl ?_
  show Z_J_meanWith_41 g Q 0 [(0, .ref 0), (1, .ref 41), (2, .int x2)] [] I L c
  refine gx_aload_n 0 dX10_meanWith_0 rfl rfl ?_
  refine gx_getr 10 5 (v := 20) dX10_meanWith_1 fl_X10_68 rfl rfl rfl ?_
  refine gx_geti 8 2 (v := (I 20 2)) dX10_meanWith_4 fl_X10_154 rfl rfl rfl ?_
  refine gx_iload_n 2 dX10_meanWith_7 rfl rfl ?_
  refine gx_iadd dX10_meanWith_8 ?_
  refine gx_istore_n (lv' := [(0, .ref 0), (1, .ref 41), (2, .int x2), (3, .int ((I 20 2) + x2))]) dX10_meanWith_9 rfl rfl rfl ?_
  refine gx_iload_n 3 dX10_meanWith_10 rfl rfl ?_
  refine gx_if_ne 16 dX10_meanWith_11 (by decide) ⟨fun z => ?_, fun z => ?_⟩
  · replace h := h.1 z
    refine gx_iconst (v := (-1)) dX10_meanWith_14 (by decide) ?_
    exact gx_iret dX10_meanWith_15 rfl rfl rfl ⟨_, _, _, _, rfl, rfl, h⟩
  · replace h := h.2 z
    refine gx_aload_n 0 dX10_meanWith_16 rfl rfl ?_
    refine gx_getr 10 5 (v := 20) dX10_meanWith_17 fl_X10_68 rfl rfl rfl ?_
    refine gx_aload_n 0 dX10_meanWith_20 rfl rfl ?_
    refine gx_getr 10 5 (v := 20) dX10_meanWith_21 fl_X10_68 rfl rfl rfl ?_
    refine gx_geti 8 2 (v := (I 20 2)) dX10_meanWith_24 fl_X10_154 rfl rfl rfl ?_
    refine gx_callV 8 (As := [.int (I 20 2)]) (st := []) dX10_meanWith_27 ml_X10_223 mm_X8_sumOf rfl rfl rfl rfl rfl rfl ⟨rfl, rfl⟩ h (fun v h2 hq => ?_)
    clear h
    obtain ⟨r4, I1, L2, c3, rfl, rfl, h⟩ := hq
    show Z_J_meanWith_41 g Q 30 [(0, .ref 0), (1, .ref 41), (2, .int x2), (3, .int ((I 20 2) + x2))] [.int r4] I1 L2 c3
    refine gx_istore (lv' := [(0, .ref 0), (1, .ref 41), (2, .int x2), (3, .int ((I 20 2) + x2)), (4, .int r4)]) dX10_meanWith_30 rfl rfl ?_
    refine gx_iconst (v := 0) dX10_meanWith_32 (by decide) ?_
    refine gx_istore (lv' := [(0, .ref 0), (1, .ref 41), (2, .int x2), (3, .int ((I 20 2) + x2)), (4, .int r4), (5, .int 0)]) dX10_meanWith_33 rfl rfl ?_
    exact h
set_option maxRecDepth 100000 in
theorem r_J_meanWith_41_35 {g : gm_G} {Q : Int32 → mI → mL → gm_cfg → Prop} {x2 x3 x4 x5 : Int32} {I : mI} {L : mL} {c : gm_cfg} (h : ((x2 ≤ x5 → (¬ x3 = 0 ∧ Q (x4 / x3) I L c)) ∧ (¬ x2 ≤ x5 → (vp_in x5 40 ∧ (C_J_toldNumber g (L 42 (Int32.toNatClampNeg x5)) I L c (fun r4 I1 L2 c3 => Z_J_meanWith_41 g Q 35 [(0, .ref 0), (1, .ref 41), (2, .int x2), (3, .int x3), (4, .int (x4 + r4)), (5, .int (x5 + 1))] [] I1 L2 c3)))))) : Z_J_meanWith_41 g Q 35 [(0, .ref 0), (1, .ref 41), (2, .int x2), (3, .int x3), (4, .int x4), (5, .int x5)] [] I L c := by
  refine gx_iload 5 dX10_meanWith_35 rfl ?_
  refine gx_iload_n 2 dX10_meanWith_37 rfl rfl ?_
  refine gx_icmp_ge 62 dX10_meanWith_38 (by decide) ⟨fun z => ?_, fun z => ?_⟩
  · replace h := h.1 z
    refine gx_iload 4 dX10_meanWith_62 rfl ?_
    refine gx_iload_n 3 dX10_meanWith_64 rfl rfl ?_
    obtain ⟨hn, h⟩ := h
    refine gx_idiv dX10_meanWith_65 hn ?_
    exact gx_iret dX10_meanWith_66 rfl rfl rfl ⟨_, _, _, _, rfl, rfl, h⟩
  · replace h := h.2 z
    refine gx_iload 4 dX10_meanWith_41 rfl ?_
    refine gx_aload_n 1 dX10_meanWith_43 rfl rfl ?_
    refine gx_getr 6 0 (v := 42) dX10_meanWith_44 fl_X10_199 rfl rfl rfl ?_
    refine gx_iload 5 dX10_meanWith_47 rfl ?_
    obtain ⟨hi, h⟩ := h
    refine gx_lald (v := (L 42 (Int32.toNatClampNeg x5))) dX10_meanWith_49 rfl rfl hi (k := (Int32.toNatClampNeg x5)) rfl rfl ?_
    refine gx_callS (As := [.long (L 42 (Int32.toNatClampNeg x5))]) (st := [.int x4]) dX10_meanWith_50 ml_X10_215 mm_X10_toldNumber rfl rfl rfl rfl ⟨rfl, rfl⟩ h (fun v h2 hq => ?_)
    clear h
    obtain ⟨r4, I1, L2, c3, rfl, rfl, h⟩ := hq
    show Z_J_meanWith_41 g Q 53 [(0, .ref 0), (1, .ref 41), (2, .int x2), (3, .int x3), (4, .int x4), (5, .int x5)] [.int r4, .int x4] I1 L2 c3
    refine gx_iadd dX10_meanWith_53 ?_
    refine gx_istore (lv' := [(0, .ref 0), (1, .ref 41), (2, .int x2), (3, .int x3), (4, .int (x4 + r4)), (5, .int x5)]) dX10_meanWith_54 rfl rfl ?_
    refine gx_iinc (v := (x5 + 1)) (lv' := [(0, .ref 0), (1, .ref 41), (2, .int x2), (3, .int x3), (4, .int (x4 + r4)), (5, .int (x5 + 1))]) 5 dX10_meanWith_56 rfl rfl rfl rfl ?_
    refine gx_goto 35 dX10_meanWith_59 (by decide) ?_
    exact h
abbrev Z_J_judge (g : gm_G) (Q : Int32 → mI → mL → gm_cfg → Prop) (pc : Nat) (lv : List (Nat × Value)) (st : List Value) (I : mI) (L : mL) (c : gm_cfg) : Prop := gm_X g RX10 "judge" cX10_judge 5 (some .int) 4 0 0 (qI Q) 0 0 pc lv st (SH, I, L, RR c)
abbrev C_J_judge (g : gm_G) (x1 : Int32) (x2 : Int32) (I : mI) (L : mL) (c : gm_cfg) (Q : Int32 → mI → mL → gm_cfg → Prop) : Prop := gm_Met g yX10_judge cX10_judge 5 (some .int) 4 0 0 [.ref 0, .int x1, .int x2] (SH, I, L, RR c) (qI Q)
set_option maxRecDepth 100000 in
theorem e_J_judge {g : gm_G} {Q : Int32 → mI → mL → gm_cfg → Prop} {x1 x2 : Int32} {I : mI} {L : mL} {c : gm_cfg} (h : (C_J_isRow g x1 I L c (fun b4 I1 L2 c3 => ((b4 = false → Q (-2) I1 L2 c3) ∧ (b4 = true → ((x2 < 0 → Q (-2) I1 L2 c3) ∧ (¬ x2 < 0 → ((x2 ≤ 2 → (vp_in x1 4 ∧ (x1 = 0 → (C_Ro35_isMissing g I1 L2 c3 (fun b8 I5 L6 c7 => ((b8 = false → (C_J_writable_35 g I5 L6 c7 (fun r12 I9 L10 c11 => ((x2 = 0 → (((I9 35 1) ≤ r12 → Q (-1) I9 L10 c11) ∧ (¬ (I9 35 1) ≤ r12 → Q r12 I9 L10 c11))) ∧ (¬ x2 = 0 → ((x2 = 1 → (((I9 35 1) ≤ r12 → Q 0 I9 L10 c11) ∧ (¬ (I9 35 1) ≤ r12 → (vp_in r12 40 ∧ (C_J_tellFault g (L10 36 (Int32.toNatClampNeg r12)) ((I9 20 2) + r12) I9 L10 c11 (fun r16 I13 L14 c15 => Q r16 I13 L14 c15)))))) ∧ (¬ x2 = 1 → (C_J_meanWith_35 g r12 I9 L10 c11 (fun r20 I17 L18 c19 => Q r20 I17 L18 c19))))))))) ∧ (b8 = true → Q (-6) I5 L6 c7))))) ∧ (x1 = 1 → (C_Ro37_isMissing g I1 L2 c3 (fun b24 I21 L22 c23 => ((b24 = false → (C_J_writable_37 g I21 L22 c23 (fun r28 I25 L26 c27 => ((x2 = 0 → (((I25 37 1) ≤ r28 → Q (-1) I25 L26 c27) ∧ (¬ (I25 37 1) ≤ r28 → Q r28 I25 L26 c27))) ∧ (¬ x2 = 0 → ((x2 = 1 → (((I25 37 1) ≤ r28 → Q 0 I25 L26 c27) ∧ (¬ (I25 37 1) ≤ r28 → (vp_in r28 40 ∧ (C_J_tellFault g (L26 38 (Int32.toNatClampNeg r28)) ((I25 20 2) + r28) I25 L26 c27 (fun r32 I29 L30 c31 => Q r32 I29 L30 c31)))))) ∧ (¬ x2 = 1 → (C_J_meanWith_37 g r28 I25 L26 c27 (fun r36 I33 L34 c35 => Q r36 I33 L34 c35))))))))) ∧ (b24 = true → Q (-6) I21 L22 c23))))) ∧ (x1 = 2 → (C_Ro39_isMissing g I1 L2 c3 (fun b40 I37 L38 c39 => ((b40 = false → (C_J_writable_39 g I37 L38 c39 (fun r44 I41 L42 c43 => ((x2 = 0 → (((I41 39 1) ≤ r44 → Q (-1) I41 L42 c43) ∧ (¬ (I41 39 1) ≤ r44 → Q r44 I41 L42 c43))) ∧ (¬ x2 = 0 → ((x2 = 1 → (((I41 39 1) ≤ r44 → Q 0 I41 L42 c43) ∧ (¬ (I41 39 1) ≤ r44 → (vp_in r44 40 ∧ (C_J_tellFault g (L42 40 (Int32.toNatClampNeg r44)) ((I41 20 2) + r44) I41 L42 c43 (fun r48 I45 L46 c47 => Q r48 I45 L46 c47)))))) ∧ (¬ x2 = 1 → (C_J_meanWith_39 g r44 I41 L42 c43 (fun r52 I49 L50 c51 => Q r52 I49 L50 c51))))))))) ∧ (b40 = true → Q (-6) I37 L38 c39))))) ∧ (x1 = 3 → (C_Ro41_isMissing g I1 L2 c3 (fun b56 I53 L54 c55 => ((b56 = false → (C_J_writable_41 g I53 L54 c55 (fun r60 I57 L58 c59 => ((x2 = 0 → (((I57 41 1) ≤ r60 → Q (-1) I57 L58 c59) ∧ (¬ (I57 41 1) ≤ r60 → Q r60 I57 L58 c59))) ∧ (¬ x2 = 0 → ((x2 = 1 → (((I57 41 1) ≤ r60 → Q 0 I57 L58 c59) ∧ (¬ (I57 41 1) ≤ r60 → (vp_in r60 40 ∧ (C_J_tellFault g (L58 42 (Int32.toNatClampNeg r60)) ((I57 20 2) + r60) I57 L58 c59 (fun r64 I61 L62 c63 => Q r64 I61 L62 c63)))))) ∧ (¬ x2 = 1 → (C_J_meanWith_41 g r60 I57 L58 c59 (fun r68 I65 L66 c67 => Q r68 I65 L66 c67))))))))) ∧ (b56 = true → Q (-6) I53 L54 c55))))))) ∧ (¬ x2 ≤ 2 → Q (-2) I1 L2 c3))))))))) : C_J_judge g x1 x2 I L c Q := by
  refine gm_enter (lv := [(0, .ref 0), (1, .int x1), (2, .int x2)]) (by decide) rfl rfl rfl rfl ?_
  show Z_J_judge g Q 0 [(0, .ref 0), (1, .int x1), (2, .int x2)] [] I L c
  refine gx_iload_n 1 dX10_judge_0 rfl rfl ?_
  refine gx_callS (As := [.int x1]) (st := []) dX10_judge_1 ml_X10_187 mm_X10_isRow rfl rfl rfl rfl ⟨rfl, rfl⟩ h (fun v h2 hq => ?_)
  clear h
  obtain ⟨b4, I1, L2, c3, rfl, rfl, h⟩ := hq
  show Z_J_judge g Q 4 [(0, .ref 0), (1, .int x1), (2, .int x2)] [.int (gm_b b4)] I1 L2 c3
  refine gx_if_eq 16 dX10_judge_4 (by decide) ⟨fun z => ?_, fun z => ?_⟩
  · replace h := h.1 (gm_b0.mp z)
    refine gx_bipush (v := (-2)) dX10_judge_16 (by decide) ?_
    exact gx_iret dX10_judge_18 rfl rfl rfl ⟨_, _, _, _, rfl, rfl, h⟩
  · replace h := h.2 (gm_bn0 z)
    refine gx_iload_n 2 dX10_judge_7 rfl rfl ?_
    refine gx_if_lt 16 dX10_judge_8 (by decide) ⟨fun z => ?_, fun z => ?_⟩
    · replace h := h.1 z
      refine gx_bipush (v := (-2)) dX10_judge_16 (by decide) ?_
      exact gx_iret dX10_judge_18 rfl rfl rfl ⟨_, _, _, _, rfl, rfl, h⟩
    · replace h := h.2 z
      refine gx_iload_n 2 dX10_judge_11 rfl rfl ?_
      refine gx_iconst (v := 2) dX10_judge_12 (by decide) ?_
      refine gx_icmp_le 19 dX10_judge_13 (by decide) ⟨fun z => ?_, fun z => ?_⟩
      · replace h := h.1 z
        refine gx_aload_n 0 dX10_judge_19 rfl rfl ?_
        refine gx_getr 10 11 (v := 14) dX10_judge_20 fl_X10_50 rfl rfl rfl ?_
        refine gx_iload_n 1 dX10_judge_23 rfl rfl ?_
        obtain ⟨hi, h⟩ := h
        obtain ⟨j, hj, hx⟩ := vp_in_of hi (by decide)
        match j, hj, hx with
        | 0, _, hx =>
            have hx : x1 = 0 := hx
            replace h := h.1 hx
            subst hx
            refine gx_aald (v := 35) dX10_judge_24 rfl rfl rfl rfl (gm_vin rfl) (k := 0) rfl rfl ?_
            refine gx_astore_n (lv' := [(0, .ref 0), (1, .int 0), (2, .int x2), (3, .ref 35)]) dX10_judge_25 rfl rfl rfl ?_
            refine gx_aload_n 3 dX10_judge_26 rfl rfl ?_
            refine gx_callV 6 (As := []) (st := []) dX10_judge_27 ml_X10_190 mm_X6_isMissing rfl rfl rfl rfl rfl rfl ⟨rfl, rfl⟩ h (fun v h2 hq => ?_)
            clear h
            obtain ⟨b8, I5, L6, c7, rfl, rfl, h⟩ := hq
            show Z_J_judge g Q 30 [(0, .ref 0), (1, .int 0), (2, .int x2), (3, .ref 35)] [.int (gm_b b8)] I5 L6 c7
            refine gx_if_eq 36 dX10_judge_30 (by decide) ⟨fun z => ?_, fun z => ?_⟩
            · replace h := h.1 (gm_b0.mp z)
              refine gx_aload_n 0 dX10_judge_36 rfl rfl ?_
              refine gx_aload_n 3 dX10_judge_37 rfl rfl ?_
              refine gx_callV 10 (As := [.ref 35]) (st := []) dX10_judge_38 ml_X10_194 mm_X10_writable rfl rfl rfl rfl rfl rfl ⟨rfl, rfl⟩ h (fun v h2 hq => ?_)
              clear h
              obtain ⟨r12, I9, L10, c11, rfl, rfl, h⟩ := hq
              show Z_J_judge g Q 41 [(0, .ref 0), (1, .int 0), (2, .int x2), (3, .ref 35)] [.int r12] I9 L10 c11
              refine gx_istore (lv' := [(0, .ref 0), (1, .int 0), (2, .int x2), (3, .ref 35), (4, .int r12)]) dX10_judge_41 rfl rfl ?_
              refine gx_iload_n 2 dX10_judge_43 rfl rfl ?_
              refine gx_if_ne 63 dX10_judge_44 (by decide) ⟨fun z => ?_, fun z => ?_⟩
              · replace h := h.1 z
                refine gx_iload 4 dX10_judge_47 rfl ?_
                refine gx_aload_n 3 dX10_judge_49 rfl rfl ?_
                refine gx_geti 6 1 (v := (I9 35 1)) dX10_judge_50 fl_X10_198 rfl rfl rfl ?_
                refine gx_icmp_ge 61 dX10_judge_53 (by decide) ⟨fun z => ?_, fun z => ?_⟩
                · replace h := h.1 z
                  refine gx_iconst (v := (-1)) dX10_judge_61 (by decide) ?_
                  exact gx_iret dX10_judge_62 rfl rfl rfl ⟨_, _, _, _, rfl, rfl, h⟩
                · replace h := h.2 z
                  refine gx_iload 4 dX10_judge_56 rfl ?_
                  refine gx_goto 62 dX10_judge_58 (by decide) ?_
                  exact gx_iret dX10_judge_62 rfl rfl rfl ⟨_, _, _, _, rfl, rfl, h⟩
              · replace h := h.2 z
                refine gx_iload_n 2 dX10_judge_63 rfl rfl ?_
                refine gx_iconst (v := 1) dX10_judge_64 (by decide) ?_
                refine gx_icmp_ne 103 dX10_judge_65 (by decide) ⟨fun z => ?_, fun z => ?_⟩
                · replace h := h.1 z
                  refine gx_iload 4 dX10_judge_68 rfl ?_
                  refine gx_aload_n 3 dX10_judge_70 rfl rfl ?_
                  refine gx_geti 6 1 (v := (I9 35 1)) dX10_judge_71 fl_X10_198 rfl rfl rfl ?_
                  refine gx_icmp_ge 101 dX10_judge_74 (by decide) ⟨fun z => ?_, fun z => ?_⟩
                  · replace h := h.1 z
                    refine gx_iconst (v := 0) dX10_judge_101 (by decide) ?_
                    exact gx_iret dX10_judge_102 rfl rfl rfl ⟨_, _, _, _, rfl, rfl, h⟩
                  · replace h := h.2 z
                    refine gx_aload_n 0 dX10_judge_77 rfl rfl ?_
                    refine gx_aload_n 3 dX10_judge_78 rfl rfl ?_
                    refine gx_getr 6 0 (v := 36) dX10_judge_79 fl_X10_199 rfl rfl rfl ?_
                    refine gx_iload 4 dX10_judge_82 rfl ?_
                    obtain ⟨hi, h⟩ := h
                    refine gx_lald (v := (L10 36 (Int32.toNatClampNeg r12))) dX10_judge_84 rfl rfl hi (k := (Int32.toNatClampNeg r12)) rfl rfl ?_
                    refine gx_aload_n 0 dX10_judge_85 rfl rfl ?_
                    refine gx_getr 10 5 (v := 20) dX10_judge_86 fl_X10_68 rfl rfl rfl ?_
                    refine gx_geti 8 2 (v := (I9 20 2)) dX10_judge_89 fl_X10_154 rfl rfl rfl ?_
                    refine gx_iload 4 dX10_judge_92 rfl ?_
                    refine gx_iadd dX10_judge_94 ?_
                    refine gx_callV 10 (As := [.long (L10 36 (Int32.toNatClampNeg r12)), .int ((I9 20 2) + r12)]) (st := []) dX10_judge_95 ml_X10_203 mm_X10_tellFault rfl rfl rfl rfl rfl rfl ⟨rfl, rfl⟩ h (fun v h2 hq => ?_)
                    clear h
                    obtain ⟨r16, I13, L14, c15, rfl, rfl, h⟩ := hq
                    show Z_J_judge g Q 98 [(0, .ref 0), (1, .int 0), (2, .int x2), (3, .ref 35), (4, .int r12)] [.int r16] I13 L14 c15
                    refine gx_goto 102 dX10_judge_98 (by decide) ?_
                    exact gx_iret dX10_judge_102 rfl rfl rfl ⟨_, _, _, _, rfl, rfl, h⟩
                · replace h := h.2 z
                  refine gx_aload_n 0 dX10_judge_103 rfl rfl ?_
                  refine gx_aload_n 3 dX10_judge_104 rfl rfl ?_
                  refine gx_iload 4 dX10_judge_105 rfl ?_
                  refine gx_callV 10 (As := [.ref 35, .int r12]) (st := []) dX10_judge_107 ml_X10_207 mm_X10_meanWith rfl rfl rfl rfl rfl rfl ⟨rfl, rfl⟩ h (fun v h2 hq => ?_)
                  clear h
                  obtain ⟨r20, I17, L18, c19, rfl, rfl, h⟩ := hq
                  show Z_J_judge g Q 110 [(0, .ref 0), (1, .int 0), (2, .int x2), (3, .ref 35), (4, .int r12)] [.int r20] I17 L18 c19
                  exact gx_iret dX10_judge_110 rfl rfl rfl ⟨_, _, _, _, rfl, rfl, h⟩
            · replace h := h.2 (gm_bn0 z)
              refine gx_bipush (v := (-6)) dX10_judge_33 (by decide) ?_
              exact gx_iret dX10_judge_35 rfl rfl rfl ⟨_, _, _, _, rfl, rfl, h⟩
        | 1, _, hx =>
            have hx : x1 = 1 := hx
            replace h := h.2.1 hx
            subst hx
            refine gx_aald (v := 37) dX10_judge_24 rfl rfl rfl rfl (gm_vin rfl) (k := 1) rfl rfl ?_
            refine gx_astore_n (lv' := [(0, .ref 0), (1, .int 1), (2, .int x2), (3, .ref 37)]) dX10_judge_25 rfl rfl rfl ?_
            refine gx_aload_n 3 dX10_judge_26 rfl rfl ?_
            refine gx_callV 6 (As := []) (st := []) dX10_judge_27 ml_X10_190 mm_X6_isMissing rfl rfl rfl rfl rfl rfl ⟨rfl, rfl⟩ h (fun v h2 hq => ?_)
            clear h
            obtain ⟨b24, I21, L22, c23, rfl, rfl, h⟩ := hq
            show Z_J_judge g Q 30 [(0, .ref 0), (1, .int 1), (2, .int x2), (3, .ref 37)] [.int (gm_b b24)] I21 L22 c23
            refine gx_if_eq 36 dX10_judge_30 (by decide) ⟨fun z => ?_, fun z => ?_⟩
            · replace h := h.1 (gm_b0.mp z)
              refine gx_aload_n 0 dX10_judge_36 rfl rfl ?_
              refine gx_aload_n 3 dX10_judge_37 rfl rfl ?_
              refine gx_callV 10 (As := [.ref 37]) (st := []) dX10_judge_38 ml_X10_194 mm_X10_writable rfl rfl rfl rfl rfl rfl ⟨rfl, rfl⟩ h (fun v h2 hq => ?_)
              clear h
              obtain ⟨r28, I25, L26, c27, rfl, rfl, h⟩ := hq
              show Z_J_judge g Q 41 [(0, .ref 0), (1, .int 1), (2, .int x2), (3, .ref 37)] [.int r28] I25 L26 c27
              refine gx_istore (lv' := [(0, .ref 0), (1, .int 1), (2, .int x2), (3, .ref 37), (4, .int r28)]) dX10_judge_41 rfl rfl ?_
              refine gx_iload_n 2 dX10_judge_43 rfl rfl ?_
              refine gx_if_ne 63 dX10_judge_44 (by decide) ⟨fun z => ?_, fun z => ?_⟩
              · replace h := h.1 z
                refine gx_iload 4 dX10_judge_47 rfl ?_
                refine gx_aload_n 3 dX10_judge_49 rfl rfl ?_
                refine gx_geti 6 1 (v := (I25 37 1)) dX10_judge_50 fl_X10_198 rfl rfl rfl ?_
                refine gx_icmp_ge 61 dX10_judge_53 (by decide) ⟨fun z => ?_, fun z => ?_⟩
                · replace h := h.1 z
                  refine gx_iconst (v := (-1)) dX10_judge_61 (by decide) ?_
                  exact gx_iret dX10_judge_62 rfl rfl rfl ⟨_, _, _, _, rfl, rfl, h⟩
                · replace h := h.2 z
                  refine gx_iload 4 dX10_judge_56 rfl ?_
                  refine gx_goto 62 dX10_judge_58 (by decide) ?_
                  exact gx_iret dX10_judge_62 rfl rfl rfl ⟨_, _, _, _, rfl, rfl, h⟩
              · replace h := h.2 z
                refine gx_iload_n 2 dX10_judge_63 rfl rfl ?_
                refine gx_iconst (v := 1) dX10_judge_64 (by decide) ?_
                refine gx_icmp_ne 103 dX10_judge_65 (by decide) ⟨fun z => ?_, fun z => ?_⟩
                · replace h := h.1 z
                  refine gx_iload 4 dX10_judge_68 rfl ?_
                  refine gx_aload_n 3 dX10_judge_70 rfl rfl ?_
                  refine gx_geti 6 1 (v := (I25 37 1)) dX10_judge_71 fl_X10_198 rfl rfl rfl ?_
                  refine gx_icmp_ge 101 dX10_judge_74 (by decide) ⟨fun z => ?_, fun z => ?_⟩
                  · replace h := h.1 z
                    refine gx_iconst (v := 0) dX10_judge_101 (by decide) ?_
                    exact gx_iret dX10_judge_102 rfl rfl rfl ⟨_, _, _, _, rfl, rfl, h⟩
                  · replace h := h.2 z
                    refine gx_aload_n 0 dX10_judge_77 rfl rfl ?_
                    refine gx_aload_n 3 dX10_judge_78 rfl rfl ?_
                    refine gx_getr 6 0 (v := 38) dX10_judge_79 fl_X10_199 rfl rfl rfl ?_
                    refine gx_iload 4 dX10_judge_82 rfl ?_
                    obtain ⟨hi, h⟩ := h
                    refine gx_lald (v := (L26 38 (Int32.toNatClampNeg r28))) dX10_judge_84 rfl rfl hi (k := (Int32.toNatClampNeg r28)) rfl rfl ?_
                    refine gx_aload_n 0 dX10_judge_85 rfl rfl ?_
                    refine gx_getr 10 5 (v := 20) dX10_judge_86 fl_X10_68 rfl rfl rfl ?_
                    refine gx_geti 8 2 (v := (I25 20 2)) dX10_judge_89 fl_X10_154 rfl rfl rfl ?_
                    refine gx_iload 4 dX10_judge_92 rfl ?_
                    refine gx_iadd dX10_judge_94 ?_
                    refine gx_callV 10 (As := [.long (L26 38 (Int32.toNatClampNeg r28)), .int ((I25 20 2) + r28)]) (st := []) dX10_judge_95 ml_X10_203 mm_X10_tellFault rfl rfl rfl rfl rfl rfl ⟨rfl, rfl⟩ h (fun v h2 hq => ?_)
                    clear h
                    obtain ⟨r32, I29, L30, c31, rfl, rfl, h⟩ := hq
                    show Z_J_judge g Q 98 [(0, .ref 0), (1, .int 1), (2, .int x2), (3, .ref 37), (4, .int r28)] [.int r32] I29 L30 c31
                    refine gx_goto 102 dX10_judge_98 (by decide) ?_
                    exact gx_iret dX10_judge_102 rfl rfl rfl ⟨_, _, _, _, rfl, rfl, h⟩
                · replace h := h.2 z
                  refine gx_aload_n 0 dX10_judge_103 rfl rfl ?_
                  refine gx_aload_n 3 dX10_judge_104 rfl rfl ?_
                  refine gx_iload 4 dX10_judge_105 rfl ?_
                  refine gx_callV 10 (As := [.ref 37, .int r28]) (st := []) dX10_judge_107 ml_X10_207 mm_X10_meanWith rfl rfl rfl rfl rfl rfl ⟨rfl, rfl⟩ h (fun v h2 hq => ?_)
                  clear h
                  obtain ⟨r36, I33, L34, c35, rfl, rfl, h⟩ := hq
                  show Z_J_judge g Q 110 [(0, .ref 0), (1, .int 1), (2, .int x2), (3, .ref 37), (4, .int r28)] [.int r36] I33 L34 c35
                  exact gx_iret dX10_judge_110 rfl rfl rfl ⟨_, _, _, _, rfl, rfl, h⟩
            · replace h := h.2 (gm_bn0 z)
              refine gx_bipush (v := (-6)) dX10_judge_33 (by decide) ?_
              exact gx_iret dX10_judge_35 rfl rfl rfl ⟨_, _, _, _, rfl, rfl, h⟩
        | 2, _, hx =>
            have hx : x1 = 2 := hx
            replace h := h.2.2.1 hx
            subst hx
            refine gx_aald (v := 39) dX10_judge_24 rfl rfl rfl rfl (gm_vin rfl) (k := 2) rfl rfl ?_
            refine gx_astore_n (lv' := [(0, .ref 0), (1, .int 2), (2, .int x2), (3, .ref 39)]) dX10_judge_25 rfl rfl rfl ?_
            refine gx_aload_n 3 dX10_judge_26 rfl rfl ?_
            refine gx_callV 6 (As := []) (st := []) dX10_judge_27 ml_X10_190 mm_X6_isMissing rfl rfl rfl rfl rfl rfl ⟨rfl, rfl⟩ h (fun v h2 hq => ?_)
            clear h
            obtain ⟨b40, I37, L38, c39, rfl, rfl, h⟩ := hq
            show Z_J_judge g Q 30 [(0, .ref 0), (1, .int 2), (2, .int x2), (3, .ref 39)] [.int (gm_b b40)] I37 L38 c39
            refine gx_if_eq 36 dX10_judge_30 (by decide) ⟨fun z => ?_, fun z => ?_⟩
            · replace h := h.1 (gm_b0.mp z)
              refine gx_aload_n 0 dX10_judge_36 rfl rfl ?_
              refine gx_aload_n 3 dX10_judge_37 rfl rfl ?_
              refine gx_callV 10 (As := [.ref 39]) (st := []) dX10_judge_38 ml_X10_194 mm_X10_writable rfl rfl rfl rfl rfl rfl ⟨rfl, rfl⟩ h (fun v h2 hq => ?_)
              clear h
              obtain ⟨r44, I41, L42, c43, rfl, rfl, h⟩ := hq
              show Z_J_judge g Q 41 [(0, .ref 0), (1, .int 2), (2, .int x2), (3, .ref 39)] [.int r44] I41 L42 c43
              refine gx_istore (lv' := [(0, .ref 0), (1, .int 2), (2, .int x2), (3, .ref 39), (4, .int r44)]) dX10_judge_41 rfl rfl ?_
              refine gx_iload_n 2 dX10_judge_43 rfl rfl ?_
              refine gx_if_ne 63 dX10_judge_44 (by decide) ⟨fun z => ?_, fun z => ?_⟩
              · replace h := h.1 z
                refine gx_iload 4 dX10_judge_47 rfl ?_
                refine gx_aload_n 3 dX10_judge_49 rfl rfl ?_
                refine gx_geti 6 1 (v := (I41 39 1)) dX10_judge_50 fl_X10_198 rfl rfl rfl ?_
                refine gx_icmp_ge 61 dX10_judge_53 (by decide) ⟨fun z => ?_, fun z => ?_⟩
                · replace h := h.1 z
                  refine gx_iconst (v := (-1)) dX10_judge_61 (by decide) ?_
                  exact gx_iret dX10_judge_62 rfl rfl rfl ⟨_, _, _, _, rfl, rfl, h⟩
                · replace h := h.2 z
                  refine gx_iload 4 dX10_judge_56 rfl ?_
                  refine gx_goto 62 dX10_judge_58 (by decide) ?_
                  exact gx_iret dX10_judge_62 rfl rfl rfl ⟨_, _, _, _, rfl, rfl, h⟩
              · replace h := h.2 z
                refine gx_iload_n 2 dX10_judge_63 rfl rfl ?_
                refine gx_iconst (v := 1) dX10_judge_64 (by decide) ?_
                refine gx_icmp_ne 103 dX10_judge_65 (by decide) ⟨fun z => ?_, fun z => ?_⟩
                · replace h := h.1 z
                  refine gx_iload 4 dX10_judge_68 rfl ?_
                  refine gx_aload_n 3 dX10_judge_70 rfl rfl ?_
                  refine gx_geti 6 1 (v := (I41 39 1)) dX10_judge_71 fl_X10_198 rfl rfl rfl ?_
                  refine gx_icmp_ge 101 dX10_judge_74 (by decide) ⟨fun z => ?_, fun z => ?_⟩
                  · replace h := h.1 z
                    refine gx_iconst (v := 0) dX10_judge_101 (by decide) ?_
                    exact gx_iret dX10_judge_102 rfl rfl rfl ⟨_, _, _, _, rfl, rfl, h⟩
                  · replace h := h.2 z
                    refine gx_aload_n 0 dX10_judge_77 rfl rfl ?_
                    refine gx_aload_n 3 dX10_judge_78 rfl rfl ?_
                    refine gx_getr 6 0 (v := 40) dX10_judge_79 fl_X10_199 rfl rfl rfl ?_
                    refine gx_iload 4 dX10_judge_82 rfl ?_
                    obtain ⟨hi, h⟩ := h
                    refine gx_lald (v := (L42 40 (Int32.toNatClampNeg r44))) dX10_judge_84 rfl rfl hi (k := (Int32.toNatClampNeg r44)) rfl rfl ?_
                    refine gx_aload_n 0 dX10_judge_85 rfl rfl ?_
                    refine gx_getr 10 5 (v := 20) dX10_judge_86 fl_X10_68 rfl rfl rfl ?_
                    refine gx_geti 8 2 (v := (I41 20 2)) dX10_judge_89 fl_X10_154 rfl rfl rfl ?_
                    refine gx_iload 4 dX10_judge_92 rfl ?_
                    refine gx_iadd dX10_judge_94 ?_
                    refine gx_callV 10 (As := [.long (L42 40 (Int32.toNatClampNeg r44)), .int ((I41 20 2) + r44)]) (st := []) dX10_judge_95 ml_X10_203 mm_X10_tellFault rfl rfl rfl rfl rfl rfl ⟨rfl, rfl⟩ h (fun v h2 hq => ?_)
                    clear h
                    obtain ⟨r48, I45, L46, c47, rfl, rfl, h⟩ := hq
                    show Z_J_judge g Q 98 [(0, .ref 0), (1, .int 2), (2, .int x2), (3, .ref 39), (4, .int r44)] [.int r48] I45 L46 c47
                    refine gx_goto 102 dX10_judge_98 (by decide) ?_
                    exact gx_iret dX10_judge_102 rfl rfl rfl ⟨_, _, _, _, rfl, rfl, h⟩
                · replace h := h.2 z
                  refine gx_aload_n 0 dX10_judge_103 rfl rfl ?_
                  refine gx_aload_n 3 dX10_judge_104 rfl rfl ?_
                  refine gx_iload 4 dX10_judge_105 rfl ?_
                  refine gx_callV 10 (As := [.ref 39, .int r44]) (st := []) dX10_judge_107 ml_X10_207 mm_X10_meanWith rfl rfl rfl rfl rfl rfl ⟨rfl, rfl⟩ h (fun v h2 hq => ?_)
                  clear h
                  obtain ⟨r52, I49, L50, c51, rfl, rfl, h⟩ := hq
                  show Z_J_judge g Q 110 [(0, .ref 0), (1, .int 2), (2, .int x2), (3, .ref 39), (4, .int r44)] [.int r52] I49 L50 c51
                  exact gx_iret dX10_judge_110 rfl rfl rfl ⟨_, _, _, _, rfl, rfl, h⟩
            · replace h := h.2 (gm_bn0 z)
              refine gx_bipush (v := (-6)) dX10_judge_33 (by decide) ?_
              exact gx_iret dX10_judge_35 rfl rfl rfl ⟨_, _, _, _, rfl, rfl, h⟩
        | 3, _, hx =>
            have hx : x1 = 3 := hx
            replace h := h.2.2.2 hx
            subst hx
            refine gx_aald (v := 41) dX10_judge_24 rfl rfl rfl rfl (gm_vin rfl) (k := 3) rfl rfl ?_
            refine gx_astore_n (lv' := [(0, .ref 0), (1, .int 3), (2, .int x2), (3, .ref 41)]) dX10_judge_25 rfl rfl rfl ?_
            refine gx_aload_n 3 dX10_judge_26 rfl rfl ?_
            refine gx_callV 6 (As := []) (st := []) dX10_judge_27 ml_X10_190 mm_X6_isMissing rfl rfl rfl rfl rfl rfl ⟨rfl, rfl⟩ h (fun v h2 hq => ?_)
            clear h
            obtain ⟨b56, I53, L54, c55, rfl, rfl, h⟩ := hq
            show Z_J_judge g Q 30 [(0, .ref 0), (1, .int 3), (2, .int x2), (3, .ref 41)] [.int (gm_b b56)] I53 L54 c55
            refine gx_if_eq 36 dX10_judge_30 (by decide) ⟨fun z => ?_, fun z => ?_⟩
            · replace h := h.1 (gm_b0.mp z)
              refine gx_aload_n 0 dX10_judge_36 rfl rfl ?_
              refine gx_aload_n 3 dX10_judge_37 rfl rfl ?_
              refine gx_callV 10 (As := [.ref 41]) (st := []) dX10_judge_38 ml_X10_194 mm_X10_writable rfl rfl rfl rfl rfl rfl ⟨rfl, rfl⟩ h (fun v h2 hq => ?_)
              clear h
              obtain ⟨r60, I57, L58, c59, rfl, rfl, h⟩ := hq
              show Z_J_judge g Q 41 [(0, .ref 0), (1, .int 3), (2, .int x2), (3, .ref 41)] [.int r60] I57 L58 c59
              refine gx_istore (lv' := [(0, .ref 0), (1, .int 3), (2, .int x2), (3, .ref 41), (4, .int r60)]) dX10_judge_41 rfl rfl ?_
              refine gx_iload_n 2 dX10_judge_43 rfl rfl ?_
              refine gx_if_ne 63 dX10_judge_44 (by decide) ⟨fun z => ?_, fun z => ?_⟩
              · replace h := h.1 z
                refine gx_iload 4 dX10_judge_47 rfl ?_
                refine gx_aload_n 3 dX10_judge_49 rfl rfl ?_
                refine gx_geti 6 1 (v := (I57 41 1)) dX10_judge_50 fl_X10_198 rfl rfl rfl ?_
                refine gx_icmp_ge 61 dX10_judge_53 (by decide) ⟨fun z => ?_, fun z => ?_⟩
                · replace h := h.1 z
                  refine gx_iconst (v := (-1)) dX10_judge_61 (by decide) ?_
                  exact gx_iret dX10_judge_62 rfl rfl rfl ⟨_, _, _, _, rfl, rfl, h⟩
                · replace h := h.2 z
                  refine gx_iload 4 dX10_judge_56 rfl ?_
                  refine gx_goto 62 dX10_judge_58 (by decide) ?_
                  exact gx_iret dX10_judge_62 rfl rfl rfl ⟨_, _, _, _, rfl, rfl, h⟩
              · replace h := h.2 z
                refine gx_iload_n 2 dX10_judge_63 rfl rfl ?_
                refine gx_iconst (v := 1) dX10_judge_64 (by decide) ?_
                refine gx_icmp_ne 103 dX10_judge_65 (by decide) ⟨fun z => ?_, fun z => ?_⟩
                · replace h := h.1 z
                  refine gx_iload 4 dX10_judge_68 rfl ?_
                  refine gx_aload_n 3 dX10_judge_70 rfl rfl ?_
                  refine gx_geti 6 1 (v := (I57 41 1)) dX10_judge_71 fl_X10_198 rfl rfl rfl ?_
                  refine gx_icmp_ge 101 dX10_judge_74 (by decide) ⟨fun z => ?_, fun z => ?_⟩
                  · replace h := h.1 z
                    refine gx_iconst (v := 0) dX10_judge_101 (by decide) ?_
                    exact gx_iret dX10_judge_102 rfl rfl rfl ⟨_, _, _, _, rfl, rfl, h⟩
                  · replace h := h.2 z
                    refine gx_aload_n 0 dX10_judge_77 rfl rfl ?_
                    refine gx_aload_n 3 dX10_judge_78 rfl rfl ?_
                    refine gx_getr 6 0 (v := 42) dX10_judge_79 fl_X10_199 rfl rfl rfl ?_
                    refine gx_iload 4 dX10_judge_82 rfl ?_
                    obtain ⟨hi, h⟩ := h
                    refine gx_lald (v := (L58 42 (Int32.toNatClampNeg r60))) dX10_judge_84 rfl rfl hi (k := (Int32.toNatClampNeg r60)) rfl rfl ?_
                    refine gx_aload_n 0 dX10_judge_85 rfl rfl ?_
                    refine gx_getr 10 5 (v := 20) dX10_judge_86 fl_X10_68 rfl rfl rfl ?_
                    refine gx_geti 8 2 (v := (I57 20 2)) dX10_judge_89 fl_X10_154 rfl rfl rfl ?_
                    refine gx_iload 4 dX10_judge_92 rfl ?_
                    refine gx_iadd dX10_judge_94 ?_
                    refine gx_callV 10 (As := [.long (L58 42 (Int32.toNatClampNeg r60)), .int ((I57 20 2) + r60)]) (st := []) dX10_judge_95 ml_X10_203 mm_X10_tellFault rfl rfl rfl rfl rfl rfl ⟨rfl, rfl⟩ h (fun v h2 hq => ?_)
                    clear h
                    obtain ⟨r64, I61, L62, c63, rfl, rfl, h⟩ := hq
                    show Z_J_judge g Q 98 [(0, .ref 0), (1, .int 3), (2, .int x2), (3, .ref 41), (4, .int r60)] [.int r64] I61 L62 c63
                    refine gx_goto 102 dX10_judge_98 (by decide) ?_
                    exact gx_iret dX10_judge_102 rfl rfl rfl ⟨_, _, _, _, rfl, rfl, h⟩
                · replace h := h.2 z
                  refine gx_aload_n 0 dX10_judge_103 rfl rfl ?_
                  refine gx_aload_n 3 dX10_judge_104 rfl rfl ?_
                  refine gx_iload 4 dX10_judge_105 rfl ?_
                  refine gx_callV 10 (As := [.ref 41, .int r60]) (st := []) dX10_judge_107 ml_X10_207 mm_X10_meanWith rfl rfl rfl rfl rfl rfl ⟨rfl, rfl⟩ h (fun v h2 hq => ?_)
                  clear h
                  obtain ⟨r68, I65, L66, c67, rfl, rfl, h⟩ := hq
                  show Z_J_judge g Q 110 [(0, .ref 0), (1, .int 3), (2, .int x2), (3, .ref 41), (4, .int r60)] [.int r68] I65 L66 c67
                  exact gx_iret dX10_judge_110 rfl rfl rfl ⟨_, _, _, _, rfl, rfl, h⟩
            · replace h := h.2 (gm_bn0 z)
              refine gx_bipush (v := (-6)) dX10_judge_33 (by decide) ?_
              exact gx_iret dX10_judge_35 rfl rfl rfl ⟨_, _, _, _, rfl, rfl, h⟩
      · replace h := h.2 z
        refine gx_bipush (v := (-2)) dX10_judge_16 (by decide) ?_
        exact gx_iret dX10_judge_18 rfl rfl rfl ⟨_, _, _, _, rfl, rfl, h⟩
abbrev Z_J_toldGuesser (g : gm_G) (Q : Int32 → mI → mL → gm_cfg → Prop) (pc : Nat) (lv : List (Nat × Value)) (st : List Value) (I : mI) (L : mL) (c : gm_cfg) : Prop := gm_X g RX10 "toldGuesser" cX10_toldGuesser 2 (some .int) 1 0 0 (qI Q) 0 0 pc lv st (SH, I, L, RR c)
abbrev C_J_toldGuesser (g : gm_G) (x0 : Int64) (I : mI) (L : mL) (c : gm_cfg) (Q : Int32 → mI → mL → gm_cfg → Prop) : Prop := gm_Met g yX10_toldGuesser cX10_toldGuesser 2 (some .int) 1 0 0 [.long x0] (SH, I, L, RR c) (qI Q)
set_option maxRecDepth 100000 in
theorem e_J_toldGuesser {g : gm_G} {Q : Int32 → mI → mL → gm_cfg → Prop} {x0 : Int64} {I : mI} {L : mL} {c : gm_cfg} (h : Q (Int64.toInt32 (x0 / 10000)) I L c) : C_J_toldGuesser g x0 I L c Q := by
  refine gm_enter (lv := [(0, .long x0)]) (by decide) rfl rfl rfl rfl ?_
  show Z_J_toldGuesser g Q 0 [(0, .long x0)] [] I L c
  refine gx_lload_n 0 dX10_toldGuesser_0 rfl rfl ?_
  refine gx_ldc2 dX10_toldGuesser_1 kl_X10_218 ?_
  refine gx_ldiv dX10_toldGuesser_4 (by decide) ?_
  refine gx_l2i dX10_toldGuesser_5 ?_
  exact gx_iret dX10_toldGuesser_6 rfl rfl rfl ⟨_, _, _, _, rfl, rfl, h⟩
abbrev Z_J_perform (g : gm_G) (Q : Int32 → mI → mL → gm_cfg → Prop) (pc : Nat) (lv : List (Nat × Value)) (st : List Value) (I : mI) (L : mL) (c : gm_cfg) : Prop := gm_X g RX10 "perform" cX10_perform 5 (some .int) 4 0 0 (qI Q) 0 0 pc lv st (SH, I, L, RR c)
abbrev C_J_perform (g : gm_G) (x1 : Int32) (I : mI) (L : mL) (c : gm_cfg) (Q : Int32 → mI → mL → gm_cfg → Prop) : Prop := gm_Met g yX10_perform cX10_perform 5 (some .int) 4 0 0 [.ref 0, .int x1] (SH, I, L, RR c) (qI Q)
set_option maxRecDepth 100000 in
theorem e_J_perform {g : gm_G} {Q : Int32 → mI → mL → gm_cfg → Prop} {x1 : Int32} {I : mI} {L : mL} {c : gm_cfg} (h : (C_J_isRow g x1 I L c (fun b4 I1 L2 c3 => ((b4 = false → Q (-2) I1 L2 c3) ∧ (b4 = true → (vp_in x1 4 ∧ (x1 = 0 → (C_Ro35_isMissing g I1 L2 c3 (fun b8 I5 L6 c7 => ((b8 = false → (C_J_writable_35 g I5 L6 c7 (fun r12 I9 L10 c11 => Z_J_perform g Q 36 [(0, .ref 0), (1, .int 0), (2, .ref 35), (3, .int r12), (4, .int 0)] [] I9 L10 c11))) ∧ (b8 = true → Q (-6) I5 L6 c7))))) ∧ (x1 = 1 → (C_Ro37_isMissing g I1 L2 c3 (fun b16 I13 L14 c15 => ((b16 = false → (C_J_writable_37 g I13 L14 c15 (fun r20 I17 L18 c19 => Z_J_perform g Q 36 [(0, .ref 0), (1, .int 1), (2, .ref 37), (3, .int r20), (4, .int 0)] [] I17 L18 c19))) ∧ (b16 = true → Q (-6) I13 L14 c15))))) ∧ (x1 = 2 → (C_Ro39_isMissing g I1 L2 c3 (fun b24 I21 L22 c23 => ((b24 = false → (C_J_writable_39 g I21 L22 c23 (fun r28 I25 L26 c27 => Z_J_perform g Q 36 [(0, .ref 0), (1, .int 2), (2, .ref 39), (3, .int r28), (4, .int 0)] [] I25 L26 c27))) ∧ (b24 = true → Q (-6) I21 L22 c23))))) ∧ (x1 = 3 → (C_Ro41_isMissing g I1 L2 c3 (fun b32 I29 L30 c31 => ((b32 = false → (C_J_writable_41 g I29 L30 c31 (fun r36 I33 L34 c35 => Z_J_perform g Q 36 [(0, .ref 0), (1, .int 3), (2, .ref 41), (3, .int r36), (4, .int 0)] [] I33 L34 c35))) ∧ (b32 = true → Q (-6) I29 L30 c31))))))))))) : C_J_perform g x1 I L c Q := by
  refine gm_enter (lv := [(0, .ref 0), (1, .int x1)]) (by decide) rfl rfl rfl rfl ?_
  show Z_J_perform g Q 0 [(0, .ref 0), (1, .int x1)] [] I L c
  refine gx_iload_n 1 dX10_perform_0 rfl rfl ?_
  refine gx_callS (As := [.int x1]) (st := []) dX10_perform_1 ml_X10_187 mm_X10_isRow rfl rfl rfl rfl ⟨rfl, rfl⟩ h (fun v h2 hq => ?_)
  clear h
  obtain ⟨b4, I1, L2, c3, rfl, rfl, h⟩ := hq
  show Z_J_perform g Q 4 [(0, .ref 0), (1, .int x1)] [.int (gm_b b4)] I1 L2 c3
  refine gx_if_ne 10 dX10_perform_4 (by decide) ⟨fun z => ?_, fun z => ?_⟩
  · replace h := h.1 (gm_b0.mp z)
    refine gx_bipush (v := (-2)) dX10_perform_7 (by decide) ?_
    exact gx_iret dX10_perform_9 rfl rfl rfl ⟨_, _, _, _, rfl, rfl, h⟩
  · replace h := h.2 (gm_bn0 z)
    refine gx_aload_n 0 dX10_perform_10 rfl rfl ?_
    refine gx_getr 10 11 (v := 14) dX10_perform_11 fl_X10_50 rfl rfl rfl ?_
    refine gx_iload_n 1 dX10_perform_14 rfl rfl ?_
    obtain ⟨hi, h⟩ := h
    obtain ⟨j, hj, hx⟩ := vp_in_of hi (by decide)
    match j, hj, hx with
    | 0, _, hx =>
        have hx : x1 = 0 := hx
        replace h := h.1 hx
        subst hx
        refine gx_aald (v := 35) dX10_perform_15 rfl rfl rfl rfl (gm_vin rfl) (k := 0) rfl rfl ?_
        refine gx_astore_n (lv' := [(0, .ref 0), (1, .int 0), (2, .ref 35)]) dX10_perform_16 rfl rfl rfl ?_
        refine gx_aload_n 2 dX10_perform_17 rfl rfl ?_
        refine gx_callV 6 (As := []) (st := []) dX10_perform_18 ml_X10_190 mm_X6_isMissing rfl rfl rfl rfl rfl rfl ⟨rfl, rfl⟩ h (fun v h2 hq => ?_)
        clear h
        obtain ⟨b8, I5, L6, c7, rfl, rfl, h⟩ := hq
        show Z_J_perform g Q 21 [(0, .ref 0), (1, .int 0), (2, .ref 35)] [.int (gm_b b8)] I5 L6 c7
        refine gx_if_eq 27 dX10_perform_21 (by decide) ⟨fun z => ?_, fun z => ?_⟩
        · replace h := h.1 (gm_b0.mp z)
          refine gx_aload_n 0 dX10_perform_27 rfl rfl ?_
          refine gx_aload_n 2 dX10_perform_28 rfl rfl ?_
          refine gx_callV 10 (As := [.ref 35]) (st := []) dX10_perform_29 ml_X10_194 mm_X10_writable rfl rfl rfl rfl rfl rfl ⟨rfl, rfl⟩ h (fun v h2 hq => ?_)
          clear h
          obtain ⟨r12, I9, L10, c11, rfl, rfl, h⟩ := hq
          show Z_J_perform g Q 32 [(0, .ref 0), (1, .int 0), (2, .ref 35)] [.int r12] I9 L10 c11
          refine gx_istore_n (lv' := [(0, .ref 0), (1, .int 0), (2, .ref 35), (3, .int r12)]) dX10_perform_32 rfl rfl rfl ?_
          refine gx_iconst (v := 0) dX10_perform_33 (by decide) ?_
          refine gx_istore (lv' := [(0, .ref 0), (1, .int 0), (2, .ref 35), (3, .int r12), (4, .int 0)]) dX10_perform_34 rfl rfl ?_
          exact h
        · replace h := h.2 (gm_bn0 z)
          refine gx_bipush (v := (-6)) dX10_perform_24 (by decide) ?_
          exact gx_iret dX10_perform_26 rfl rfl rfl ⟨_, _, _, _, rfl, rfl, h⟩
    | 1, _, hx =>
        have hx : x1 = 1 := hx
        replace h := h.2.1 hx
        subst hx
        refine gx_aald (v := 37) dX10_perform_15 rfl rfl rfl rfl (gm_vin rfl) (k := 1) rfl rfl ?_
        refine gx_astore_n (lv' := [(0, .ref 0), (1, .int 1), (2, .ref 37)]) dX10_perform_16 rfl rfl rfl ?_
        refine gx_aload_n 2 dX10_perform_17 rfl rfl ?_
        refine gx_callV 6 (As := []) (st := []) dX10_perform_18 ml_X10_190 mm_X6_isMissing rfl rfl rfl rfl rfl rfl ⟨rfl, rfl⟩ h (fun v h2 hq => ?_)
        clear h
        obtain ⟨b16, I13, L14, c15, rfl, rfl, h⟩ := hq
        show Z_J_perform g Q 21 [(0, .ref 0), (1, .int 1), (2, .ref 37)] [.int (gm_b b16)] I13 L14 c15
        refine gx_if_eq 27 dX10_perform_21 (by decide) ⟨fun z => ?_, fun z => ?_⟩
        · replace h := h.1 (gm_b0.mp z)
          refine gx_aload_n 0 dX10_perform_27 rfl rfl ?_
          refine gx_aload_n 2 dX10_perform_28 rfl rfl ?_
          refine gx_callV 10 (As := [.ref 37]) (st := []) dX10_perform_29 ml_X10_194 mm_X10_writable rfl rfl rfl rfl rfl rfl ⟨rfl, rfl⟩ h (fun v h2 hq => ?_)
          clear h
          obtain ⟨r20, I17, L18, c19, rfl, rfl, h⟩ := hq
          show Z_J_perform g Q 32 [(0, .ref 0), (1, .int 1), (2, .ref 37)] [.int r20] I17 L18 c19
          refine gx_istore_n (lv' := [(0, .ref 0), (1, .int 1), (2, .ref 37), (3, .int r20)]) dX10_perform_32 rfl rfl rfl ?_
          refine gx_iconst (v := 0) dX10_perform_33 (by decide) ?_
          refine gx_istore (lv' := [(0, .ref 0), (1, .int 1), (2, .ref 37), (3, .int r20), (4, .int 0)]) dX10_perform_34 rfl rfl ?_
          exact h
        · replace h := h.2 (gm_bn0 z)
          refine gx_bipush (v := (-6)) dX10_perform_24 (by decide) ?_
          exact gx_iret dX10_perform_26 rfl rfl rfl ⟨_, _, _, _, rfl, rfl, h⟩
    | 2, _, hx =>
        have hx : x1 = 2 := hx
        replace h := h.2.2.1 hx
        subst hx
        refine gx_aald (v := 39) dX10_perform_15 rfl rfl rfl rfl (gm_vin rfl) (k := 2) rfl rfl ?_
        refine gx_astore_n (lv' := [(0, .ref 0), (1, .int 2), (2, .ref 39)]) dX10_perform_16 rfl rfl rfl ?_
        refine gx_aload_n 2 dX10_perform_17 rfl rfl ?_
        refine gx_callV 6 (As := []) (st := []) dX10_perform_18 ml_X10_190 mm_X6_isMissing rfl rfl rfl rfl rfl rfl ⟨rfl, rfl⟩ h (fun v h2 hq => ?_)
        clear h
        obtain ⟨b24, I21, L22, c23, rfl, rfl, h⟩ := hq
        show Z_J_perform g Q 21 [(0, .ref 0), (1, .int 2), (2, .ref 39)] [.int (gm_b b24)] I21 L22 c23
        refine gx_if_eq 27 dX10_perform_21 (by decide) ⟨fun z => ?_, fun z => ?_⟩
        · replace h := h.1 (gm_b0.mp z)
          refine gx_aload_n 0 dX10_perform_27 rfl rfl ?_
          refine gx_aload_n 2 dX10_perform_28 rfl rfl ?_
          refine gx_callV 10 (As := [.ref 39]) (st := []) dX10_perform_29 ml_X10_194 mm_X10_writable rfl rfl rfl rfl rfl rfl ⟨rfl, rfl⟩ h (fun v h2 hq => ?_)
          clear h
          obtain ⟨r28, I25, L26, c27, rfl, rfl, h⟩ := hq
          show Z_J_perform g Q 32 [(0, .ref 0), (1, .int 2), (2, .ref 39)] [.int r28] I25 L26 c27
          refine gx_istore_n (lv' := [(0, .ref 0), (1, .int 2), (2, .ref 39), (3, .int r28)]) dX10_perform_32 rfl rfl rfl ?_
          refine gx_iconst (v := 0) dX10_perform_33 (by decide) ?_
          refine gx_istore (lv' := [(0, .ref 0), (1, .int 2), (2, .ref 39), (3, .int r28), (4, .int 0)]) dX10_perform_34 rfl rfl ?_
          exact h
        · replace h := h.2 (gm_bn0 z)
          refine gx_bipush (v := (-6)) dX10_perform_24 (by decide) ?_
          exact gx_iret dX10_perform_26 rfl rfl rfl ⟨_, _, _, _, rfl, rfl, h⟩
    | 3, _, hx =>
        have hx : x1 = 3 := hx
        replace h := h.2.2.2 hx
        subst hx
        refine gx_aald (v := 41) dX10_perform_15 rfl rfl rfl rfl (gm_vin rfl) (k := 3) rfl rfl ?_
        refine gx_astore_n (lv' := [(0, .ref 0), (1, .int 3), (2, .ref 41)]) dX10_perform_16 rfl rfl rfl ?_
        refine gx_aload_n 2 dX10_perform_17 rfl rfl ?_
        refine gx_callV 6 (As := []) (st := []) dX10_perform_18 ml_X10_190 mm_X6_isMissing rfl rfl rfl rfl rfl rfl ⟨rfl, rfl⟩ h (fun v h2 hq => ?_)
        clear h
        obtain ⟨b32, I29, L30, c31, rfl, rfl, h⟩ := hq
        show Z_J_perform g Q 21 [(0, .ref 0), (1, .int 3), (2, .ref 41)] [.int (gm_b b32)] I29 L30 c31
        refine gx_if_eq 27 dX10_perform_21 (by decide) ⟨fun z => ?_, fun z => ?_⟩
        · replace h := h.1 (gm_b0.mp z)
          refine gx_aload_n 0 dX10_perform_27 rfl rfl ?_
          refine gx_aload_n 2 dX10_perform_28 rfl rfl ?_
          refine gx_callV 10 (As := [.ref 41]) (st := []) dX10_perform_29 ml_X10_194 mm_X10_writable rfl rfl rfl rfl rfl rfl ⟨rfl, rfl⟩ h (fun v h2 hq => ?_)
          clear h
          obtain ⟨r36, I33, L34, c35, rfl, rfl, h⟩ := hq
          show Z_J_perform g Q 32 [(0, .ref 0), (1, .int 3), (2, .ref 41)] [.int r36] I33 L34 c35
          refine gx_istore_n (lv' := [(0, .ref 0), (1, .int 3), (2, .ref 41), (3, .int r36)]) dX10_perform_32 rfl rfl rfl ?_
          refine gx_iconst (v := 0) dX10_perform_33 (by decide) ?_
          refine gx_istore (lv' := [(0, .ref 0), (1, .int 3), (2, .ref 41), (3, .int r36), (4, .int 0)]) dX10_perform_34 rfl rfl ?_
          exact h
        · replace h := h.2 (gm_bn0 z)
          refine gx_bipush (v := (-6)) dX10_perform_24 (by decide) ?_
          exact gx_iret dX10_perform_26 rfl rfl rfl ⟨_, _, _, _, rfl, rfl, h⟩
set_option maxRecDepth 100000 in
theorem r_J_perform_36_35 {g : gm_G} {Q : Int32 → mI → mL → gm_cfg → Prop} {x3 x4 : Int32} {I : mI} {L : mL} {c : gm_cfg} (h : ((x3 ≤ x4 → Q x3 I L c) ∧ (¬ x3 ≤ x4 → (vp_in x4 40 ∧ (C_J_toldGuesser g (L 36 (Int32.toNatClampNeg x4)) I L c (fun r4 I1 L2 c3 => (vp_in x4 40 ∧ (C_J_toldNumber g (L2 36 (Int32.toNatClampNeg x4)) I1 L2 c3 (fun r8 I5 L6 c7 => (C_Sh20_add g r4 r8 I5 L6 c7 (fun I9 L10 c11 => Z_J_perform g Q 36 [(0, .ref 0), (1, .int 0), (2, .ref 35), (3, .int x3), (4, .int (x4 + 1))] [] I9 L10 c11))))))))))) : Z_J_perform g Q 36 [(0, .ref 0), (1, .int 0), (2, .ref 35), (3, .int x3), (4, .int x4)] [] I L c := by
  refine gx_iload 4 dX10_perform_36 rfl ?_
  refine gx_iload_n 3 dX10_perform_38 rfl rfl ?_
  refine gx_icmp_ge 75 dX10_perform_39 (by decide) ⟨fun z => ?_, fun z => ?_⟩
  · replace h := h.1 z
    refine gx_iload_n 3 dX10_perform_75 rfl rfl ?_
    exact gx_iret dX10_perform_76 rfl rfl rfl ⟨_, _, _, _, rfl, rfl, h⟩
  · replace h := h.2 z
    refine gx_aload_n 0 dX10_perform_42 rfl rfl ?_
    refine gx_getr 10 5 (v := 20) dX10_perform_43 fl_X10_68 rfl rfl rfl ?_
    refine gx_aload_n 2 dX10_perform_46 rfl rfl ?_
    refine gx_getr 6 0 (v := 36) dX10_perform_47 fl_X10_199 rfl rfl rfl ?_
    refine gx_iload 4 dX10_perform_50 rfl ?_
    obtain ⟨hi, h⟩ := h
    refine gx_lald (v := (L 36 (Int32.toNatClampNeg x4))) dX10_perform_52 rfl rfl hi (k := (Int32.toNatClampNeg x4)) rfl rfl ?_
    refine gx_callS (As := [.long (L 36 (Int32.toNatClampNeg x4))]) (st := [.ref 20]) dX10_perform_53 ml_X10_211 mm_X10_toldGuesser rfl rfl rfl rfl ⟨rfl, rfl⟩ h (fun v h2 hq => ?_)
    clear h
    obtain ⟨r4, I1, L2, c3, rfl, rfl, h⟩ := hq
    show Z_J_perform g Q 56 [(0, .ref 0), (1, .int 0), (2, .ref 35), (3, .int x3), (4, .int x4)] [.int r4, .ref 20] I1 L2 c3
    refine gx_aload_n 2 dX10_perform_56 rfl rfl ?_
    refine gx_getr 6 0 (v := 36) dX10_perform_57 fl_X10_199 rfl rfl rfl ?_
    refine gx_iload 4 dX10_perform_60 rfl ?_
    obtain ⟨hi, h⟩ := h
    refine gx_lald (v := (L2 36 (Int32.toNatClampNeg x4))) dX10_perform_62 rfl rfl hi (k := (Int32.toNatClampNeg x4)) rfl rfl ?_
    refine gx_callS (As := [.long (L2 36 (Int32.toNatClampNeg x4))]) (st := [.int r4, .ref 20]) dX10_perform_63 ml_X10_215 mm_X10_toldNumber rfl rfl rfl rfl ⟨rfl, rfl⟩ h (fun v h2 hq => ?_)
    clear h
    obtain ⟨r8, I5, L6, c7, rfl, rfl, h⟩ := hq
    show Z_J_perform g Q 66 [(0, .ref 0), (1, .int 0), (2, .ref 35), (3, .int x3), (4, .int x4)] [.int r8, .int r4, .ref 20] I5 L6 c7
    refine gx_callV 8 (As := [.int r4, .int r8]) (st := []) dX10_perform_66 ml_X10_157 mm_X8_add rfl rfl rfl rfl rfl rfl ⟨rfl, rfl⟩ h (fun v h2 hq => ?_)
    clear h
    obtain ⟨I9, L10, c11, rfl, rfl, h⟩ := hq
    show Z_J_perform g Q 69 [(0, .ref 0), (1, .int 0), (2, .ref 35), (3, .int x3), (4, .int x4)] [] I9 L10 c11
    refine gx_iinc (v := (x4 + 1)) (lv' := [(0, .ref 0), (1, .int 0), (2, .ref 35), (3, .int x3), (4, .int (x4 + 1))]) 4 dX10_perform_69 rfl rfl rfl rfl ?_
    refine gx_goto 36 dX10_perform_72 (by decide) ?_
    exact h
set_option maxRecDepth 100000 in
theorem r_J_perform_36_37 {g : gm_G} {Q : Int32 → mI → mL → gm_cfg → Prop} {x3 x4 : Int32} {I : mI} {L : mL} {c : gm_cfg} (h : ((x3 ≤ x4 → Q x3 I L c) ∧ (¬ x3 ≤ x4 → (vp_in x4 40 ∧ (C_J_toldGuesser g (L 38 (Int32.toNatClampNeg x4)) I L c (fun r4 I1 L2 c3 => (vp_in x4 40 ∧ (C_J_toldNumber g (L2 38 (Int32.toNatClampNeg x4)) I1 L2 c3 (fun r8 I5 L6 c7 => (C_Sh20_add g r4 r8 I5 L6 c7 (fun I9 L10 c11 => Z_J_perform g Q 36 [(0, .ref 0), (1, .int 1), (2, .ref 37), (3, .int x3), (4, .int (x4 + 1))] [] I9 L10 c11))))))))))) : Z_J_perform g Q 36 [(0, .ref 0), (1, .int 1), (2, .ref 37), (3, .int x3), (4, .int x4)] [] I L c := by
  refine gx_iload 4 dX10_perform_36 rfl ?_
  refine gx_iload_n 3 dX10_perform_38 rfl rfl ?_
  refine gx_icmp_ge 75 dX10_perform_39 (by decide) ⟨fun z => ?_, fun z => ?_⟩
  · replace h := h.1 z
    refine gx_iload_n 3 dX10_perform_75 rfl rfl ?_
    exact gx_iret dX10_perform_76 rfl rfl rfl ⟨_, _, _, _, rfl, rfl, h⟩
  · replace h := h.2 z
    refine gx_aload_n 0 dX10_perform_42 rfl rfl ?_
    refine gx_getr 10 5 (v := 20) dX10_perform_43 fl_X10_68 rfl rfl rfl ?_
    refine gx_aload_n 2 dX10_perform_46 rfl rfl ?_
    refine gx_getr 6 0 (v := 38) dX10_perform_47 fl_X10_199 rfl rfl rfl ?_
    refine gx_iload 4 dX10_perform_50 rfl ?_
    obtain ⟨hi, h⟩ := h
    refine gx_lald (v := (L 38 (Int32.toNatClampNeg x4))) dX10_perform_52 rfl rfl hi (k := (Int32.toNatClampNeg x4)) rfl rfl ?_
    refine gx_callS (As := [.long (L 38 (Int32.toNatClampNeg x4))]) (st := [.ref 20]) dX10_perform_53 ml_X10_211 mm_X10_toldGuesser rfl rfl rfl rfl ⟨rfl, rfl⟩ h (fun v h2 hq => ?_)
    clear h
    obtain ⟨r4, I1, L2, c3, rfl, rfl, h⟩ := hq
    show Z_J_perform g Q 56 [(0, .ref 0), (1, .int 1), (2, .ref 37), (3, .int x3), (4, .int x4)] [.int r4, .ref 20] I1 L2 c3
    refine gx_aload_n 2 dX10_perform_56 rfl rfl ?_
    refine gx_getr 6 0 (v := 38) dX10_perform_57 fl_X10_199 rfl rfl rfl ?_
    refine gx_iload 4 dX10_perform_60 rfl ?_
    obtain ⟨hi, h⟩ := h
    refine gx_lald (v := (L2 38 (Int32.toNatClampNeg x4))) dX10_perform_62 rfl rfl hi (k := (Int32.toNatClampNeg x4)) rfl rfl ?_
    refine gx_callS (As := [.long (L2 38 (Int32.toNatClampNeg x4))]) (st := [.int r4, .ref 20]) dX10_perform_63 ml_X10_215 mm_X10_toldNumber rfl rfl rfl rfl ⟨rfl, rfl⟩ h (fun v h2 hq => ?_)
    clear h
    obtain ⟨r8, I5, L6, c7, rfl, rfl, h⟩ := hq
    show Z_J_perform g Q 66 [(0, .ref 0), (1, .int 1), (2, .ref 37), (3, .int x3), (4, .int x4)] [.int r8, .int r4, .ref 20] I5 L6 c7
    refine gx_callV 8 (As := [.int r4, .int r8]) (st := []) dX10_perform_66 ml_X10_157 mm_X8_add rfl rfl rfl rfl rfl rfl ⟨rfl, rfl⟩ h (fun v h2 hq => ?_)
    clear h
    obtain ⟨I9, L10, c11, rfl, rfl, h⟩ := hq
    show Z_J_perform g Q 69 [(0, .ref 0), (1, .int 1), (2, .ref 37), (3, .int x3), (4, .int x4)] [] I9 L10 c11
    refine gx_iinc (v := (x4 + 1)) (lv' := [(0, .ref 0), (1, .int 1), (2, .ref 37), (3, .int x3), (4, .int (x4 + 1))]) 4 dX10_perform_69 rfl rfl rfl rfl ?_
    refine gx_goto 36 dX10_perform_72 (by decide) ?_
    exact h
set_option maxRecDepth 100000 in
theorem r_J_perform_36_39 {g : gm_G} {Q : Int32 → mI → mL → gm_cfg → Prop} {x3 x4 : Int32} {I : mI} {L : mL} {c : gm_cfg} (h : ((x3 ≤ x4 → Q x3 I L c) ∧ (¬ x3 ≤ x4 → (vp_in x4 40 ∧ (C_J_toldGuesser g (L 40 (Int32.toNatClampNeg x4)) I L c (fun r4 I1 L2 c3 => (vp_in x4 40 ∧ (C_J_toldNumber g (L2 40 (Int32.toNatClampNeg x4)) I1 L2 c3 (fun r8 I5 L6 c7 => (C_Sh20_add g r4 r8 I5 L6 c7 (fun I9 L10 c11 => Z_J_perform g Q 36 [(0, .ref 0), (1, .int 2), (2, .ref 39), (3, .int x3), (4, .int (x4 + 1))] [] I9 L10 c11))))))))))) : Z_J_perform g Q 36 [(0, .ref 0), (1, .int 2), (2, .ref 39), (3, .int x3), (4, .int x4)] [] I L c := by
  refine gx_iload 4 dX10_perform_36 rfl ?_
  refine gx_iload_n 3 dX10_perform_38 rfl rfl ?_
  refine gx_icmp_ge 75 dX10_perform_39 (by decide) ⟨fun z => ?_, fun z => ?_⟩
  · replace h := h.1 z
    refine gx_iload_n 3 dX10_perform_75 rfl rfl ?_
    exact gx_iret dX10_perform_76 rfl rfl rfl ⟨_, _, _, _, rfl, rfl, h⟩
  · replace h := h.2 z
    refine gx_aload_n 0 dX10_perform_42 rfl rfl ?_
    refine gx_getr 10 5 (v := 20) dX10_perform_43 fl_X10_68 rfl rfl rfl ?_
    refine gx_aload_n 2 dX10_perform_46 rfl rfl ?_
    refine gx_getr 6 0 (v := 40) dX10_perform_47 fl_X10_199 rfl rfl rfl ?_
    refine gx_iload 4 dX10_perform_50 rfl ?_
    obtain ⟨hi, h⟩ := h
    refine gx_lald (v := (L 40 (Int32.toNatClampNeg x4))) dX10_perform_52 rfl rfl hi (k := (Int32.toNatClampNeg x4)) rfl rfl ?_
    refine gx_callS (As := [.long (L 40 (Int32.toNatClampNeg x4))]) (st := [.ref 20]) dX10_perform_53 ml_X10_211 mm_X10_toldGuesser rfl rfl rfl rfl ⟨rfl, rfl⟩ h (fun v h2 hq => ?_)
    clear h
    obtain ⟨r4, I1, L2, c3, rfl, rfl, h⟩ := hq
    show Z_J_perform g Q 56 [(0, .ref 0), (1, .int 2), (2, .ref 39), (3, .int x3), (4, .int x4)] [.int r4, .ref 20] I1 L2 c3
    refine gx_aload_n 2 dX10_perform_56 rfl rfl ?_
    refine gx_getr 6 0 (v := 40) dX10_perform_57 fl_X10_199 rfl rfl rfl ?_
    refine gx_iload 4 dX10_perform_60 rfl ?_
    obtain ⟨hi, h⟩ := h
    refine gx_lald (v := (L2 40 (Int32.toNatClampNeg x4))) dX10_perform_62 rfl rfl hi (k := (Int32.toNatClampNeg x4)) rfl rfl ?_
    refine gx_callS (As := [.long (L2 40 (Int32.toNatClampNeg x4))]) (st := [.int r4, .ref 20]) dX10_perform_63 ml_X10_215 mm_X10_toldNumber rfl rfl rfl rfl ⟨rfl, rfl⟩ h (fun v h2 hq => ?_)
    clear h
    obtain ⟨r8, I5, L6, c7, rfl, rfl, h⟩ := hq
    show Z_J_perform g Q 66 [(0, .ref 0), (1, .int 2), (2, .ref 39), (3, .int x3), (4, .int x4)] [.int r8, .int r4, .ref 20] I5 L6 c7
    refine gx_callV 8 (As := [.int r4, .int r8]) (st := []) dX10_perform_66 ml_X10_157 mm_X8_add rfl rfl rfl rfl rfl rfl ⟨rfl, rfl⟩ h (fun v h2 hq => ?_)
    clear h
    obtain ⟨I9, L10, c11, rfl, rfl, h⟩ := hq
    show Z_J_perform g Q 69 [(0, .ref 0), (1, .int 2), (2, .ref 39), (3, .int x3), (4, .int x4)] [] I9 L10 c11
    refine gx_iinc (v := (x4 + 1)) (lv' := [(0, .ref 0), (1, .int 2), (2, .ref 39), (3, .int x3), (4, .int (x4 + 1))]) 4 dX10_perform_69 rfl rfl rfl rfl ?_
    refine gx_goto 36 dX10_perform_72 (by decide) ?_
    exact h
set_option maxRecDepth 100000 in
theorem r_J_perform_36_41 {g : gm_G} {Q : Int32 → mI → mL → gm_cfg → Prop} {x3 x4 : Int32} {I : mI} {L : mL} {c : gm_cfg} (h : ((x3 ≤ x4 → Q x3 I L c) ∧ (¬ x3 ≤ x4 → (vp_in x4 40 ∧ (C_J_toldGuesser g (L 42 (Int32.toNatClampNeg x4)) I L c (fun r4 I1 L2 c3 => (vp_in x4 40 ∧ (C_J_toldNumber g (L2 42 (Int32.toNatClampNeg x4)) I1 L2 c3 (fun r8 I5 L6 c7 => (C_Sh20_add g r4 r8 I5 L6 c7 (fun I9 L10 c11 => Z_J_perform g Q 36 [(0, .ref 0), (1, .int 3), (2, .ref 41), (3, .int x3), (4, .int (x4 + 1))] [] I9 L10 c11))))))))))) : Z_J_perform g Q 36 [(0, .ref 0), (1, .int 3), (2, .ref 41), (3, .int x3), (4, .int x4)] [] I L c := by
  refine gx_iload 4 dX10_perform_36 rfl ?_
  refine gx_iload_n 3 dX10_perform_38 rfl rfl ?_
  refine gx_icmp_ge 75 dX10_perform_39 (by decide) ⟨fun z => ?_, fun z => ?_⟩
  · replace h := h.1 z
    refine gx_iload_n 3 dX10_perform_75 rfl rfl ?_
    exact gx_iret dX10_perform_76 rfl rfl rfl ⟨_, _, _, _, rfl, rfl, h⟩
  · replace h := h.2 z
    refine gx_aload_n 0 dX10_perform_42 rfl rfl ?_
    refine gx_getr 10 5 (v := 20) dX10_perform_43 fl_X10_68 rfl rfl rfl ?_
    refine gx_aload_n 2 dX10_perform_46 rfl rfl ?_
    refine gx_getr 6 0 (v := 42) dX10_perform_47 fl_X10_199 rfl rfl rfl ?_
    refine gx_iload 4 dX10_perform_50 rfl ?_
    obtain ⟨hi, h⟩ := h
    refine gx_lald (v := (L 42 (Int32.toNatClampNeg x4))) dX10_perform_52 rfl rfl hi (k := (Int32.toNatClampNeg x4)) rfl rfl ?_
    refine gx_callS (As := [.long (L 42 (Int32.toNatClampNeg x4))]) (st := [.ref 20]) dX10_perform_53 ml_X10_211 mm_X10_toldGuesser rfl rfl rfl rfl ⟨rfl, rfl⟩ h (fun v h2 hq => ?_)
    clear h
    obtain ⟨r4, I1, L2, c3, rfl, rfl, h⟩ := hq
    show Z_J_perform g Q 56 [(0, .ref 0), (1, .int 3), (2, .ref 41), (3, .int x3), (4, .int x4)] [.int r4, .ref 20] I1 L2 c3
    refine gx_aload_n 2 dX10_perform_56 rfl rfl ?_
    refine gx_getr 6 0 (v := 42) dX10_perform_57 fl_X10_199 rfl rfl rfl ?_
    refine gx_iload 4 dX10_perform_60 rfl ?_
    obtain ⟨hi, h⟩ := h
    refine gx_lald (v := (L2 42 (Int32.toNatClampNeg x4))) dX10_perform_62 rfl rfl hi (k := (Int32.toNatClampNeg x4)) rfl rfl ?_
    refine gx_callS (As := [.long (L2 42 (Int32.toNatClampNeg x4))]) (st := [.int r4, .ref 20]) dX10_perform_63 ml_X10_215 mm_X10_toldNumber rfl rfl rfl rfl ⟨rfl, rfl⟩ h (fun v h2 hq => ?_)
    clear h
    obtain ⟨r8, I5, L6, c7, rfl, rfl, h⟩ := hq
    show Z_J_perform g Q 66 [(0, .ref 0), (1, .int 3), (2, .ref 41), (3, .int x3), (4, .int x4)] [.int r8, .int r4, .ref 20] I5 L6 c7
    refine gx_callV 8 (As := [.int r4, .int r8]) (st := []) dX10_perform_66 ml_X10_157 mm_X8_add rfl rfl rfl rfl rfl rfl ⟨rfl, rfl⟩ h (fun v h2 hq => ?_)
    clear h
    obtain ⟨I9, L10, c11, rfl, rfl, h⟩ := hq
    show Z_J_perform g Q 69 [(0, .ref 0), (1, .int 3), (2, .ref 41), (3, .int x3), (4, .int x4)] [] I9 L10 c11
    refine gx_iinc (v := (x4 + 1)) (lv' := [(0, .ref 0), (1, .int 3), (2, .ref 41), (3, .int x3), (4, .int (x4 + 1))]) 4 dX10_perform_69 rfl rfl rfl rfl ?_
    refine gx_goto 36 dX10_perform_72 (by decide) ?_
    exact h
abbrev Z_J_canDraw (g : gm_G) (Q : Bool → mI → mL → gm_cfg → Prop) (pc : Nat) (lv : List (Nat × Value)) (st : List Value) (I : mI) (L : mL) (c : gm_cfg) : Prop := gm_X g RX10 "canDraw" cX10_canDraw 1 (some .boolean) 1 0 0 (qZ Q) 0 0 pc lv st (SH, I, L, RR c)
abbrev C_J_canDraw (g : gm_G) (I : mI) (L : mL) (c : gm_cfg) (Q : Bool → mI → mL → gm_cfg → Prop) : Prop := gm_Met g yX10_canDraw cX10_canDraw 1 (some .boolean) 1 0 0 [.ref 0] (SH, I, L, RR c) (qZ Q)
set_option maxRecDepth 100000 in
theorem e_J_canDraw {g : gm_G} {Q : Bool → mI → mL → gm_cfg → Prop} {I : mI} {L : mL} {c : gm_cfg} (h : (((I 16 5) ≤ 0 → Q false I L c) ∧ (¬ (I 16 5) ≤ 0 → (((I 16 12) = 0 → Q false I L c) ∧ (¬ (I 16 12) = 0 → Q true I L c))))) : C_J_canDraw g  I L c Q := by
  refine gm_enter (lv := [(0, .ref 0)]) (by decide) rfl rfl rfl rfl ?_
  show Z_J_canDraw g Q 0 [(0, .ref 0)] [] I L c
  refine gx_aload_n 0 dX10_canDraw_0 rfl rfl ?_
  refine gx_getr 10 2 (v := 16) dX10_canDraw_1 fl_X10_65 rfl rfl rfl ?_
  refine gx_geti 1 5 (v := (I 16 5)) dX10_canDraw_4 fl_X10_220 rfl rfl rfl ?_
  refine gx_if_le 24 dX10_canDraw_7 (by decide) ⟨fun z => ?_, fun z => ?_⟩
  · replace h := h.1 z
    refine gx_iconst (v := 0) dX10_canDraw_24 (by decide) ?_
    exact gx_zret .boolean dX10_canDraw_25 rfl rfl rfl rfl ⟨false, _, _, _, rfl, rfl, h⟩
  · replace h := h.2 z
    refine gx_aload_n 0 dX10_canDraw_10 rfl rfl ?_
    refine gx_getr 10 2 (v := 16) dX10_canDraw_11 fl_X10_65 rfl rfl rfl ?_
    refine gx_geti 1 12 (v := (I 16 12)) dX10_canDraw_14 fl_X10_148 rfl rfl rfl ?_
    refine gx_if_eq 24 dX10_canDraw_17 (by decide) ⟨fun z => ?_, fun z => ?_⟩
    · replace h := h.1 z
      refine gx_iconst (v := 0) dX10_canDraw_24 (by decide) ?_
      exact gx_zret .boolean dX10_canDraw_25 rfl rfl rfl rfl ⟨false, _, _, _, rfl, rfl, h⟩
    · replace h := h.2 z
      refine gx_iconst (v := 1) dX10_canDraw_20 (by decide) ?_
      refine gx_goto 25 dX10_canDraw_21 (by decide) ?_
      exact gx_zret .boolean dX10_canDraw_25 rfl rfl rfl rfl ⟨true, _, _, _, rfl, rfl, h⟩
abbrev Z_J_come (g : gm_G) (Q : Int32 → mI → mL → gm_cfg → Prop) (pc : Nat) (lv : List (Nat × Value)) (st : List Value) (I : mI) (L : mL) (c : gm_cfg) : Prop := gm_X g RX10 "come" cX10_come 3 (some .int) 5 0 0 (qI Q) 0 0 pc lv st (SH, I, L, RR c)
abbrev C_J_come (g : gm_G) (x1 : Int32) (x2 : Int32) (I : mI) (L : mL) (c : gm_cfg) (Q : Int32 → mI → mL → gm_cfg → Prop) : Prop := gm_Met g yX10_come cX10_come 3 (some .int) 5 0 0 [.ref 0, .int x1, .int x2] (SH, I, L, RR c) (qI Q)
set_option maxRecDepth 100000 in
theorem e_J_come {g : gm_G} {Q : Int32 → mI → mL → gm_cfg → Prop} {x1 x2 : Int32} {I : mI} {L : mL} {c : gm_cfg} (h : ((x2 < 1 → Q (-3) I L c) ∧ (¬ x2 < 1 → ((x2 ≤ 40 → (C_J_canDraw g I L c (fun b4 I1 L2 c3 => ((b4 = false → Q (-5) I1 L2 c3) ∧ (b4 = true → ((((I1 20 2) + x2) ≤ 40 → (C_Dr_start g x1 I1 L2 c3 (fun I5 L6 c7 => (C_Dr_fill_16_20 g x2 (I5 16 9) I5 L6 c7 (fun I8 L9 c10 => Q (I8 20 2) I8 L9 c10))))) ∧ (¬ ((I1 20 2) + x2) ≤ 40 → Q (-4) I1 L2 c3))))))) ∧ (¬ x2 ≤ 40 → Q (-3) I L c))))) : C_J_come g x1 x2 I L c Q := by
  refine gm_enter (lv := [(0, .ref 0), (1, .int x1), (2, .int x2)]) (by decide) rfl rfl rfl rfl ?_
  show Z_J_come g Q 0 [(0, .ref 0), (1, .int x1), (2, .int x2)] [] I L c
  refine gx_iload_n 2 dX10_come_0 rfl rfl ?_
  refine gx_iconst (v := 1) dX10_come_1 (by decide) ?_
  refine gx_icmp_lt 11 dX10_come_2 (by decide) ⟨fun z => ?_, fun z => ?_⟩
  · replace h := h.1 z
    refine gx_bipush (v := (-3)) dX10_come_11 (by decide) ?_
    exact gx_iret dX10_come_13 rfl rfl rfl ⟨_, _, _, _, rfl, rfl, h⟩
  · replace h := h.2 z
    refine gx_iload_n 2 dX10_come_5 rfl rfl ?_
    refine gx_bipush (v := 40) dX10_come_6 (by decide) ?_
    refine gx_icmp_le 14 dX10_come_8 (by decide) ⟨fun z => ?_, fun z => ?_⟩
    · replace h := h.1 z
      refine gx_aload_n 0 dX10_come_14 rfl rfl ?_
      refine gx_callV 10 (As := []) (st := []) dX10_come_15 ml_X10_226 mm_X10_canDraw rfl rfl rfl rfl rfl rfl ⟨rfl, rfl⟩ h (fun v h2 hq => ?_)
      clear h
      obtain ⟨b4, I1, L2, c3, rfl, rfl, h⟩ := hq
      show Z_J_come g Q 18 [(0, .ref 0), (1, .int x1), (2, .int x2)] [.int (gm_b b4)] I1 L2 c3
      refine gx_if_ne 24 dX10_come_18 (by decide) ⟨fun z => ?_, fun z => ?_⟩
      · replace h := h.1 (gm_b0.mp z)
        refine gx_bipush (v := (-5)) dX10_come_21 (by decide) ?_
        exact gx_iret dX10_come_23 rfl rfl rfl ⟨_, _, _, _, rfl, rfl, h⟩
      · replace h := h.2 (gm_bn0 z)
        refine gx_aload_n 0 dX10_come_24 rfl rfl ?_
        refine gx_getr 10 5 (v := 20) dX10_come_25 fl_X10_68 rfl rfl rfl ?_
        refine gx_geti 8 2 (v := (I1 20 2)) dX10_come_28 fl_X10_154 rfl rfl rfl ?_
        refine gx_iload_n 2 dX10_come_31 rfl rfl ?_
        refine gx_iadd dX10_come_32 ?_
        refine gx_bipush (v := 40) dX10_come_33 (by decide) ?_
        refine gx_icmp_le 41 dX10_come_35 (by decide) ⟨fun z => ?_, fun z => ?_⟩
        · replace h := h.1 z
          refine gx_aload_n 0 dX10_come_41 rfl rfl ?_
          refine gx_getr 10 7 (v := 10) dX10_come_42 fl_X10_37 rfl rfl rfl ?_
          refine gx_iload_n 1 dX10_come_45 rfl rfl ?_
          refine gx_callV 0 (As := [.int x1]) (st := []) dX10_come_46 ml_X10_229 mm_X0_start rfl rfl rfl rfl rfl rfl ⟨rfl, rfl⟩ h (fun v h2 hq => ?_)
          clear h
          obtain ⟨I5, L6, c7, rfl, rfl, h⟩ := hq
          show Z_J_come g Q 49 [(0, .ref 0), (1, .int x1), (2, .int x2)] [] I5 L6 c7
          refine gx_aload_n 0 dX10_come_49 rfl rfl ?_
          refine gx_getr 10 7 (v := 10) dX10_come_50 fl_X10_37 rfl rfl rfl ?_
          refine gx_aload_n 0 dX10_come_53 rfl rfl ?_
          refine gx_getr 10 2 (v := 16) dX10_come_54 fl_X10_65 rfl rfl rfl ?_
          refine gx_aload_n 0 dX10_come_57 rfl rfl ?_
          refine gx_getr 10 5 (v := 20) dX10_come_58 fl_X10_68 rfl rfl rfl ?_
          refine gx_iload_n 2 dX10_come_61 rfl rfl ?_
          refine gx_aload_n 0 dX10_come_62 rfl rfl ?_
          refine gx_getr 10 2 (v := 16) dX10_come_63 fl_X10_65 rfl rfl rfl ?_
          refine gx_geti 1 9 (v := (I5 16 9)) dX10_come_66 fl_X10_168 rfl rfl rfl ?_
          refine gx_callV 0 (As := [.ref 16, .ref 20, .int x2, .int (I5 16 9)]) (st := []) dX10_come_69 ml_X10_232 mm_X0_fill rfl rfl rfl rfl rfl rfl ⟨rfl, rfl⟩ h (fun v h2 hq => ?_)
          clear h
          obtain ⟨I8, L9, c10, rfl, rfl, h⟩ := hq
          show Z_J_come g Q 72 [(0, .ref 0), (1, .int x1), (2, .int x2)] [] I8 L9 c10
          refine gx_aload_n 0 dX10_come_72 rfl rfl ?_
          refine gx_getr 10 5 (v := 20) dX10_come_73 fl_X10_68 rfl rfl rfl ?_
          refine gx_geti 8 2 (v := (I8 20 2)) dX10_come_76 fl_X10_154 rfl rfl rfl ?_
          exact gx_iret dX10_come_79 rfl rfl rfl ⟨_, _, _, _, rfl, rfl, h⟩
        · replace h := h.2 z
          refine gx_bipush (v := (-4)) dX10_come_38 (by decide) ?_
          exact gx_iret dX10_come_40 rfl rfl rfl ⟨_, _, _, _, rfl, rfl, h⟩
    · replace h := h.2 z
      refine gx_bipush (v := (-3)) dX10_come_11 (by decide) ?_
      exact gx_iret dX10_come_13 rfl rfl rfl ⟨_, _, _, _, rfl, rfl, h⟩
abbrev Z_J_leader (g : gm_G) (Q : Int32 → mI → mL → gm_cfg → Prop) (pc : Nat) (lv : List (Nat × Value)) (st : List Value) (I : mI) (L : mL) (c : gm_cfg) : Prop := gm_X g RX10 "leader" cX10_leader 2 (some .int) 2 0 0 (qI Q) 0 0 pc lv st (SH, I, L, RR c)
abbrev C_J_leader (g : gm_G) (x1 : Int32) (I : mI) (L : mL) (c : gm_cfg) (Q : Int32 → mI → mL → gm_cfg → Prop) : Prop := gm_Met g yX10_leader cX10_leader 2 (some .int) 2 0 0 [.ref 0, .int x1] (SH, I, L, RR c) (qI Q)
set_option maxRecDepth 100000 in
theorem e_J_leader {g : gm_G} {Q : Int32 → mI → mL → gm_cfg → Prop} {x1 : Int32} {I : mI} {L : mL} {c : gm_cfg} (h : (C_J_isJar g x1 I L c (fun b4 I1 L2 c3 => ((b4 = false → Q (-3) I1 L2 c3) ∧ (b4 = true → (C_Sh20_nearestTo g x1 I1 L2 c3 (fun r8 I5 L6 c7 => Q r8 I5 L6 c7))))))) : C_J_leader g x1 I L c Q := by
  refine gm_enter (lv := [(0, .ref 0), (1, .int x1)]) (by decide) rfl rfl rfl rfl ?_
  show Z_J_leader g Q 0 [(0, .ref 0), (1, .int x1)] [] I L c
  refine gx_iload_n 1 dX10_leader_0 rfl rfl ?_
  refine gx_callS (As := [.int x1]) (st := []) dX10_leader_1 ml_X10_135 mm_X10_isJar rfl rfl rfl rfl ⟨rfl, rfl⟩ h (fun v h2 hq => ?_)
  clear h
  obtain ⟨b4, I1, L2, c3, rfl, rfl, h⟩ := hq
  show Z_J_leader g Q 4 [(0, .ref 0), (1, .int x1)] [.int (gm_b b4)] I1 L2 c3
  refine gx_if_eq 18 dX10_leader_4 (by decide) ⟨fun z => ?_, fun z => ?_⟩
  · replace h := h.1 (gm_b0.mp z)
    refine gx_bipush (v := (-3)) dX10_leader_18 (by decide) ?_
    exact gx_iret dX10_leader_20 rfl rfl rfl ⟨_, _, _, _, rfl, rfl, h⟩
  · replace h := h.2 (gm_bn0 z)
    refine gx_aload_n 0 dX10_leader_7 rfl rfl ?_
    refine gx_getr 10 5 (v := 20) dX10_leader_8 fl_X10_68 rfl rfl rfl ?_
    refine gx_iload_n 1 dX10_leader_11 rfl rfl ?_
    refine gx_callV 8 (As := [.int x1]) (st := []) dX10_leader_12 ml_X10_236 mm_X8_nearestTo rfl rfl rfl rfl rfl rfl ⟨rfl, rfl⟩ h (fun v h2 hq => ?_)
    clear h
    obtain ⟨r8, I5, L6, c7, rfl, rfl, h⟩ := hq
    show Z_J_leader g Q 15 [(0, .ref 0), (1, .int x1)] [.int r8] I5 L6 c7
    refine gx_goto 20 dX10_leader_15 (by decide) ?_
    exact gx_iret dX10_leader_20 rfl rfl rfl ⟨_, _, _, _, rfl, rfl, h⟩
abbrev Z_J_winner (g : gm_G) (Q : Int32 → mI → mL → gm_cfg → Prop) (pc : Nat) (lv : List (Nat × Value)) (st : List Value) (I : mI) (L : mL) (c : gm_cfg) : Prop := gm_X g RX10 "winner" cX10_winner 1 (some .int) 2 0 0 (qI Q) 0 0 pc lv st (SH, I, L, RR c)
abbrev C_J_winner (g : gm_G) (I : mI) (L : mL) (c : gm_cfg) (Q : Int32 → mI → mL → gm_cfg → Prop) : Prop := gm_Met g yX10_winner cX10_winner 1 (some .int) 2 0 0 [.ref 0] (SH, I, L, RR c) (qI Q)
set_option maxRecDepth 100000 in
theorem e_J_winner {g : gm_G} {Q : Int32 → mI → mL → gm_cfg → Prop} {I : mI} {L : mL} {c : gm_cfg} (h : (((I 16 12) = 0 → Q (-5) I L c) ∧ (¬ (I 16 12) = 0 → (C_Sh20_nearestTo g (I 16 12) I L c (fun r4 I1 L2 c3 => Q r4 I1 L2 c3))))) : C_J_winner g  I L c Q := by
  refine gm_enter (lv := [(0, .ref 0)]) (by decide) rfl rfl rfl rfl ?_
  show Z_J_winner g Q 0 [(0, .ref 0)] [] I L c
  refine gx_aload_n 0 dX10_winner_0 rfl rfl ?_
  refine gx_getr 10 2 (v := 16) dX10_winner_1 fl_X10_65 rfl rfl rfl ?_
  refine gx_geti 1 12 (v := (I 16 12)) dX10_winner_4 fl_X10_148 rfl rfl rfl ?_
  refine gx_if_ne 15 dX10_winner_7 (by decide) ⟨fun z => ?_, fun z => ?_⟩
  · replace h := h.1 z
    refine gx_bipush (v := (-5)) dX10_winner_10 (by decide) ?_
    refine gx_goto 29 dX10_winner_12 (by decide) ?_
    exact gx_iret dX10_winner_29 rfl rfl rfl ⟨_, _, _, _, rfl, rfl, h⟩
  · replace h := h.2 z
    refine gx_aload_n 0 dX10_winner_15 rfl rfl ?_
    refine gx_getr 10 5 (v := 20) dX10_winner_16 fl_X10_68 rfl rfl rfl ?_
    refine gx_aload_n 0 dX10_winner_19 rfl rfl ?_
    refine gx_getr 10 2 (v := 16) dX10_winner_20 fl_X10_65 rfl rfl rfl ?_
    refine gx_geti 1 12 (v := (I 16 12)) dX10_winner_23 fl_X10_148 rfl rfl rfl ?_
    refine gx_callV 8 (As := [.int (I 16 12)]) (st := []) dX10_winner_26 ml_X10_236 mm_X8_nearestTo rfl rfl rfl rfl rfl rfl ⟨rfl, rfl⟩ h (fun v h2 hq => ?_)
    clear h
    obtain ⟨r4, I1, L2, c3, rfl, rfl, h⟩ := hq
    show Z_J_winner g Q 29 [(0, .ref 0)] [.int r4] I1 L2 c3
    exact gx_iret dX10_winner_29 rfl rfl rfl ⟨_, _, _, _, rfl, rfl, h⟩
abbrev Z_J_wins (g : gm_G) (Q : Int32 → mI → mL → gm_cfg → Prop) (pc : Nat) (lv : List (Nat × Value)) (st : List Value) (I : mI) (L : mL) (c : gm_cfg) : Prop := gm_X g RX10 "wins" cX10_wins 4 (some .int) 6 0 0 (qI Q) 0 0 pc lv st (SH, I, L, RR c)
abbrev C_J_wins (g : gm_G) (x1 : Int32) (x2 : Int32) (I : mI) (L : mL) (c : gm_cfg) (Q : Int32 → mI → mL → gm_cfg → Prop) : Prop := gm_Met g yX10_wins cX10_wins 4 (some .int) 6 0 0 [.ref 0, .int x1, .int x2] (SH, I, L, RR c) (qI Q)
set_option maxRecDepth 100000 in
theorem e_J_wins {g : gm_G} {Q : Int32 → mI → mL → gm_cfg → Prop} {x1 x2 : Int32} {I : mI} {L : mL} {c : gm_cfg} (h : (C_Sh20_has g x1 I L c (fun b4 I1 L2 c3 => ((b4 = false → Q (-2) I1 L2 c3) ∧ (b4 = true → ((x2 < 0 → Q (-2) I1 L2 c3) ∧ (¬ x2 < 0 → ((x2 ≤ 3 → (C_Sr_reachOf g x1 I1 L2 c3 (fun o8 I5 L6 c7 => o8 = 24 ∧ ((x2 = 0 → (C_Re_width g I5 L6 c7 (fun r12 I9 L10 c11 => Q r12 I9 L10 c11))) ∧ (¬ x2 = 0 → ((x2 = 3 → (C_Sr_weigh g 0 I5 L6 c7 (fun I13 L14 c15 => (C_Sr_sum g (I13 24 0) (I13 24 1) I13 L14 c15 (fun r19 I16 L17 c18 => Q (Int64.toInt32 r19) I16 L17 c18))))) ∧ (¬ x2 = 3 → (C_Re_width g I5 L6 c7 (fun r23 I20 L21 c22 => ((r23 = 0 → Q (-1) I20 L21 c22) ∧ (¬ r23 = 0 → ((x2 = 1 → Q (I20 24 0) I20 L21 c22) ∧ (¬ x2 = 1 → Q (I20 24 1) I20 L21 c22))))))))))))) ∧ (¬ x2 ≤ 3 → Q (-2) I1 L2 c3))))))))) : C_J_wins g x1 x2 I L c Q := by
  refine gm_enter (lv := [(0, .ref 0), (1, .int x1), (2, .int x2)]) (by decide) rfl rfl rfl rfl ?_
  show Z_J_wins g Q 0 [(0, .ref 0), (1, .int x1), (2, .int x2)] [] I L c
  refine gx_aload_n 0 dX10_wins_0 rfl rfl ?_
  refine gx_getr 10 5 (v := 20) dX10_wins_1 fl_X10_68 rfl rfl rfl ?_
  refine gx_iload_n 1 dX10_wins_4 rfl rfl ?_
  refine gx_callV 8 (As := [.int x1]) (st := []) dX10_wins_5 ml_X10_161 mm_X8_has rfl rfl rfl rfl rfl rfl ⟨rfl, rfl⟩ h (fun v h2 hq => ?_)
  clear h
  obtain ⟨b4, I1, L2, c3, rfl, rfl, h⟩ := hq
  show Z_J_wins g Q 8 [(0, .ref 0), (1, .int x1), (2, .int x2)] [.int (gm_b b4)] I1 L2 c3
  refine gx_if_eq 20 dX10_wins_8 (by decide) ⟨fun z => ?_, fun z => ?_⟩
  · replace h := h.1 (gm_b0.mp z)
    refine gx_bipush (v := (-2)) dX10_wins_20 (by decide) ?_
    exact gx_iret dX10_wins_22 rfl rfl rfl ⟨_, _, _, _, rfl, rfl, h⟩
  · replace h := h.2 (gm_bn0 z)
    refine gx_iload_n 2 dX10_wins_11 rfl rfl ?_
    refine gx_if_lt 20 dX10_wins_12 (by decide) ⟨fun z => ?_, fun z => ?_⟩
    · replace h := h.1 z
      refine gx_bipush (v := (-2)) dX10_wins_20 (by decide) ?_
      exact gx_iret dX10_wins_22 rfl rfl rfl ⟨_, _, _, _, rfl, rfl, h⟩
    · replace h := h.2 z
      refine gx_iload_n 2 dX10_wins_15 rfl rfl ?_
      refine gx_iconst (v := 3) dX10_wins_16 (by decide) ?_
      refine gx_icmp_le 23 dX10_wins_17 (by decide) ⟨fun z => ?_, fun z => ?_⟩
      · replace h := h.1 z
        refine gx_aload_n 0 dX10_wins_23 rfl rfl ?_
        refine gx_getr 10 8 (v := 23) dX10_wins_24 fl_X10_71 rfl rfl rfl ?_
        refine gx_iload_n 1 dX10_wins_27 rfl rfl ?_
        refine gx_callV 7 (As := [.int x1]) (st := []) dX10_wins_28 ml_X10_239 mm_X7_reachOf rfl rfl rfl rfl rfl rfl ⟨rfl, rfl⟩ h (fun v h2 hq => ?_)
        clear h
        obtain ⟨o8, I5, L6, c7, rfl, rfl, h⟩ := hq
        obtain ⟨rfl, h⟩ := h
        show Z_J_wins g Q 31 [(0, .ref 0), (1, .int x1), (2, .int x2)] [.ref 24] I5 L6 c7
        refine gx_astore_n (lv' := [(0, .ref 0), (1, .int x1), (2, .int x2), (3, .ref 24)]) dX10_wins_31 rfl rfl rfl ?_
        refine gx_iload_n 2 dX10_wins_32 rfl rfl ?_
        refine gx_if_ne 41 dX10_wins_33 (by decide) ⟨fun z => ?_, fun z => ?_⟩
        · replace h := h.1 z
          refine gx_aload_n 3 dX10_wins_36 rfl rfl ?_
          refine gx_callV 4 (As := []) (st := []) dX10_wins_37 ml_X10_243 mm_X4_width rfl rfl rfl rfl rfl rfl ⟨rfl, rfl⟩ h (fun v h2 hq => ?_)
          clear h
          obtain ⟨r12, I9, L10, c11, rfl, rfl, h⟩ := hq
          show Z_J_wins g Q 40 [(0, .ref 0), (1, .int x1), (2, .int x2), (3, .ref 24)] [.int r12] I9 L10 c11
          exact gx_iret dX10_wins_40 rfl rfl rfl ⟨_, _, _, _, rfl, rfl, h⟩
        · replace h := h.2 z
          refine gx_iload_n 2 dX10_wins_41 rfl rfl ?_
          refine gx_iconst (v := 3) dX10_wins_42 (by decide) ?_
          refine gx_icmp_ne 71 dX10_wins_43 (by decide) ⟨fun z => ?_, fun z => ?_⟩
          · replace h := h.1 z
            refine gx_aload_n 0 dX10_wins_46 rfl rfl ?_
            refine gx_getr 10 8 (v := 23) dX10_wins_47 fl_X10_71 rfl rfl rfl ?_
            refine gx_iconst (v := 0) dX10_wins_50 (by decide) ?_
            refine gx_callV 7 (As := [.int 0]) (st := []) dX10_wins_51 ml_X10_249 mm_X7_weigh rfl rfl rfl rfl rfl rfl ⟨rfl, rfl⟩ h (fun v h2 hq => ?_)
            clear h
            obtain ⟨I13, L14, c15, rfl, rfl, h⟩ := hq
            show Z_J_wins g Q 54 [(0, .ref 0), (1, .int x1), (2, .int x2), (3, .ref 24)] [] I13 L14 c15
            refine gx_aload_n 0 dX10_wins_54 rfl rfl ?_
            refine gx_getr 10 8 (v := 23) dX10_wins_55 fl_X10_71 rfl rfl rfl ?_
            refine gx_aload_n 3 dX10_wins_58 rfl rfl ?_
            refine gx_geti 4 0 (v := (I13 24 0)) dX10_wins_59 fl_X10_252 rfl rfl rfl ?_
            refine gx_aload_n 3 dX10_wins_62 rfl rfl ?_
            refine gx_geti 4 1 (v := (I13 24 1)) dX10_wins_63 fl_X10_255 rfl rfl rfl ?_
            refine gx_callV 7 (As := [.int (I13 24 0), .int (I13 24 1)]) (st := []) dX10_wins_66 ml_X10_258 mm_X7_sum rfl rfl rfl rfl rfl rfl ⟨rfl, rfl⟩ h (fun v h2 hq => ?_)
            clear h
            obtain ⟨r19, I16, L17, c18, rfl, rfl, h⟩ := hq
            show Z_J_wins g Q 69 [(0, .ref 0), (1, .int x1), (2, .int x2), (3, .ref 24)] [.long r19] I16 L17 c18
            refine gx_l2i dX10_wins_69 ?_
            exact gx_iret dX10_wins_70 rfl rfl rfl ⟨_, _, _, _, rfl, rfl, h⟩
          · replace h := h.2 z
            refine gx_aload_n 3 dX10_wins_71 rfl rfl ?_
            refine gx_callV 4 (As := []) (st := []) dX10_wins_72 ml_X10_243 mm_X4_width rfl rfl rfl rfl rfl rfl ⟨rfl, rfl⟩ h (fun v h2 hq => ?_)
            clear h
            obtain ⟨r23, I20, L21, c22, rfl, rfl, h⟩ := hq
            show Z_J_wins g Q 75 [(0, .ref 0), (1, .int x1), (2, .int x2), (3, .ref 24)] [.int r23] I20 L21 c22
            refine gx_if_ne 80 dX10_wins_75 (by decide) ⟨fun z => ?_, fun z => ?_⟩
            · replace h := h.1 z
              refine gx_iconst (v := (-1)) dX10_wins_78 (by decide) ?_
              exact gx_iret dX10_wins_79 rfl rfl rfl ⟨_, _, _, _, rfl, rfl, h⟩
            · replace h := h.2 z
              refine gx_iload_n 2 dX10_wins_80 rfl rfl ?_
              refine gx_iconst (v := 1) dX10_wins_81 (by decide) ?_
              refine gx_icmp_ne 92 dX10_wins_82 (by decide) ⟨fun z => ?_, fun z => ?_⟩
              · replace h := h.1 z
                refine gx_aload_n 3 dX10_wins_85 rfl rfl ?_
                refine gx_geti 4 0 (v := (I20 24 0)) dX10_wins_86 fl_X10_252 rfl rfl rfl ?_
                refine gx_goto 96 dX10_wins_89 (by decide) ?_
                exact gx_iret dX10_wins_96 rfl rfl rfl ⟨_, _, _, _, rfl, rfl, h⟩
              · replace h := h.2 z
                refine gx_aload_n 3 dX10_wins_92 rfl rfl ?_
                refine gx_geti 4 1 (v := (I20 24 1)) dX10_wins_93 fl_X10_255 rfl rfl rfl ?_
                exact gx_iret dX10_wins_96 rfl rfl rfl ⟨_, _, _, _, rfl, rfl, h⟩
      · replace h := h.2 z
        refine gx_bipush (v := (-2)) dX10_wins_20 (by decide) ?_
        exact gx_iret dX10_wins_22 rfl rfl rfl ⟨_, _, _, _, rfl, rfl, h⟩
abbrev Z_J_mean (g : gm_G) (Q : Int32 → mI → mL → gm_cfg → Prop) (pc : Nat) (lv : List (Nat × Value)) (st : List Value) (I : mI) (L : mL) (c : gm_cfg) : Prop := gm_X g RX10 "mean" cX10_mean 2 (some .int) 3 0 0 (qI Q) 0 0 pc lv st (SH, I, L, RR c)
abbrev C_J_mean (g : gm_G) (x1 : Int32) (I : mI) (L : mL) (c : gm_cfg) (Q : Int32 → mI → mL → gm_cfg → Prop) : Prop := gm_Met g yX10_mean cX10_mean 2 (some .int) 3 0 0 [.ref 0, .int x1] (SH, I, L, RR c) (qI Q)
set_option maxRecDepth 100000 in
theorem e_J_mean {g : gm_G} {Q : Int32 → mI → mL → gm_cfg → Prop} {x1 : Int32} {I : mI} {L : mL} {c : gm_cfg} (h : ((x1 = 0 → (C_Sh20_meanOf g (I 20 2) I L c (fun r4 I1 L2 c3 => Q r4 I1 L2 c3))) ∧ (¬ x1 = 0 → ((x1 = 1 → (C_Sh20_middle g I L c (fun r8 I5 L6 c7 => Q r8 I5 L6 c7))) ∧ (¬ x1 = 1 → ((x1 = 2 → (C_Sh20_meanOf g ((if 9 < (I 20 2) then 9 else (I 20 2)) : Int32) I L c (fun r12 I9 L10 c11 => Q r12 I9 L10 c11))) ∧ (¬ x1 = 2 → ((x1 = 3 → (C_Sh20_least g I L c (fun r16 I13 L14 c15 => Q r16 I13 L14 c15))) ∧ (¬ x1 = 3 → ((x1 = 4 → (C_Sh20_greatest g I L c (fun r20 I17 L18 c19 => Q r20 I17 L18 c19))) ∧ (¬ x1 = 4 → Q (-2) I L c))))))))))) : C_J_mean g x1 I L c Q := by
  refine gm_enter (lv := [(0, .ref 0), (1, .int x1)]) (by decide) rfl rfl rfl rfl ?_
  show Z_J_mean g Q 0 [(0, .ref 0), (1, .int x1)] [] I L c
  refine gx_iload_n 1 dX10_mean_0 rfl rfl ?_
  refine gx_tsw [(0, 36), (1, 51), (2, 59), (3, 79), (4, 87)] 95 dX10_mean_1 (by decide +kernel) ?_
  refine ⟨fun z => ?_, fun z => ?_⟩
  · replace h := h.1 z
    show Z_J_mean g Q 36 [(0, .ref 0), (1, .int x1)] [] I L c
    refine gx_aload_n 0 dX10_mean_36 rfl rfl ?_
    refine gx_getr 10 5 (v := 20) dX10_mean_37 fl_X10_68 rfl rfl rfl ?_
    refine gx_aload_n 0 dX10_mean_40 rfl rfl ?_
    refine gx_getr 10 5 (v := 20) dX10_mean_41 fl_X10_68 rfl rfl rfl ?_
    refine gx_geti 8 2 (v := (I 20 2)) dX10_mean_44 fl_X10_154 rfl rfl rfl ?_
    refine gx_callV 8 (As := [.int (I 20 2)]) (st := []) dX10_mean_47 ml_X10_262 mm_X8_meanOf rfl rfl rfl rfl rfl rfl ⟨rfl, rfl⟩ h (fun v h2 hq => ?_)
    clear h
    obtain ⟨r4, I1, L2, c3, rfl, rfl, h⟩ := hq
    show Z_J_mean g Q 50 [(0, .ref 0), (1, .int x1)] [.int r4] I1 L2 c3
    exact gx_iret dX10_mean_50 rfl rfl rfl ⟨_, _, _, _, rfl, rfl, h⟩
  · replace h := h.2 z
    refine ⟨fun z => ?_, fun z => ?_⟩
    · replace h := h.1 z
      show Z_J_mean g Q 51 [(0, .ref 0), (1, .int x1)] [] I L c
      refine gx_aload_n 0 dX10_mean_51 rfl rfl ?_
      refine gx_getr 10 5 (v := 20) dX10_mean_52 fl_X10_68 rfl rfl rfl ?_
      refine gx_callV 8 (As := []) (st := []) dX10_mean_55 ml_X10_265 mm_X8_middle rfl rfl rfl rfl rfl rfl ⟨rfl, rfl⟩ h (fun v h2 hq => ?_)
      clear h
      obtain ⟨r8, I5, L6, c7, rfl, rfl, h⟩ := hq
      show Z_J_mean g Q 58 [(0, .ref 0), (1, .int x1)] [.int r8] I5 L6 c7
      exact gx_iret dX10_mean_58 rfl rfl rfl ⟨_, _, _, _, rfl, rfl, h⟩
    · replace h := h.2 z
      refine ⟨fun z => ?_, fun z => ?_⟩
      · replace h := h.1 z
        show Z_J_mean g Q 59 [(0, .ref 0), (1, .int x1)] [] I L c
        refine gx_aload_n 0 dX10_mean_59 rfl rfl ?_
        refine gx_getr 10 5 (v := 20) dX10_mean_60 fl_X10_68 rfl rfl rfl ?_
        refine gx_aload_n 0 dX10_mean_63 rfl rfl ?_
        refine gx_getr 10 5 (v := 20) dX10_mean_64 fl_X10_68 rfl rfl rfl ?_
        refine gx_geti 8 2 (v := (I 20 2)) dX10_mean_67 fl_X10_154 rfl rfl rfl ?_
        refine gx_bipush (v := 9) dX10_mean_70 (by decide) ?_
        refine gx_mmin dX10_mean_72 ml_X10_268 mw_min rfl rfl rfl rfl ?_
        refine gx_callV 8 (As := [.int ((if 9 < (I 20 2) then 9 else (I 20 2)) : Int32)]) (st := []) dX10_mean_75 ml_X10_262 mm_X8_meanOf rfl rfl rfl rfl rfl rfl ⟨rfl, rfl⟩ h (fun v h2 hq => ?_)
        clear h
        obtain ⟨r12, I9, L10, c11, rfl, rfl, h⟩ := hq
        show Z_J_mean g Q 78 [(0, .ref 0), (1, .int x1)] [.int r12] I9 L10 c11
        exact gx_iret dX10_mean_78 rfl rfl rfl ⟨_, _, _, _, rfl, rfl, h⟩
      · replace h := h.2 z
        refine ⟨fun z => ?_, fun z => ?_⟩
        · replace h := h.1 z
          show Z_J_mean g Q 79 [(0, .ref 0), (1, .int x1)] [] I L c
          refine gx_aload_n 0 dX10_mean_79 rfl rfl ?_
          refine gx_getr 10 5 (v := 20) dX10_mean_80 fl_X10_68 rfl rfl rfl ?_
          refine gx_callV 8 (As := []) (st := []) dX10_mean_83 ml_X10_271 mm_X8_least rfl rfl rfl rfl rfl rfl ⟨rfl, rfl⟩ h (fun v h2 hq => ?_)
          clear h
          obtain ⟨r16, I13, L14, c15, rfl, rfl, h⟩ := hq
          show Z_J_mean g Q 86 [(0, .ref 0), (1, .int x1)] [.int r16] I13 L14 c15
          exact gx_iret dX10_mean_86 rfl rfl rfl ⟨_, _, _, _, rfl, rfl, h⟩
        · replace h := h.2 z
          refine ⟨fun z => ?_, fun z => ?_⟩
          · replace h := h.1 z
            show Z_J_mean g Q 87 [(0, .ref 0), (1, .int x1)] [] I L c
            refine gx_aload_n 0 dX10_mean_87 rfl rfl ?_
            refine gx_getr 10 5 (v := 20) dX10_mean_88 fl_X10_68 rfl rfl rfl ?_
            refine gx_callV 8 (As := []) (st := []) dX10_mean_91 ml_X10_274 mm_X8_greatest rfl rfl rfl rfl rfl rfl ⟨rfl, rfl⟩ h (fun v h2 hq => ?_)
            clear h
            obtain ⟨r20, I17, L18, c19, rfl, rfl, h⟩ := hq
            show Z_J_mean g Q 94 [(0, .ref 0), (1, .int x1)] [.int r20] I17 L18 c19
            exact gx_iret dX10_mean_94 rfl rfl rfl ⟨_, _, _, _, rfl, rfl, h⟩
          · replace h := h.2 z
            show Z_J_mean g Q 95 [(0, .ref 0), (1, .int x1)] [] I L c
            refine gx_bipush (v := (-2)) dX10_mean_95 (by decide) ?_
            exact gx_iret dX10_mean_97 rfl rfl rfl ⟨_, _, _, _, rfl, rfl, h⟩
abbrev Z_J_pointer (g : gm_G) (Q : Int32 → mI → mL → gm_cfg → Prop) (pc : Nat) (lv : List (Nat × Value)) (st : List Value) (I : mI) (L : mL) (c : gm_cfg) : Prop := gm_X g RX10 "pointer" cX10_pointer 3 (some .int) 4 0 0 (qI Q) 0 0 pc lv st (SH, I, L, RR c)
abbrev C_J_pointer (g : gm_G) (x1 : Int32) (I : mI) (L : mL) (c : gm_cfg) (Q : Int32 → mI → mL → gm_cfg → Prop) : Prop := gm_Met g yX10_pointer cX10_pointer 3 (some .int) 4 0 0 [.ref 0, .int x1] (SH, I, L, RR c) (qI Q)
set_option maxRecDepth 100000 in
theorem e_J_pointer {g : gm_G} {Q : Int32 → mI → mL → gm_cfg → Prop} {x1 : Int32} {I : mI} {L : mL} {c : gm_cfg} (h : ((3 ≤ x1 → (C_Sh20_nearestTo g (I 16 12) I L c (fun r4 I1 L2 c3 => (C_Sh20_has g r4 I1 L2 c3 (fun b8 I5 L6 c7 => ((b8 = false → Q (-1) I5 L6 c7) ∧ (b8 = true → (vp_in r4 40 ∧ Q (I5 21 (Int32.toNatClampNeg r4)) I5 L6 c7)))))))) ∧ (¬ 3 ≤ x1 → (C_J_mean g x1 I L c (fun r12 I9 L10 c11 => Q r12 I9 L10 c11))))) : C_J_pointer g x1 I L c Q := by
  refine gm_enter (lv := [(0, .ref 0), (1, .int x1)]) (by decide) rfl rfl rfl rfl ?_
  show Z_J_pointer g Q 0 [(0, .ref 0), (1, .int x1)] [] I L c
  refine gx_iload_n 1 dX10_pointer_0 rfl rfl ?_
  refine gx_iconst (v := 3) dX10_pointer_1 (by decide) ?_
  refine gx_icmp_ge 11 dX10_pointer_2 (by decide) ⟨fun z => ?_, fun z => ?_⟩
  · replace h := h.1 z
    refine gx_aload_n 0 dX10_pointer_11 rfl rfl ?_
    refine gx_getr 10 5 (v := 20) dX10_pointer_12 fl_X10_68 rfl rfl rfl ?_
    refine gx_aload_n 0 dX10_pointer_15 rfl rfl ?_
    refine gx_getr 10 2 (v := 16) dX10_pointer_16 fl_X10_65 rfl rfl rfl ?_
    refine gx_geti 1 12 (v := (I 16 12)) dX10_pointer_19 fl_X10_148 rfl rfl rfl ?_
    refine gx_callV 8 (As := [.int (I 16 12)]) (st := []) dX10_pointer_22 ml_X10_236 mm_X8_nearestTo rfl rfl rfl rfl rfl rfl ⟨rfl, rfl⟩ h (fun v h2 hq => ?_)
    clear h
    obtain ⟨r4, I1, L2, c3, rfl, rfl, h⟩ := hq
    show Z_J_pointer g Q 25 [(0, .ref 0), (1, .int x1)] [.int r4] I1 L2 c3
    refine gx_istore_n (lv' := [(0, .ref 0), (1, .int x1), (2, .int r4)]) dX10_pointer_25 rfl rfl rfl ?_
    refine gx_aload_n 0 dX10_pointer_26 rfl rfl ?_
    refine gx_getr 10 5 (v := 20) dX10_pointer_27 fl_X10_68 rfl rfl rfl ?_
    refine gx_iload_n 2 dX10_pointer_30 rfl rfl ?_
    refine gx_callV 8 (As := [.int r4]) (st := []) dX10_pointer_31 ml_X10_161 mm_X8_has rfl rfl rfl rfl rfl rfl ⟨rfl, rfl⟩ h (fun v h2 hq => ?_)
    clear h
    obtain ⟨b8, I5, L6, c7, rfl, rfl, h⟩ := hq
    show Z_J_pointer g Q 34 [(0, .ref 0), (1, .int x1), (2, .int r4)] [.int (gm_b b8)] I5 L6 c7
    refine gx_if_eq 49 dX10_pointer_34 (by decide) ⟨fun z => ?_, fun z => ?_⟩
    · replace h := h.1 (gm_b0.mp z)
      refine gx_iconst (v := (-1)) dX10_pointer_49 (by decide) ?_
      exact gx_iret dX10_pointer_50 rfl rfl rfl ⟨_, _, _, _, rfl, rfl, h⟩
    · replace h := h.2 (gm_bn0 z)
      refine gx_aload_n 0 dX10_pointer_37 rfl rfl ?_
      refine gx_getr 10 5 (v := 20) dX10_pointer_38 fl_X10_68 rfl rfl rfl ?_
      refine gx_getr 8 0 (v := 21) dX10_pointer_41 fl_X10_162 rfl rfl rfl ?_
      refine gx_iload_n 2 dX10_pointer_44 rfl rfl ?_
      obtain ⟨hi, h⟩ := h
      refine gx_iald (v := (I5 21 (Int32.toNatClampNeg r4))) dX10_pointer_45 rfl rfl hi (k := (Int32.toNatClampNeg r4)) rfl rfl ?_
      refine gx_goto 50 dX10_pointer_46 (by decide) ?_
      exact gx_iret dX10_pointer_50 rfl rfl rfl ⟨_, _, _, _, rfl, rfl, h⟩
  · replace h := h.2 z
    refine gx_aload_n 0 dX10_pointer_5 rfl rfl ?_
    refine gx_iload_n 1 dX10_pointer_6 rfl rfl ?_
    refine gx_callV 10 (As := [.int x1]) (st := []) dX10_pointer_7 ml_X10_280 mm_X10_mean rfl rfl rfl rfl rfl rfl ⟨rfl, rfl⟩ h (fun v h2 hq => ?_)
    clear h
    obtain ⟨r12, I9, L10, c11, rfl, rfl, h⟩ := hq
    show Z_J_pointer g Q 10 [(0, .ref 0), (1, .int x1)] [.int r12] I9 L10 c11
    exact gx_iret dX10_pointer_10 rfl rfl rfl ⟨_, _, _, _, rfl, rfl, h⟩
abbrev Z_J_nearest (g : gm_G) (Q : Int32 → mI → mL → gm_cfg → Prop) (pc : Nat) (lv : List (Nat × Value)) (st : List Value) (I : mI) (L : mL) (c : gm_cfg) : Prop := gm_X g RX10 "nearest" cX10_nearest 3 (some .int) 5 0 0 (qI Q) 0 0 pc lv st (SH, I, L, RR c)
abbrev C_J_nearest (g : gm_G) (I : mI) (L : mL) (c : gm_cfg) (Q : Int32 → mI → mL → gm_cfg → Prop) : Prop := gm_Met g yX10_nearest cX10_nearest 3 (some .int) 5 0 0 [.ref 0] (SH, I, L, RR c) (qI Q)
set_option maxRecDepth 100000 in
theorem e_J_nearest {g : gm_G} {Q : Int32 → mI → mL → gm_cfg → Prop} {I : mI} {L : mL} {c : gm_cfg} (h : (((I 16 12) = 0 → Q (-5) I L c) ∧ (¬ (I 16 12) = 0 → (((I 20 2) = 0 → Q (-1) I L c) ∧ (¬ (I 20 2) = 0 → Z_J_nearest g Q 29 [(0, .ref 0), (1, .int 0), (2, .int 1)] [] I L c))))) : C_J_nearest g  I L c Q := by
  refine gm_enter (lv := [(0, .ref 0)]) (by decide) rfl rfl rfl rfl ?_
  show Z_J_nearest g Q 0 [(0, .ref 0)] [] I L c
  refine gx_aload_n 0 dX10_nearest_0 rfl rfl ?_
  refine gx_getr 10 2 (v := 16) dX10_nearest_1 fl_X10_65 rfl rfl rfl ?_
  refine gx_geti 1 12 (v := (I 16 12)) dX10_nearest_4 fl_X10_148 rfl rfl rfl ?_
  refine gx_if_ne 13 dX10_nearest_7 (by decide) ⟨fun z => ?_, fun z => ?_⟩
  · replace h := h.1 z
    refine gx_bipush (v := (-5)) dX10_nearest_10 (by decide) ?_
    exact gx_iret dX10_nearest_12 rfl rfl rfl ⟨_, _, _, _, rfl, rfl, h⟩
  · replace h := h.2 z
    refine gx_aload_n 0 dX10_nearest_13 rfl rfl ?_
    refine gx_getr 10 5 (v := 20) dX10_nearest_14 fl_X10_68 rfl rfl rfl ?_
    refine gx_geti 8 2 (v := (I 20 2)) dX10_nearest_17 fl_X10_154 rfl rfl rfl ?_
    refine gx_if_ne 25 dX10_nearest_20 (by decide) ⟨fun z => ?_, fun z => ?_⟩
    · replace h := h.1 z
      refine gx_iconst (v := (-1)) dX10_nearest_23 (by decide) ?_
      exact gx_iret dX10_nearest_24 rfl rfl rfl ⟨_, _, _, _, rfl, rfl, h⟩
    · replace h := h.2 z
      refine gx_iconst (v := 0) dX10_nearest_25 (by decide) ?_
      refine gx_istore_n (lv' := [(0, .ref 0), (1, .int 0)]) dX10_nearest_26 rfl rfl rfl ?_
      refine gx_iconst (v := 1) dX10_nearest_27 (by decide) ?_
      refine gx_istore_n (lv' := [(0, .ref 0), (1, .int 0), (2, .int 1)]) dX10_nearest_28 rfl rfl rfl ?_
      exact h
set_option maxRecDepth 100000 in
theorem r_J_nearest_29 {g : gm_G} {Q : Int32 → mI → mL → gm_cfg → Prop} {x1 x2 : Int32} {I : mI} {L : mL} {c : gm_cfg} (h : ((3 < x2 → Q x1 I L c) ∧ (¬ 3 < x2 → (C_J_pointer g x2 I L c (fun r4 I1 L2 c3 => (C_J_offJar g r4 I1 L2 c3 (fun r8 I5 L6 c7 => (C_J_pointer g x1 I5 L6 c7 (fun r12 I9 L10 c11 => (C_J_offJar g r12 I9 L10 c11 (fun r16 I13 L14 c15 => ((r16 ≤ r8 → Z_J_nearest g Q 29 [(0, .ref 0), (1, .int x1), (2, .int (x2 + 1))] [] I13 L14 c15) ∧ (¬ r16 ≤ r8 → Z_J_nearest g Q 29 [(0, .ref 0), (1, .int x2), (2, .int (x2 + 1))] [] I13 L14 c15))))))))))))) : Z_J_nearest g Q 29 [(0, .ref 0), (1, .int x1), (2, .int x2)] [] I L c := by
  refine gx_iload_n 2 dX10_nearest_29 rfl rfl ?_
  refine gx_iconst (v := 3) dX10_nearest_30 (by decide) ?_
  refine gx_icmp_gt 63 dX10_nearest_31 (by decide) ⟨fun z => ?_, fun z => ?_⟩
  · replace h := h.1 z
    refine gx_iload_n 1 dX10_nearest_63 rfl rfl ?_
    exact gx_iret dX10_nearest_64 rfl rfl rfl ⟨_, _, _, _, rfl, rfl, h⟩
  · replace h := h.2 z
    refine gx_aload_n 0 dX10_nearest_34 rfl rfl ?_
    refine gx_aload_n 0 dX10_nearest_35 rfl rfl ?_
    refine gx_iload_n 2 dX10_nearest_36 rfl rfl ?_
    refine gx_callV 10 (As := [.int x2]) (st := [.ref 0]) dX10_nearest_37 ml_X10_277 mm_X10_pointer rfl rfl rfl rfl rfl rfl ⟨rfl, rfl⟩ h (fun v h2 hq => ?_)
    clear h
    obtain ⟨r4, I1, L2, c3, rfl, rfl, h⟩ := hq
    show Z_J_nearest g Q 40 [(0, .ref 0), (1, .int x1), (2, .int x2)] [.int r4, .ref 0] I1 L2 c3
    refine gx_callV 10 (As := [.int r4]) (st := []) dX10_nearest_40 ml_X10_176 mm_X10_offJar rfl rfl rfl rfl rfl rfl ⟨rfl, rfl⟩ h (fun v h2 hq => ?_)
    clear h
    obtain ⟨r8, I5, L6, c7, rfl, rfl, h⟩ := hq
    show Z_J_nearest g Q 43 [(0, .ref 0), (1, .int x1), (2, .int x2)] [.int r8] I5 L6 c7
    refine gx_aload_n 0 dX10_nearest_43 rfl rfl ?_
    refine gx_aload_n 0 dX10_nearest_44 rfl rfl ?_
    refine gx_iload_n 1 dX10_nearest_45 rfl rfl ?_
    refine gx_callV 10 (As := [.int x1]) (st := [.ref 0, .int r8]) dX10_nearest_46 ml_X10_277 mm_X10_pointer rfl rfl rfl rfl rfl rfl ⟨rfl, rfl⟩ h (fun v h2 hq => ?_)
    clear h
    obtain ⟨r12, I9, L10, c11, rfl, rfl, h⟩ := hq
    show Z_J_nearest g Q 49 [(0, .ref 0), (1, .int x1), (2, .int x2)] [.int r12, .ref 0, .int r8] I9 L10 c11
    refine gx_callV 10 (As := [.int r12]) (st := [.int r8]) dX10_nearest_49 ml_X10_176 mm_X10_offJar rfl rfl rfl rfl rfl rfl ⟨rfl, rfl⟩ h (fun v h2 hq => ?_)
    clear h
    obtain ⟨r16, I13, L14, c15, rfl, rfl, h⟩ := hq
    show Z_J_nearest g Q 52 [(0, .ref 0), (1, .int x1), (2, .int x2)] [.int r16, .int r8] I13 L14 c15
    refine gx_icmp_ge 57 dX10_nearest_52 (by decide) ⟨fun z => ?_, fun z => ?_⟩
    · replace h := h.1 z
      refine gx_iinc (v := (x2 + 1)) (lv' := [(0, .ref 0), (1, .int x1), (2, .int (x2 + 1))]) 2 dX10_nearest_57 rfl rfl rfl rfl ?_
      refine gx_goto 29 dX10_nearest_60 (by decide) ?_
      exact h
    · replace h := h.2 z
      refine gx_iload_n 2 dX10_nearest_55 rfl rfl ?_
      refine gx_istore_n (lv' := [(0, .ref 0), (1, .int x2), (2, .int x2)]) dX10_nearest_56 rfl rfl rfl ?_
      refine gx_iinc (v := (x2 + 1)) (lv' := [(0, .ref 0), (1, .int x2), (2, .int (x2 + 1))]) 2 dX10_nearest_57 rfl rfl rfl rfl ?_
      refine gx_goto 29 dX10_nearest_60 (by decide) ?_
      exact h
abbrev Z_J_canCount (g : gm_G) (Q : Bool → mI → mL → gm_cfg → Prop) (pc : Nat) (lv : List (Nat × Value)) (st : List Value) (I : mI) (L : mL) (c : gm_cfg) : Prop := gm_X g RX10 "canCount" cX10_canCount 2 (some .boolean) 1 0 0 (qZ Q) 0 0 pc lv st (SH, I, L, RR c)
abbrev C_J_canCount (g : gm_G) (x1 : Int32) (I : mI) (L : mL) (c : gm_cfg) (Q : Bool → mI → mL → gm_cfg → Prop) : Prop := gm_Met g yX10_canCount cX10_canCount 2 (some .boolean) 1 0 0 [.ref 0, .int x1] (SH, I, L, RR c) (qZ Q)
set_option maxRecDepth 100000 in
theorem e_J_canCount {g : gm_G} {Q : Bool → mI → mL → gm_cfg → Prop} {x1 : Int32} {I : mI} {L : mL} {c : gm_cfg} (h : ((x1 < 0 → Q false I L c) ∧ (¬ x1 < 0 → ((4 < x1 → Q false I L c) ∧ (¬ 4 < x1 → (((I 20 2) < x1 → Q false I L c) ∧ (¬ (I 20 2) < x1 → Q true I L c))))))) : C_J_canCount g x1 I L c Q := by
  refine gm_enter (lv := [(0, .ref 0), (1, .int x1)]) (by decide) rfl rfl rfl rfl ?_
  show Z_J_canCount g Q 0 [(0, .ref 0), (1, .int x1)] [] I L c
  refine gx_iload_n 1 dX10_canCount_0 rfl rfl ?_
  refine gx_if_lt 24 dX10_canCount_1 (by decide) ⟨fun z => ?_, fun z => ?_⟩
  · replace h := h.1 z
    refine gx_iconst (v := 0) dX10_canCount_24 (by decide) ?_
    exact gx_zret .boolean dX10_canCount_25 rfl rfl rfl rfl ⟨false, _, _, _, rfl, rfl, h⟩
  · replace h := h.2 z
    refine gx_iload_n 1 dX10_canCount_4 rfl rfl ?_
    refine gx_iconst (v := 4) dX10_canCount_5 (by decide) ?_
    refine gx_icmp_gt 24 dX10_canCount_6 (by decide) ⟨fun z => ?_, fun z => ?_⟩
    · replace h := h.1 z
      refine gx_iconst (v := 0) dX10_canCount_24 (by decide) ?_
      exact gx_zret .boolean dX10_canCount_25 rfl rfl rfl rfl ⟨false, _, _, _, rfl, rfl, h⟩
    · replace h := h.2 z
      refine gx_iload_n 1 dX10_canCount_9 rfl rfl ?_
      refine gx_aload_n 0 dX10_canCount_10 rfl rfl ?_
      refine gx_getr 10 5 (v := 20) dX10_canCount_11 fl_X10_68 rfl rfl rfl ?_
      refine gx_geti 8 2 (v := (I 20 2)) dX10_canCount_14 fl_X10_154 rfl rfl rfl ?_
      refine gx_icmp_gt 24 dX10_canCount_17 (by decide) ⟨fun z => ?_, fun z => ?_⟩
      · replace h := h.1 z
        refine gx_iconst (v := 0) dX10_canCount_24 (by decide) ?_
        exact gx_zret .boolean dX10_canCount_25 rfl rfl rfl rfl ⟨false, _, _, _, rfl, rfl, h⟩
      · replace h := h.2 z
        refine gx_iconst (v := 1) dX10_canCount_20 (by decide) ?_
        refine gx_goto 25 dX10_canCount_21 (by decide) ?_
        exact gx_zret .boolean dX10_canCount_25 rfl rfl rfl rfl ⟨true, _, _, _, rfl, rfl, h⟩
abbrev Z_J_odds (g : gm_G) (Q : Int64 → mI → mL → gm_cfg → Prop) (pc : Nat) (lv : List (Nat × Value)) (st : List Value) (I : mI) (L : mL) (c : gm_cfg) : Prop := gm_X g RX10 "odds" cX10_odds 3 (some .long) 5 0 0 (qL Q) 0 0 pc lv st (SH, I, L, RR c)
abbrev C_J_odds (g : gm_G) (x1 : Int32) (x2 : Int32) (I : mI) (L : mL) (c : gm_cfg) (Q : Int64 → mI → mL → gm_cfg → Prop) : Prop := gm_Met g yX10_odds cX10_odds 3 (some .long) 5 0 0 [.ref 0, .int x1, .int x2] (SH, I, L, RR c) (qL Q)
set_option maxRecDepth 100000 in
theorem e_J_odds {g : gm_G} {Q : Int64 → mI → mL → gm_cfg → Prop} {x1 x2 : Int32} {I : mI} {L : mL} {c : gm_cfg} (h : (C_Fe16_spans g x1 I L c (fun b4 I1 L2 c3 => ((b4 = false → Q (-3) I1 L2 c3) ∧ (b4 = true → (C_J_canCount g x2 I1 L2 c3 (fun b8 I5 L6 c7 => ((b8 = false → Q (-3) I5 L6 c7) ∧ (b8 = true → (C_Sr_waysFor g x1 x2 (-1) I5 L6 c7 (fun r12 I9 L10 c11 => Q r12 I9 L10 c11))))))))))) : C_J_odds g x1 x2 I L c Q := by
  refine gm_enter (lv := [(0, .ref 0), (1, .int x1), (2, .int x2)]) (by decide) rfl rfl rfl rfl ?_
  show Z_J_odds g Q 0 [(0, .ref 0), (1, .int x1), (2, .int x2)] [] I L c
  refine gx_aload_n 0 dX10_odds_0 rfl rfl ?_
  refine gx_getr 10 2 (v := 16) dX10_odds_1 fl_X10_65 rfl rfl rfl ?_
  refine gx_iload_n 1 dX10_odds_4 rfl rfl ?_
  refine gx_callV 1 (As := [.int x1]) (st := []) dX10_odds_5 ml_X10_142 mm_X1_spans rfl rfl rfl rfl rfl rfl ⟨rfl, rfl⟩ h (fun v h2 hq => ?_)
  clear h
  obtain ⟨b4, I1, L2, c3, rfl, rfl, h⟩ := hq
  show Z_J_odds g Q 8 [(0, .ref 0), (1, .int x1), (2, .int x2)] [.int (gm_b b4)] I1 L2 c3
  refine gx_if_eq 32 dX10_odds_8 (by decide) ⟨fun z => ?_, fun z => ?_⟩
  · replace h := h.1 (gm_b0.mp z)
    refine gx_ldc2 dX10_odds_32 kl_X10_290 ?_
    exact gx_lret dX10_odds_35 rfl rfl rfl ⟨_, _, _, _, rfl, rfl, h⟩
  · replace h := h.2 (gm_bn0 z)
    refine gx_aload_n 0 dX10_odds_11 rfl rfl ?_
    refine gx_iload_n 2 dX10_odds_12 rfl rfl ?_
    refine gx_callV 10 (As := [.int x2]) (st := []) dX10_odds_13 ml_X10_283 mm_X10_canCount rfl rfl rfl rfl rfl rfl ⟨rfl, rfl⟩ h (fun v h2 hq => ?_)
    clear h
    obtain ⟨b8, I5, L6, c7, rfl, rfl, h⟩ := hq
    show Z_J_odds g Q 16 [(0, .ref 0), (1, .int x1), (2, .int x2)] [.int (gm_b b8)] I5 L6 c7
    refine gx_if_eq 32 dX10_odds_16 (by decide) ⟨fun z => ?_, fun z => ?_⟩
    · replace h := h.1 (gm_b0.mp z)
      refine gx_ldc2 dX10_odds_32 kl_X10_290 ?_
      exact gx_lret dX10_odds_35 rfl rfl rfl ⟨_, _, _, _, rfl, rfl, h⟩
    · replace h := h.2 (gm_bn0 z)
      refine gx_aload_n 0 dX10_odds_19 rfl rfl ?_
      refine gx_getr 10 8 (v := 23) dX10_odds_20 fl_X10_71 rfl rfl rfl ?_
      refine gx_iload_n 1 dX10_odds_23 rfl rfl ?_
      refine gx_iload_n 2 dX10_odds_24 rfl rfl ?_
      refine gx_iconst (v := (-1)) dX10_odds_25 (by decide) ?_
      refine gx_callV 7 (As := [.int x1, .int x2, .int (-1)]) (st := []) dX10_odds_26 ml_X10_286 mm_X7_waysFor rfl rfl rfl rfl rfl rfl ⟨rfl, rfl⟩ h (fun v h2 hq => ?_)
      clear h
      obtain ⟨r12, I9, L10, c11, rfl, rfl, h⟩ := hq
      show Z_J_odds g Q 29 [(0, .ref 0), (1, .int x1), (2, .int x2)] [.long r12] I9 L10 c11
      refine gx_goto 35 dX10_odds_29 (by decide) ?_
      exact gx_lret dX10_odds_35 rfl rfl rfl ⟨_, _, _, _, rfl, rfl, h⟩
abbrev Z_J_out (g : gm_G) (Q : Int64 → mI → mL → gm_cfg → Prop) (pc : Nat) (lv : List (Nat × Value)) (st : List Value) (I : mI) (L : mL) (c : gm_cfg) : Prop := gm_X g RX10 "out" cX10_out 2 (some .long) 6 0 0 (qL Q) 0 0 pc lv st (SH, I, L, RR c)
abbrev C_J_out (g : gm_G) (x1 : Int32) (I : mI) (L : mL) (c : gm_cfg) (Q : Int64 → mI → mL → gm_cfg → Prop) : Prop := gm_Met g yX10_out cX10_out 2 (some .long) 6 0 0 [.ref 0, .int x1] (SH, I, L, RR c) (qL Q)
set_option maxRecDepth 100000 in
theorem e_J_out {g : gm_G} {Q : Int64 → mI → mL → gm_cfg → Prop} {x1 : Int32} {I : mI} {L : mL} {c : gm_cfg} (h : (C_J_canCount g x1 I L c (fun b4 I1 L2 c3 => ((b4 = false → Q (-3) I1 L2 c3) ∧ (b4 = true → (C_Sr_weigh g x1 I1 L2 c3 (fun I5 L6 c7 => (C_Sr_total g I5 L6 c7 (fun r11 I8 L9 c10 => Q r11 I8 L9 c10))))))))) : C_J_out g x1 I L c Q := by
  refine gm_enter (lv := [(0, .ref 0), (1, .int x1)]) (by decide) rfl rfl rfl rfl ?_
  show Z_J_out g Q 0 [(0, .ref 0), (1, .int x1)] [] I L c
  refine gx_aload_n 0 dX10_out_0 rfl rfl ?_
  refine gx_iload_n 1 dX10_out_1 rfl rfl ?_
  refine gx_callV 10 (As := [.int x1]) (st := []) dX10_out_2 ml_X10_283 mm_X10_canCount rfl rfl rfl rfl rfl rfl ⟨rfl, rfl⟩ h (fun v h2 hq => ?_)
  clear h
  obtain ⟨b4, I1, L2, c3, rfl, rfl, h⟩ := hq
  show Z_J_out g Q 5 [(0, .ref 0), (1, .int x1)] [.int (gm_b b4)] I1 L2 c3
  refine gx_if_ne 12 dX10_out_5 (by decide) ⟨fun z => ?_, fun z => ?_⟩
  · replace h := h.1 (gm_b0.mp z)
    refine gx_ldc2 dX10_out_8 kl_X10_290 ?_
    exact gx_lret dX10_out_11 rfl rfl rfl ⟨_, _, _, _, rfl, rfl, h⟩
  · replace h := h.2 (gm_bn0 z)
    refine gx_aload_n 0 dX10_out_12 rfl rfl ?_
    refine gx_getr 10 8 (v := 23) dX10_out_13 fl_X10_71 rfl rfl rfl ?_
    refine gx_iload_n 1 dX10_out_16 rfl rfl ?_
    refine gx_callV 7 (As := [.int x1]) (st := []) dX10_out_17 ml_X10_249 mm_X7_weigh rfl rfl rfl rfl rfl rfl ⟨rfl, rfl⟩ h (fun v h2 hq => ?_)
    clear h
    obtain ⟨I5, L6, c7, rfl, rfl, h⟩ := hq
    show Z_J_out g Q 20 [(0, .ref 0), (1, .int x1)] [] I5 L6 c7
    refine gx_aload_n 0 dX10_out_20 rfl rfl ?_
    refine gx_getr 10 8 (v := 23) dX10_out_21 fl_X10_71 rfl rfl rfl ?_
    refine gx_callV 7 (As := []) (st := []) dX10_out_24 ml_X10_292 mm_X7_total rfl rfl rfl rfl rfl rfl ⟨rfl, rfl⟩ h (fun v h2 hq => ?_)
    clear h
    obtain ⟨r11, I8, L9, c10, rfl, rfl, h⟩ := hq
    show Z_J_out g Q 27 [(0, .ref 0), (1, .int x1)] [.long r11] I8 L9 c10
    exact gx_lret dX10_out_27 rfl rfl rfl ⟨_, _, _, _, rfl, rfl, h⟩
abbrev Z_J_likeliest (g : gm_G) (Q : Int32 → mI → mL → gm_cfg → Prop) (pc : Nat) (lv : List (Nat × Value)) (st : List Value) (I : mI) (L : mL) (c : gm_cfg) : Prop := gm_X g RX10 "likeliest" cX10_likeliest 8 (some .int) 5 0 0 (qI Q) 0 0 pc lv st (SH, I, L, RR c)
abbrev C_J_likeliest (g : gm_G) (x1 : Int32) (I : mI) (L : mL) (c : gm_cfg) (Q : Int32 → mI → mL → gm_cfg → Prop) : Prop := gm_Met g yX10_likeliest cX10_likeliest 8 (some .int) 5 0 0 [.ref 0, .int x1] (SH, I, L, RR c) (qI Q)
set_option maxRecDepth 100000 in
theorem e_J_likeliest {g : gm_G} {Q : Int32 → mI → mL → gm_cfg → Prop} {x1 : Int32} {I : mI} {L : mL} {c : gm_cfg} (h : (C_J_canCount g x1 I L c (fun b4 I1 L2 c3 => ((b4 = false → Q (-3) I1 L2 c3) ∧ (b4 = true → Z_J_likeliest g Q 24 [(0, .ref 0), (1, .int x1), (2, .int (-1)), (3, .long 0), (5, .int (I1 16 0))] [] I1 L2 c3))))) : C_J_likeliest g x1 I L c Q := by
  refine gm_enter (lv := [(0, .ref 0), (1, .int x1)]) (by decide) rfl rfl rfl rfl ?_
  show Z_J_likeliest g Q 0 [(0, .ref 0), (1, .int x1)] [] I L c
  refine gx_aload_n 0 dX10_likeliest_0 rfl rfl ?_
  refine gx_iload_n 1 dX10_likeliest_1 rfl rfl ?_
  refine gx_callV 10 (As := [.int x1]) (st := []) dX10_likeliest_2 ml_X10_283 mm_X10_canCount rfl rfl rfl rfl rfl rfl ⟨rfl, rfl⟩ h (fun v h2 hq => ?_)
  clear h
  obtain ⟨b4, I1, L2, c3, rfl, rfl, h⟩ := hq
  show Z_J_likeliest g Q 5 [(0, .ref 0), (1, .int x1)] [.int (gm_b b4)] I1 L2 c3
  refine gx_if_ne 11 dX10_likeliest_5 (by decide) ⟨fun z => ?_, fun z => ?_⟩
  · replace h := h.1 (gm_b0.mp z)
    refine gx_bipush (v := (-3)) dX10_likeliest_8 (by decide) ?_
    exact gx_iret dX10_likeliest_10 rfl rfl rfl ⟨_, _, _, _, rfl, rfl, h⟩
  · replace h := h.2 (gm_bn0 z)
    refine gx_iconst (v := (-1)) dX10_likeliest_11 (by decide) ?_
    refine gx_istore_n (lv' := [(0, .ref 0), (1, .int x1), (2, .int (-1))]) dX10_likeliest_12 rfl rfl rfl ?_
    refine gx_lconst (v := 0) dX10_likeliest_13 (by decide) ?_
    refine gx_lstore_n (lv' := [(0, .ref 0), (1, .int x1), (2, .int (-1)), (3, .long 0)]) dX10_likeliest_14 rfl rfl rfl ?_
    refine gx_aload_n 0 dX10_likeliest_15 rfl rfl ?_
    refine gx_getr 10 2 (v := 16) dX10_likeliest_16 fl_X10_65 rfl rfl rfl ?_
    refine gx_geti 1 0 (v := (I1 16 0)) dX10_likeliest_19 fl_X10_296 rfl rfl rfl ?_
    refine gx_istore (lv' := [(0, .ref 0), (1, .int x1), (2, .int (-1)), (3, .long 0), (5, .int (I1 16 0))]) dX10_likeliest_22 rfl rfl ?_
    exact h
set_option maxRecDepth 100000 in
theorem r_J_likeliest_24 {g : gm_G} {Q : Int32 → mI → mL → gm_cfg → Prop} {x1 x2 x5 : Int32} {x3 : Int64} {I : mI} {L : mL} {c : gm_cfg} (h : (((I 16 1) < x5 → Q x2 I L c) ∧ (¬ (I 16 1) < x5 → (C_Sr_waysFor g x5 x1 (-1) I L c (fun r4 I1 L2 c3 => (((r4 : Int64) ≤ x3 → Z_J_likeliest g Q 24 [(0, .ref 0), (1, .int x1), (2, .int x2), (3, .long x3), (5, .int (x5 + 1))] [] I1 L2 c3) ∧ (¬ (r4 : Int64) ≤ x3 → Z_J_likeliest g Q 24 [(0, .ref 0), (1, .int x1), (2, .int x5), (3, .long r4), (5, .int (x5 + 1))] [] I1 L2 c3))))))) : Z_J_likeliest g Q 24 [(0, .ref 0), (1, .int x1), (2, .int x2), (3, .long x3), (5, .int x5)] [] I L c := by
  refine gx_iload 4 dX10_likeliest_24 rfl ?_
  refine gx_aload_n 0 dX10_likeliest_26 rfl rfl ?_
  refine gx_getr 10 2 (v := 16) dX10_likeliest_27 fl_X10_65 rfl rfl rfl ?_
  refine gx_geti 1 1 (v := (I 16 1)) dX10_likeliest_30 fl_X10_299 rfl rfl rfl ?_
  refine gx_icmp_gt 68 dX10_likeliest_33 (by decide) ⟨fun z => ?_, fun z => ?_⟩
  · replace h := h.1 z
    refine gx_iload_n 2 dX10_likeliest_68 rfl rfl ?_
    exact gx_iret dX10_likeliest_69 rfl rfl rfl ⟨_, _, _, _, rfl, rfl, h⟩
  · replace h := h.2 z
    refine gx_aload_n 0 dX10_likeliest_36 rfl rfl ?_
    refine gx_getr 10 8 (v := 23) dX10_likeliest_37 fl_X10_71 rfl rfl rfl ?_
    refine gx_iload 4 dX10_likeliest_40 rfl ?_
    refine gx_iload_n 1 dX10_likeliest_42 rfl rfl ?_
    refine gx_iconst (v := (-1)) dX10_likeliest_43 (by decide) ?_
    refine gx_callV 7 (As := [.int x5, .int x1, .int (-1)]) (st := []) dX10_likeliest_44 ml_X10_286 mm_X7_waysFor rfl rfl rfl rfl rfl rfl ⟨rfl, rfl⟩ h (fun v h2 hq => ?_)
    clear h
    obtain ⟨r4, I1, L2, c3, rfl, rfl, h⟩ := hq
    show Z_J_likeliest g Q 47 [(0, .ref 0), (1, .int x1), (2, .int x2), (3, .long x3), (5, .int x5)] [.long r4] I1 L2 c3
    refine gx_lstore (lv' := [(0, .ref 0), (1, .int x1), (2, .int x2), (3, .long x3), (5, .int x5), (6, .long r4)]) dX10_likeliest_47 rfl rfl ?_
    refine gx_lload 5 dX10_likeliest_49 rfl ?_
    refine gx_lload_n 3 dX10_likeliest_51 rfl rfl ?_
    refine gx_lcmp_le 62 dX10_likeliest_52 dX10_likeliest_53 (by decide) ⟨fun z => ?_, fun z => ?_⟩
    · replace h := h.1 z
      refine gx_iinc (v := (x5 + 1)) (lv' := [(0, .ref 0), (1, .int x1), (2, .int x2), (3, .long x3), (5, .int (x5 + 1)), (6, .long r4)]) 4 dX10_likeliest_62 rfl rfl rfl rfl ?_
      refine gx_goto 24 dX10_likeliest_65 (by decide) ?_
      refine gx_sub [0, 1, 2, 3, 4] (lv' := [(0, .ref 0), (1, .int x1), (2, .int x2), (3, .long x3), (5, .int (x5 + 1))]) rfl ?_
      exact h
    · replace h := h.2 z
      refine gx_lload 5 dX10_likeliest_56 rfl ?_
      refine gx_lstore_n (lv' := [(0, .ref 0), (1, .int x1), (2, .int x2), (3, .long r4), (5, .int x5), (6, .long r4)]) dX10_likeliest_58 rfl rfl rfl ?_
      refine gx_iload 4 dX10_likeliest_59 rfl ?_
      refine gx_istore_n (lv' := [(0, .ref 0), (1, .int x1), (2, .int x5), (3, .long r4), (5, .int x5), (6, .long r4)]) dX10_likeliest_61 rfl rfl rfl ?_
      refine gx_iinc (v := (x5 + 1)) (lv' := [(0, .ref 0), (1, .int x1), (2, .int x5), (3, .long r4), (5, .int (x5 + 1)), (6, .long r4)]) 4 dX10_likeliest_62 rfl rfl rfl rfl ?_
      refine gx_goto 24 dX10_likeliest_65 (by decide) ?_
      refine gx_sub [0, 1, 2, 3, 4] (lv' := [(0, .ref 0), (1, .int x1), (2, .int x5), (3, .long r4), (5, .int (x5 + 1))]) rfl ?_
      exact h
abbrev Z_J_span (g : gm_G) (Q : Int32 → mI → mL → gm_cfg → Prop) (pc : Nat) (lv : List (Nat × Value)) (st : List Value) (I : mI) (L : mL) (c : gm_cfg) : Prop := gm_X g RX10 "span" cX10_span 7 (some .int) 5 0 0 (qI Q) 0 0 pc lv st (SH, I, L, RR c)
abbrev C_J_span (g : gm_G) (x1 : Int32) (x2 : Int32) (I : mI) (L : mL) (c : gm_cfg) (Q : Int32 → mI → mL → gm_cfg → Prop) : Prop := gm_Met g yX10_span cX10_span 7 (some .int) 5 0 0 [.ref 0, .int x1, .int x2] (SH, I, L, RR c) (qI Q)
set_option maxRecDepth 100000 in
theorem e_J_span {g : gm_G} {Q : Int32 → mI → mL → gm_cfg → Prop} {x1 x2 : Int32} {I : mI} {L : mL} {c : gm_cfg} (h : ((x2 < 0 → Q (-2) I L c) ∧ (¬ x2 < 0 → ((x2 ≤ 2 → (C_J_canCount g x1 I L c (fun b4 I1 L2 c3 => ((b4 = false → Q (-3) I1 L2 c3) ∧ (b4 = true → Z_J_span g Q 40 [(0, .ref 0), (1, .int x1), (2, .int x2), (3, .int (-1)), (4, .int (-1)), (5, .int 0), (6, .int (I1 16 0))] [] I1 L2 c3))))) ∧ (¬ x2 ≤ 2 → Q (-2) I L c))))) : C_J_span g x1 x2 I L c Q := by
  refine gm_enter (lv := [(0, .ref 0), (1, .int x1), (2, .int x2)]) (by decide) rfl rfl rfl rfl ?_
  show Z_J_span g Q 0 [(0, .ref 0), (1, .int x1), (2, .int x2)] [] I L c
  refine gx_iload_n 2 dX10_span_0 rfl rfl ?_
  refine gx_if_lt 9 dX10_span_1 (by decide) ⟨fun z => ?_, fun z => ?_⟩
  · replace h := h.1 z
    refine gx_bipush (v := (-2)) dX10_span_9 (by decide) ?_
    exact gx_iret dX10_span_11 rfl rfl rfl ⟨_, _, _, _, rfl, rfl, h⟩
  · replace h := h.2 z
    refine gx_iload_n 2 dX10_span_4 rfl rfl ?_
    refine gx_iconst (v := 2) dX10_span_5 (by decide) ?_
    refine gx_icmp_le 12 dX10_span_6 (by decide) ⟨fun z => ?_, fun z => ?_⟩
    · replace h := h.1 z
      refine gx_aload_n 0 dX10_span_12 rfl rfl ?_
      refine gx_iload_n 1 dX10_span_13 rfl rfl ?_
      refine gx_callV 10 (As := [.int x1]) (st := []) dX10_span_14 ml_X10_283 mm_X10_canCount rfl rfl rfl rfl rfl rfl ⟨rfl, rfl⟩ h (fun v h2 hq => ?_)
      clear h
      obtain ⟨b4, I1, L2, c3, rfl, rfl, h⟩ := hq
      show Z_J_span g Q 17 [(0, .ref 0), (1, .int x1), (2, .int x2)] [.int (gm_b b4)] I1 L2 c3
      refine gx_if_ne 23 dX10_span_17 (by decide) ⟨fun z => ?_, fun z => ?_⟩
      · replace h := h.1 (gm_b0.mp z)
        refine gx_bipush (v := (-3)) dX10_span_20 (by decide) ?_
        exact gx_iret dX10_span_22 rfl rfl rfl ⟨_, _, _, _, rfl, rfl, h⟩
      · replace h := h.2 (gm_bn0 z)
        refine gx_iconst (v := (-1)) dX10_span_23 (by decide) ?_
        refine gx_istore_n (lv' := [(0, .ref 0), (1, .int x1), (2, .int x2), (3, .int (-1))]) dX10_span_24 rfl rfl rfl ?_
        refine gx_iconst (v := (-1)) dX10_span_25 (by decide) ?_
        refine gx_istore (lv' := [(0, .ref 0), (1, .int x1), (2, .int x2), (3, .int (-1)), (4, .int (-1))]) dX10_span_26 rfl rfl ?_
        refine gx_iconst (v := 0) dX10_span_28 (by decide) ?_
        refine gx_istore (lv' := [(0, .ref 0), (1, .int x1), (2, .int x2), (3, .int (-1)), (4, .int (-1)), (5, .int 0)]) dX10_span_29 rfl rfl ?_
        refine gx_aload_n 0 dX10_span_31 rfl rfl ?_
        refine gx_getr 10 2 (v := 16) dX10_span_32 fl_X10_65 rfl rfl rfl ?_
        refine gx_geti 1 0 (v := (I1 16 0)) dX10_span_35 fl_X10_296 rfl rfl rfl ?_
        refine gx_istore (lv' := [(0, .ref 0), (1, .int x1), (2, .int x2), (3, .int (-1)), (4, .int (-1)), (5, .int 0), (6, .int (I1 16 0))]) dX10_span_38 rfl rfl ?_
        exact h
    · replace h := h.2 z
      refine gx_bipush (v := (-2)) dX10_span_9 (by decide) ?_
      exact gx_iret dX10_span_11 rfl rfl rfl ⟨_, _, _, _, rfl, rfl, h⟩
set_option maxRecDepth 100000 in
theorem r_J_span_40 {g : gm_G} {Q : Int32 → mI → mL → gm_cfg → Prop} {x1 x2 x3 x4 x5 x6 : Int32} {I : mI} {L : mL} {c : gm_cfg} (h : (((I 16 1) < x6 → ((x2 = 2 → Q x5 I L c) ∧ (¬ x2 = 2 → ((x2 = 0 → Q x3 I L c) ∧ (¬ x2 = 0 → Q x4 I L c))))) ∧ (¬ (I 16 1) < x6 → (C_Sr_waysFor g x6 x1 (-1) I L c (fun r4 I1 L2 c3 => (((r4 : Int64) ≤ 0 → Z_J_span g Q 40 [(0, .ref 0), (1, .int x1), (2, .int x2), (3, .int x3), (4, .int x4), (5, .int x5), (6, .int (x6 + 1))] [] I1 L2 c3) ∧ (¬ (r4 : Int64) ≤ 0 → ((x5 = 0 → Z_J_span g Q 40 [(0, .ref 0), (1, .int x1), (2, .int x2), (3, .int x6), (4, .int x6), (5, .int (x5 + 1)), (6, .int (x6 + 1))] [] I1 L2 c3) ∧ (¬ x5 = 0 → Z_J_span g Q 40 [(0, .ref 0), (1, .int x1), (2, .int x2), (3, .int x3), (4, .int x6), (5, .int (x5 + 1)), (6, .int (x6 + 1))] [] I1 L2 c3))))))))) : Z_J_span g Q 40 [(0, .ref 0), (1, .int x1), (2, .int x2), (3, .int x3), (4, .int x4), (5, .int x5), (6, .int x6)] [] I L c := by
  refine gx_iload 6 dX10_span_40 rfl ?_
  refine gx_aload_n 0 dX10_span_42 rfl rfl ?_
  refine gx_getr 10 2 (v := 16) dX10_span_43 fl_X10_65 rfl rfl rfl ?_
  refine gx_geti 1 1 (v := (I 16 1)) dX10_span_46 fl_X10_299 rfl rfl rfl ?_
  refine gx_icmp_gt 93 dX10_span_49 (by decide) ⟨fun z => ?_, fun z => ?_⟩
  · replace h := h.1 z
    refine gx_iload_n 2 dX10_span_93 rfl rfl ?_
    refine gx_iconst (v := 2) dX10_span_94 (by decide) ?_
    refine gx_icmp_ne 101 dX10_span_95 (by decide) ⟨fun z => ?_, fun z => ?_⟩
    · replace h := h.1 z
      refine gx_iload 5 dX10_span_98 rfl ?_
      exact gx_iret dX10_span_100 rfl rfl rfl ⟨_, _, _, _, rfl, rfl, h⟩
    · replace h := h.2 z
      refine gx_iload_n 2 dX10_span_101 rfl rfl ?_
      refine gx_if_ne 109 dX10_span_102 (by decide) ⟨fun z => ?_, fun z => ?_⟩
      · replace h := h.1 z
        refine gx_iload_n 3 dX10_span_105 rfl rfl ?_
        refine gx_goto 111 dX10_span_106 (by decide) ?_
        exact gx_iret dX10_span_111 rfl rfl rfl ⟨_, _, _, _, rfl, rfl, h⟩
      · replace h := h.2 z
        refine gx_iload 4 dX10_span_109 rfl ?_
        exact gx_iret dX10_span_111 rfl rfl rfl ⟨_, _, _, _, rfl, rfl, h⟩
  · replace h := h.2 z
    refine gx_aload_n 0 dX10_span_52 rfl rfl ?_
    refine gx_getr 10 8 (v := 23) dX10_span_53 fl_X10_71 rfl rfl rfl ?_
    refine gx_iload 6 dX10_span_56 rfl ?_
    refine gx_iload_n 1 dX10_span_58 rfl rfl ?_
    refine gx_iconst (v := (-1)) dX10_span_59 (by decide) ?_
    refine gx_callV 7 (As := [.int x6, .int x1, .int (-1)]) (st := []) dX10_span_60 ml_X10_286 mm_X7_waysFor rfl rfl rfl rfl rfl rfl ⟨rfl, rfl⟩ h (fun v h2 hq => ?_)
    clear h
    obtain ⟨r4, I1, L2, c3, rfl, rfl, h⟩ := hq
    show Z_J_span g Q 63 [(0, .ref 0), (1, .int x1), (2, .int x2), (3, .int x3), (4, .int x4), (5, .int x5), (6, .int x6)] [.long r4] I1 L2 c3
    refine gx_lconst (v := 0) dX10_span_63 (by decide) ?_
    refine gx_lcmp_le 87 dX10_span_64 dX10_span_65 (by decide) ⟨fun z => ?_, fun z => ?_⟩
    · replace h := h.1 z
      refine gx_iinc (v := (x6 + 1)) (lv' := [(0, .ref 0), (1, .int x1), (2, .int x2), (3, .int x3), (4, .int x4), (5, .int x5), (6, .int (x6 + 1))]) 6 dX10_span_87 rfl rfl rfl rfl ?_
      refine gx_goto 40 dX10_span_90 (by decide) ?_
      exact h
    · replace h := h.2 z
      refine gx_iload 5 dX10_span_68 rfl ?_
      refine gx_if_ne 78 dX10_span_70 (by decide) ⟨fun z => ?_, fun z => ?_⟩
      · replace h := h.1 z
        refine gx_iload 6 dX10_span_73 rfl ?_
        refine gx_goto 79 dX10_span_75 (by decide) ?_
        refine gx_istore_n (lv' := [(0, .ref 0), (1, .int x1), (2, .int x2), (3, .int x6), (4, .int x4), (5, .int x5), (6, .int x6)]) dX10_span_79 rfl rfl rfl ?_
        refine gx_iload 6 dX10_span_80 rfl ?_
        refine gx_istore (lv' := [(0, .ref 0), (1, .int x1), (2, .int x2), (3, .int x6), (4, .int x6), (5, .int x5), (6, .int x6)]) dX10_span_82 rfl rfl ?_
        refine gx_iinc (v := (x5 + 1)) (lv' := [(0, .ref 0), (1, .int x1), (2, .int x2), (3, .int x6), (4, .int x6), (5, .int (x5 + 1)), (6, .int x6)]) 5 dX10_span_84 rfl rfl rfl rfl ?_
        refine gx_iinc (v := (x6 + 1)) (lv' := [(0, .ref 0), (1, .int x1), (2, .int x2), (3, .int x6), (4, .int x6), (5, .int (x5 + 1)), (6, .int (x6 + 1))]) 6 dX10_span_87 rfl rfl rfl rfl ?_
        refine gx_goto 40 dX10_span_90 (by decide) ?_
        exact h
      · replace h := h.2 z
        refine gx_iload_n 3 dX10_span_78 rfl rfl ?_
        refine gx_istore_n (lv' := [(0, .ref 0), (1, .int x1), (2, .int x2), (3, .int x3), (4, .int x4), (5, .int x5), (6, .int x6)]) dX10_span_79 rfl rfl rfl ?_
        refine gx_iload 6 dX10_span_80 rfl ?_
        refine gx_istore (lv' := [(0, .ref 0), (1, .int x1), (2, .int x2), (3, .int x3), (4, .int x6), (5, .int x5), (6, .int x6)]) dX10_span_82 rfl rfl ?_
        refine gx_iinc (v := (x5 + 1)) (lv' := [(0, .ref 0), (1, .int x1), (2, .int x2), (3, .int x3), (4, .int x6), (5, .int (x5 + 1)), (6, .int x6)]) 5 dX10_span_84 rfl rfl rfl rfl ?_
        refine gx_iinc (v := (x6 + 1)) (lv' := [(0, .ref 0), (1, .int x1), (2, .int x2), (3, .int x3), (4, .int x6), (5, .int (x5 + 1)), (6, .int (x6 + 1))]) 6 dX10_span_87 rfl rfl rfl rfl ?_
        refine gx_goto 40 dX10_span_90 (by decide) ?_
        exact h
abbrev Z_J_expect (g : gm_G) (Q : Int64 → mI → mL → gm_cfg → Prop) (pc : Nat) (lv : List (Nat × Value)) (st : List Value) (I : mI) (L : mL) (c : gm_cfg) : Prop := gm_X g RX10 "expect" cX10_expect 7 (some .long) 6 0 0 (qL Q) 0 0 pc lv st (SH, I, L, RR c)
abbrev C_J_expect (g : gm_G) (x1 : Int32) (x2 : Int32) (I : mI) (L : mL) (c : gm_cfg) (Q : Int64 → mI → mL → gm_cfg → Prop) : Prop := gm_Met g yX10_expect cX10_expect 7 (some .long) 6 0 0 [.ref 0, .int x1, .int x2] (SH, I, L, RR c) (qL Q)
set_option maxRecDepth 100000 in
theorem e_J_expect {g : gm_G} {Q : Int64 → mI → mL → gm_cfg → Prop} {x1 x2 : Int32} {I : mI} {L : mL} {c : gm_cfg} (h : ((x2 < 0 → Q (-2) I L c) ∧ (¬ x2 < 0 → ((x2 ≤ 2 → (C_J_canCount g x1 I L c (fun b4 I1 L2 c3 => ((b4 = false → Q (-3) I1 L2 c3) ∧ (b4 = true → (C_Sr_weigh g x1 I1 L2 c3 (fun I5 L6 c7 => (C_Sr_total g I5 L6 c7 (fun r11 I8 L9 c10 => (((0 : Int64) < r11 → ((x2 = 2 → (C_Sr_halfway g I8 L9 c10 (fun r15 I12 L13 c14 => Q (Int32.toInt64 r15) I12 L13 c14))) ∧ (¬ x2 = 2 → (C_Sr_weightedSum g I8 L9 c10 (fun r19 I16 L17 c18 => ((x2 = 0 → (¬ r11 = 0 ∧ Q (r19 / r11) I16 L17 c18)) ∧ (¬ x2 = 0 → (¬ r11 = 0 ∧ Q (r19 - r19 / r11 * r11) I16 L17 c18)))))))) ∧ (¬ (0 : Int64) < r11 → Q (-1) I8 L9 c10))))))))))) ∧ (¬ x2 ≤ 2 → Q (-2) I L c))))) : C_J_expect g x1 x2 I L c Q := by
  refine gm_enter (lv := [(0, .ref 0), (1, .int x1), (2, .int x2)]) (by decide) rfl rfl rfl rfl ?_
  show Z_J_expect g Q 0 [(0, .ref 0), (1, .int x1), (2, .int x2)] [] I L c
  refine gx_iload_n 2 dX10_expect_0 rfl rfl ?_
  refine gx_if_lt 9 dX10_expect_1 (by decide) ⟨fun z => ?_, fun z => ?_⟩
  · replace h := h.1 z
    refine gx_ldc2 dX10_expect_9 kl_X10_302 ?_
    exact gx_lret dX10_expect_12 rfl rfl rfl ⟨_, _, _, _, rfl, rfl, h⟩
  · replace h := h.2 z
    refine gx_iload_n 2 dX10_expect_4 rfl rfl ?_
    refine gx_iconst (v := 2) dX10_expect_5 (by decide) ?_
    refine gx_icmp_le 13 dX10_expect_6 (by decide) ⟨fun z => ?_, fun z => ?_⟩
    · replace h := h.1 z
      refine gx_aload_n 0 dX10_expect_13 rfl rfl ?_
      refine gx_iload_n 1 dX10_expect_14 rfl rfl ?_
      refine gx_callV 10 (As := [.int x1]) (st := []) dX10_expect_15 ml_X10_283 mm_X10_canCount rfl rfl rfl rfl rfl rfl ⟨rfl, rfl⟩ h (fun v h2 hq => ?_)
      clear h
      obtain ⟨b4, I1, L2, c3, rfl, rfl, h⟩ := hq
      show Z_J_expect g Q 18 [(0, .ref 0), (1, .int x1), (2, .int x2)] [.int (gm_b b4)] I1 L2 c3
      refine gx_if_ne 25 dX10_expect_18 (by decide) ⟨fun z => ?_, fun z => ?_⟩
      · replace h := h.1 (gm_b0.mp z)
        refine gx_ldc2 dX10_expect_21 kl_X10_290 ?_
        exact gx_lret dX10_expect_24 rfl rfl rfl ⟨_, _, _, _, rfl, rfl, h⟩
      · replace h := h.2 (gm_bn0 z)
        refine gx_aload_n 0 dX10_expect_25 rfl rfl ?_
        refine gx_getr 10 8 (v := 23) dX10_expect_26 fl_X10_71 rfl rfl rfl ?_
        refine gx_iload_n 1 dX10_expect_29 rfl rfl ?_
        refine gx_callV 7 (As := [.int x1]) (st := []) dX10_expect_30 ml_X10_249 mm_X7_weigh rfl rfl rfl rfl rfl rfl ⟨rfl, rfl⟩ h (fun v h2 hq => ?_)
        clear h
        obtain ⟨I5, L6, c7, rfl, rfl, h⟩ := hq
        show Z_J_expect g Q 33 [(0, .ref 0), (1, .int x1), (2, .int x2)] [] I5 L6 c7
        refine gx_aload_n 0 dX10_expect_33 rfl rfl ?_
        refine gx_getr 10 8 (v := 23) dX10_expect_34 fl_X10_71 rfl rfl rfl ?_
        refine gx_callV 7 (As := []) (st := []) dX10_expect_37 ml_X10_292 mm_X7_total rfl rfl rfl rfl rfl rfl ⟨rfl, rfl⟩ h (fun v h2 hq => ?_)
        clear h
        obtain ⟨r11, I8, L9, c10, rfl, rfl, h⟩ := hq
        show Z_J_expect g Q 40 [(0, .ref 0), (1, .int x1), (2, .int x2)] [.long r11] I8 L9 c10
        refine gx_lstore_n (lv' := [(0, .ref 0), (1, .int x1), (2, .int x2), (3, .long r11)]) dX10_expect_40 rfl rfl rfl ?_
        refine gx_lload_n 3 dX10_expect_41 rfl rfl ?_
        refine gx_lconst (v := 0) dX10_expect_42 (by decide) ?_
        refine gx_lcmp_gt 51 dX10_expect_43 dX10_expect_44 (by decide) ⟨fun z => ?_, fun z => ?_⟩
        · replace h := h.1 z
          refine gx_iload_n 2 dX10_expect_51 rfl rfl ?_
          refine gx_iconst (v := 2) dX10_expect_52 (by decide) ?_
          refine gx_icmp_ne 65 dX10_expect_53 (by decide) ⟨fun z => ?_, fun z => ?_⟩
          · replace h := h.1 z
            refine gx_aload_n 0 dX10_expect_56 rfl rfl ?_
            refine gx_getr 10 8 (v := 23) dX10_expect_57 fl_X10_71 rfl rfl rfl ?_
            refine gx_callV 7 (As := []) (st := []) dX10_expect_60 ml_X10_306 mm_X7_halfway rfl rfl rfl rfl rfl rfl ⟨rfl, rfl⟩ h (fun v h2 hq => ?_)
            clear h
            obtain ⟨r15, I12, L13, c14, rfl, rfl, h⟩ := hq
            show Z_J_expect g Q 63 [(0, .ref 0), (1, .int x1), (2, .int x2), (3, .long r11)] [.int r15] I12 L13 c14
            refine gx_i2l dX10_expect_63 ?_
            exact gx_lret dX10_expect_64 rfl rfl rfl ⟨_, _, _, _, rfl, rfl, h⟩
          · replace h := h.2 z
            refine gx_aload_n 0 dX10_expect_65 rfl rfl ?_
            refine gx_getr 10 8 (v := 23) dX10_expect_66 fl_X10_71 rfl rfl rfl ?_
            refine gx_callV 7 (As := []) (st := []) dX10_expect_69 ml_X10_309 mm_X7_weightedSum rfl rfl rfl rfl rfl rfl ⟨rfl, rfl⟩ h (fun v h2 hq => ?_)
            clear h
            obtain ⟨r19, I16, L17, c18, rfl, rfl, h⟩ := hq
            show Z_J_expect g Q 72 [(0, .ref 0), (1, .int x1), (2, .int x2), (3, .long r11)] [.long r19] I16 L17 c18
            refine gx_lstore (lv' := [(0, .ref 0), (1, .int x1), (2, .int x2), (3, .long r11), (5, .long r19)]) dX10_expect_72 rfl rfl ?_
            refine gx_iload_n 2 dX10_expect_74 rfl rfl ?_
            refine gx_if_ne 85 dX10_expect_75 (by decide) ⟨fun z => ?_, fun z => ?_⟩
            · replace h := h.1 z
              refine gx_lload 4 dX10_expect_78 rfl ?_
              refine gx_lload_n 3 dX10_expect_80 rfl rfl ?_
              obtain ⟨hn, h⟩ := h
              refine gx_ldiv dX10_expect_81 hn ?_
              refine gx_goto 89 dX10_expect_82 (by decide) ?_
              exact gx_lret dX10_expect_89 rfl rfl rfl ⟨_, _, _, _, rfl, rfl, h⟩
            · replace h := h.2 z
              refine gx_lload 4 dX10_expect_85 rfl ?_
              refine gx_lload_n 3 dX10_expect_87 rfl rfl ?_
              obtain ⟨hn, h⟩ := h
              refine gx_lrem dX10_expect_88 hn ?_
              exact gx_lret dX10_expect_89 rfl rfl rfl ⟨_, _, _, _, rfl, rfl, h⟩
        · replace h := h.2 z
          refine gx_ldc2 dX10_expect_47 kl_X10_304 ?_
          exact gx_lret dX10_expect_50 rfl rfl rfl ⟨_, _, _, _, rfl, rfl, h⟩
    · replace h := h.2 z
      refine gx_ldc2 dX10_expect_9 kl_X10_302 ?_
      exact gx_lret dX10_expect_12 rfl rfl rfl ⟨_, _, _, _, rfl, rfl, h⟩
abbrev Z_J_copied (g : gm_G) (Q : Int64 → mI → mL → gm_cfg → Prop) (pc : Nat) (lv : List (Nat × Value)) (st : List Value) (I : mI) (L : mL) (c : gm_cfg) : Prop := gm_X g RX10 "copied" cX10_copied 3 (some .long) 6 0 0 (qL Q) 0 0 pc lv st (SH, I, L, RR c)
abbrev C_J_copied (g : gm_G) (x1 : Int32) (x2 : Int32) (I : mI) (L : mL) (c : gm_cfg) (Q : Int64 → mI → mL → gm_cfg → Prop) : Prop := gm_Met g yX10_copied cX10_copied 3 (some .long) 6 0 0 [.ref 0, .int x1, .int x2] (SH, I, L, RR c) (qL Q)
set_option maxRecDepth 100000 in
theorem e_J_copied {g : gm_G} {Q : Int64 → mI → mL → gm_cfg → Prop} {x1 x2 : Int32} {I : mI} {L : mL} {c : gm_cfg} (h : (C_J_canCount g x2 I L c (fun b4 I1 L2 c3 => ((b4 = false → Q (-3) I1 L2 c3) ∧ (b4 = true → ((x1 < 0 → Q (-2) I1 L2 c3) ∧ (¬ x1 < 0 → ((x2 ≤ x1 → Q (-2) I1 L2 c3) ∧ (¬ x2 ≤ x1 → (C_Sr_copiedWays g x1 x2 I1 L2 c3 (fun r8 I5 L6 c7 => Q r8 I5 L6 c7))))))))))) : C_J_copied g x1 x2 I L c Q := by
  refine gm_enter (lv := [(0, .ref 0), (1, .int x1), (2, .int x2)]) (by decide) rfl rfl rfl rfl ?_
  show Z_J_copied g Q 0 [(0, .ref 0), (1, .int x1), (2, .int x2)] [] I L c
  refine gx_aload_n 0 dX10_copied_0 rfl rfl ?_
  refine gx_iload_n 2 dX10_copied_1 rfl rfl ?_
  refine gx_callV 10 (As := [.int x2]) (st := []) dX10_copied_2 ml_X10_283 mm_X10_canCount rfl rfl rfl rfl rfl rfl ⟨rfl, rfl⟩ h (fun v h2 hq => ?_)
  clear h
  obtain ⟨b4, I1, L2, c3, rfl, rfl, h⟩ := hq
  show Z_J_copied g Q 5 [(0, .ref 0), (1, .int x1), (2, .int x2)] [.int (gm_b b4)] I1 L2 c3
  refine gx_if_ne 12 dX10_copied_5 (by decide) ⟨fun z => ?_, fun z => ?_⟩
  · replace h := h.1 (gm_b0.mp z)
    refine gx_ldc2 dX10_copied_8 kl_X10_290 ?_
    exact gx_lret dX10_copied_11 rfl rfl rfl ⟨_, _, _, _, rfl, rfl, h⟩
  · replace h := h.2 (gm_bn0 z)
    refine gx_iload_n 1 dX10_copied_12 rfl rfl ?_
    refine gx_if_lt 33 dX10_copied_13 (by decide) ⟨fun z => ?_, fun z => ?_⟩
    · replace h := h.1 z
      refine gx_ldc2 dX10_copied_33 kl_X10_302 ?_
      exact gx_lret dX10_copied_36 rfl rfl rfl ⟨_, _, _, _, rfl, rfl, h⟩
    · replace h := h.2 z
      refine gx_iload_n 1 dX10_copied_16 rfl rfl ?_
      refine gx_iload_n 2 dX10_copied_17 rfl rfl ?_
      refine gx_icmp_ge 33 dX10_copied_18 (by decide) ⟨fun z => ?_, fun z => ?_⟩
      · replace h := h.1 z
        refine gx_ldc2 dX10_copied_33 kl_X10_302 ?_
        exact gx_lret dX10_copied_36 rfl rfl rfl ⟨_, _, _, _, rfl, rfl, h⟩
      · replace h := h.2 z
        refine gx_aload_n 0 dX10_copied_21 rfl rfl ?_
        refine gx_getr 10 8 (v := 23) dX10_copied_22 fl_X10_71 rfl rfl rfl ?_
        refine gx_iload_n 1 dX10_copied_25 rfl rfl ?_
        refine gx_iload_n 2 dX10_copied_26 rfl rfl ?_
        refine gx_callV 7 (As := [.int x1, .int x2]) (st := []) dX10_copied_27 ml_X10_312 mm_X7_copiedWays rfl rfl rfl rfl rfl rfl ⟨rfl, rfl⟩ h (fun v h2 hq => ?_)
        clear h
        obtain ⟨r8, I5, L6, c7, rfl, rfl, h⟩ := hq
        show Z_J_copied g Q 30 [(0, .ref 0), (1, .int x1), (2, .int x2)] [.long r8] I5 L6 c7
        refine gx_goto 36 dX10_copied_30 (by decide) ?_
        exact gx_lret dX10_copied_36 rfl rfl rfl ⟨_, _, _, _, rfl, rfl, h⟩
abbrev Z_J_copier (g : gm_G) (Q : Int32 → mI → mL → gm_cfg → Prop) (pc : Nat) (lv : List (Nat × Value)) (st : List Value) (I : mI) (L : mL) (c : gm_cfg) : Prop := gm_X g RX10 "copier" cX10_copier 8 (some .int) 6 0 0 (qI Q) 0 0 pc lv st (SH, I, L, RR c)
abbrev C_J_copier (g : gm_G) (x1 : Int32) (I : mI) (L : mL) (c : gm_cfg) (Q : Int32 → mI → mL → gm_cfg → Prop) : Prop := gm_Met g yX10_copier cX10_copier 8 (some .int) 6 0 0 [.ref 0, .int x1] (SH, I, L, RR c) (qI Q)
set_option maxRecDepth 100000 in
theorem e_J_copier {g : gm_G} {Q : Int32 → mI → mL → gm_cfg → Prop} {x1 : Int32} {I : mI} {L : mL} {c : gm_cfg} (h : (C_J_canCount g x1 I L c (fun b4 I1 L2 c3 => ((b4 = false → Q (-3) I1 L2 c3) ∧ (b4 = true → Z_J_copier g Q 18 [(0, .ref 0), (1, .int x1), (2, .int (-1)), (3, .long 0), (5, .int 0)] [] I1 L2 c3))))) : C_J_copier g x1 I L c Q := by
  refine gm_enter (lv := [(0, .ref 0), (1, .int x1)]) (by decide) rfl rfl rfl rfl ?_
  show Z_J_copier g Q 0 [(0, .ref 0), (1, .int x1)] [] I L c
  refine gx_aload_n 0 dX10_copier_0 rfl rfl ?_
  refine gx_iload_n 1 dX10_copier_1 rfl rfl ?_
  refine gx_callV 10 (As := [.int x1]) (st := []) dX10_copier_2 ml_X10_283 mm_X10_canCount rfl rfl rfl rfl rfl rfl ⟨rfl, rfl⟩ h (fun v h2 hq => ?_)
  clear h
  obtain ⟨b4, I1, L2, c3, rfl, rfl, h⟩ := hq
  show Z_J_copier g Q 5 [(0, .ref 0), (1, .int x1)] [.int (gm_b b4)] I1 L2 c3
  refine gx_if_ne 11 dX10_copier_5 (by decide) ⟨fun z => ?_, fun z => ?_⟩
  · replace h := h.1 (gm_b0.mp z)
    refine gx_bipush (v := (-3)) dX10_copier_8 (by decide) ?_
    exact gx_iret dX10_copier_10 rfl rfl rfl ⟨_, _, _, _, rfl, rfl, h⟩
  · replace h := h.2 (gm_bn0 z)
    refine gx_iconst (v := (-1)) dX10_copier_11 (by decide) ?_
    refine gx_istore_n (lv' := [(0, .ref 0), (1, .int x1), (2, .int (-1))]) dX10_copier_12 rfl rfl rfl ?_
    refine gx_lconst (v := 0) dX10_copier_13 (by decide) ?_
    refine gx_lstore_n (lv' := [(0, .ref 0), (1, .int x1), (2, .int (-1)), (3, .long 0)]) dX10_copier_14 rfl rfl rfl ?_
    refine gx_iconst (v := 0) dX10_copier_15 (by decide) ?_
    refine gx_istore (lv' := [(0, .ref 0), (1, .int x1), (2, .int (-1)), (3, .long 0), (5, .int 0)]) dX10_copier_16 rfl rfl ?_
    exact h
set_option maxRecDepth 100000 in
theorem r_J_copier_18 {g : gm_G} {Q : Int32 → mI → mL → gm_cfg → Prop} {x1 x2 x5 : Int32} {x3 : Int64} {I : mI} {L : mL} {c : gm_cfg} (h : ((x1 ≤ x5 → Q x2 I L c) ∧ (¬ x1 ≤ x5 → (C_Sr_copiedWays g x5 x1 I L c (fun r4 I1 L2 c3 => (((r4 : Int64) ≤ x3 → Z_J_copier g Q 18 [(0, .ref 0), (1, .int x1), (2, .int x2), (3, .long x3), (5, .int (x5 + 1))] [] I1 L2 c3) ∧ (¬ (r4 : Int64) ≤ x3 → Z_J_copier g Q 18 [(0, .ref 0), (1, .int x1), (2, .int x5), (3, .long r4), (5, .int (x5 + 1))] [] I1 L2 c3))))))) : Z_J_copier g Q 18 [(0, .ref 0), (1, .int x1), (2, .int x2), (3, .long x3), (5, .int x5)] [] I L c := by
  refine gx_iload 4 dX10_copier_18 rfl ?_
  refine gx_iload_n 1 dX10_copier_20 rfl rfl ?_
  refine gx_icmp_ge 55 dX10_copier_21 (by decide) ⟨fun z => ?_, fun z => ?_⟩
  · replace h := h.1 z
    refine gx_iload_n 2 dX10_copier_55 rfl rfl ?_
    exact gx_iret dX10_copier_56 rfl rfl rfl ⟨_, _, _, _, rfl, rfl, h⟩
  · replace h := h.2 z
    refine gx_aload_n 0 dX10_copier_24 rfl rfl ?_
    refine gx_getr 10 8 (v := 23) dX10_copier_25 fl_X10_71 rfl rfl rfl ?_
    refine gx_iload 4 dX10_copier_28 rfl ?_
    refine gx_iload_n 1 dX10_copier_30 rfl rfl ?_
    refine gx_callV 7 (As := [.int x5, .int x1]) (st := []) dX10_copier_31 ml_X10_312 mm_X7_copiedWays rfl rfl rfl rfl rfl rfl ⟨rfl, rfl⟩ h (fun v h2 hq => ?_)
    clear h
    obtain ⟨r4, I1, L2, c3, rfl, rfl, h⟩ := hq
    show Z_J_copier g Q 34 [(0, .ref 0), (1, .int x1), (2, .int x2), (3, .long x3), (5, .int x5)] [.long r4] I1 L2 c3
    refine gx_lstore (lv' := [(0, .ref 0), (1, .int x1), (2, .int x2), (3, .long x3), (5, .int x5), (6, .long r4)]) dX10_copier_34 rfl rfl ?_
    refine gx_lload 5 dX10_copier_36 rfl ?_
    refine gx_lload_n 3 dX10_copier_38 rfl rfl ?_
    refine gx_lcmp_le 49 dX10_copier_39 dX10_copier_40 (by decide) ⟨fun z => ?_, fun z => ?_⟩
    · replace h := h.1 z
      refine gx_iinc (v := (x5 + 1)) (lv' := [(0, .ref 0), (1, .int x1), (2, .int x2), (3, .long x3), (5, .int (x5 + 1)), (6, .long r4)]) 4 dX10_copier_49 rfl rfl rfl rfl ?_
      refine gx_goto 18 dX10_copier_52 (by decide) ?_
      refine gx_sub [0, 1, 2, 3, 4] (lv' := [(0, .ref 0), (1, .int x1), (2, .int x2), (3, .long x3), (5, .int (x5 + 1))]) rfl ?_
      exact h
    · replace h := h.2 z
      refine gx_lload 5 dX10_copier_43 rfl ?_
      refine gx_lstore_n (lv' := [(0, .ref 0), (1, .int x1), (2, .int x2), (3, .long r4), (5, .int x5), (6, .long r4)]) dX10_copier_45 rfl rfl rfl ?_
      refine gx_iload 4 dX10_copier_46 rfl ?_
      refine gx_istore_n (lv' := [(0, .ref 0), (1, .int x1), (2, .int x5), (3, .long r4), (5, .int x5), (6, .long r4)]) dX10_copier_48 rfl rfl rfl ?_
      refine gx_iinc (v := (x5 + 1)) (lv' := [(0, .ref 0), (1, .int x1), (2, .int x5), (3, .long r4), (5, .int (x5 + 1)), (6, .long r4)]) 4 dX10_copier_49 rfl rfl rfl rfl ?_
      refine gx_goto 18 dX10_copier_52 (by decide) ?_
      refine gx_sub [0, 1, 2, 3, 4] (lv' := [(0, .ref 0), (1, .int x1), (2, .int x5), (3, .long r4), (5, .int (x5 + 1))]) rfl ?_
      exact h
abbrev Z_J_chance (g : gm_G) (Q : Int64 → mI → mL → gm_cfg → Prop) (pc : Nat) (lv : List (Nat × Value)) (st : List Value) (I : mI) (L : mL) (c : gm_cfg) : Prop := gm_X g RX10 "chance" cX10_chance 4 (some .long) 6 0 0 (qL Q) 0 0 pc lv st (SH, I, L, RR c)
abbrev C_J_chance (g : gm_G) (x1 : Int32) (x2 : Int32) (I : mI) (L : mL) (c : gm_cfg) (Q : Int64 → mI → mL → gm_cfg → Prop) : Prop := gm_Met g yX10_chance cX10_chance 4 (some .long) 6 0 0 [.ref 0, .int x1, .int x2] (SH, I, L, RR c) (qL Q)
set_option maxRecDepth 100000 in
theorem e_J_chance {g : gm_G} {Q : Int64 → mI → mL → gm_cfg → Prop} {x1 x2 : Int32} {I : mI} {L : mL} {c : gm_cfg} (h : (C_J_isNumber g x1 I L c (fun b4 I1 L2 c3 => ((b4 = false → Q (-3) I1 L2 c3) ∧ (b4 = true → (C_J_canCount g x2 I1 L2 c3 (fun b8 I5 L6 c7 => ((b8 = false → Q (-3) I5 L6 c7) ∧ (b8 = true → (C_Sr_weigh g x2 I5 L6 c7 (fun I9 L10 c11 => (C_Sr_reachBehind g x1 (I9 20 2) I9 L10 c11 (fun o15 I12 L13 c14 => o15 = 24 ∧ (C_Sr_sum g (I12 24 0) (I12 24 1) I12 L13 c14 (fun r19 I16 L17 c18 => Q r19 I16 L17 c18))))))))))))))) : C_J_chance g x1 x2 I L c Q := by
  refine gm_enter (lv := [(0, .ref 0), (1, .int x1), (2, .int x2)]) (by decide) rfl rfl rfl rfl ?_
  show Z_J_chance g Q 0 [(0, .ref 0), (1, .int x1), (2, .int x2)] [] I L c
  refine gx_iload_n 1 dX10_chance_0 rfl rfl ?_
  refine gx_callS (As := [.int x1]) (st := []) dX10_chance_1 ml_X10_151 mm_X10_isNumber rfl rfl rfl rfl ⟨rfl, rfl⟩ h (fun v h2 hq => ?_)
  clear h
  obtain ⟨b4, I1, L2, c3, rfl, rfl, h⟩ := hq
  show Z_J_chance g Q 4 [(0, .ref 0), (1, .int x1), (2, .int x2)] [.int (gm_b b4)] I1 L2 c3
  refine gx_if_eq 15 dX10_chance_4 (by decide) ⟨fun z => ?_, fun z => ?_⟩
  · replace h := h.1 (gm_b0.mp z)
    refine gx_ldc2 dX10_chance_15 kl_X10_290 ?_
    exact gx_lret dX10_chance_18 rfl rfl rfl ⟨_, _, _, _, rfl, rfl, h⟩
  · replace h := h.2 (gm_bn0 z)
    refine gx_aload_n 0 dX10_chance_7 rfl rfl ?_
    refine gx_iload_n 2 dX10_chance_8 rfl rfl ?_
    refine gx_callV 10 (As := [.int x2]) (st := []) dX10_chance_9 ml_X10_283 mm_X10_canCount rfl rfl rfl rfl rfl rfl ⟨rfl, rfl⟩ h (fun v h2 hq => ?_)
    clear h
    obtain ⟨b8, I5, L6, c7, rfl, rfl, h⟩ := hq
    show Z_J_chance g Q 12 [(0, .ref 0), (1, .int x1), (2, .int x2)] [.int (gm_b b8)] I5 L6 c7
    refine gx_if_ne 19 dX10_chance_12 (by decide) ⟨fun z => ?_, fun z => ?_⟩
    · replace h := h.1 (gm_b0.mp z)
      refine gx_ldc2 dX10_chance_15 kl_X10_290 ?_
      exact gx_lret dX10_chance_18 rfl rfl rfl ⟨_, _, _, _, rfl, rfl, h⟩
    · replace h := h.2 (gm_bn0 z)
      refine gx_aload_n 0 dX10_chance_19 rfl rfl ?_
      refine gx_getr 10 8 (v := 23) dX10_chance_20 fl_X10_71 rfl rfl rfl ?_
      refine gx_iload_n 2 dX10_chance_23 rfl rfl ?_
      refine gx_callV 7 (As := [.int x2]) (st := []) dX10_chance_24 ml_X10_249 mm_X7_weigh rfl rfl rfl rfl rfl rfl ⟨rfl, rfl⟩ h (fun v h2 hq => ?_)
      clear h
      obtain ⟨I9, L10, c11, rfl, rfl, h⟩ := hq
      show Z_J_chance g Q 27 [(0, .ref 0), (1, .int x1), (2, .int x2)] [] I9 L10 c11
      refine gx_aload_n 0 dX10_chance_27 rfl rfl ?_
      refine gx_getr 10 8 (v := 23) dX10_chance_28 fl_X10_71 rfl rfl rfl ?_
      refine gx_iload_n 1 dX10_chance_31 rfl rfl ?_
      refine gx_aload_n 0 dX10_chance_32 rfl rfl ?_
      refine gx_getr 10 5 (v := 20) dX10_chance_33 fl_X10_68 rfl rfl rfl ?_
      refine gx_geti 8 2 (v := (I9 20 2)) dX10_chance_36 fl_X10_154 rfl rfl rfl ?_
      refine gx_callV 7 (As := [.int x1, .int (I9 20 2)]) (st := []) dX10_chance_39 ml_X10_315 mm_X7_reachBehind rfl rfl rfl rfl rfl rfl ⟨rfl, rfl⟩ h (fun v h2 hq => ?_)
      clear h
      obtain ⟨o15, I12, L13, c14, rfl, rfl, h⟩ := hq
      obtain ⟨rfl, h⟩ := h
      show Z_J_chance g Q 42 [(0, .ref 0), (1, .int x1), (2, .int x2)] [.ref 24] I12 L13 c14
      refine gx_astore_n (lv' := [(0, .ref 0), (1, .int x1), (2, .int x2), (3, .ref 24)]) dX10_chance_42 rfl rfl rfl ?_
      refine gx_aload_n 0 dX10_chance_43 rfl rfl ?_
      refine gx_getr 10 8 (v := 23) dX10_chance_44 fl_X10_71 rfl rfl rfl ?_
      refine gx_aload_n 3 dX10_chance_47 rfl rfl ?_
      refine gx_geti 4 0 (v := (I12 24 0)) dX10_chance_48 fl_X10_252 rfl rfl rfl ?_
      refine gx_aload_n 3 dX10_chance_51 rfl rfl ?_
      refine gx_geti 4 1 (v := (I12 24 1)) dX10_chance_52 fl_X10_255 rfl rfl rfl ?_
      refine gx_callV 7 (As := [.int (I12 24 0), .int (I12 24 1)]) (st := []) dX10_chance_55 ml_X10_258 mm_X7_sum rfl rfl rfl rfl rfl rfl ⟨rfl, rfl⟩ h (fun v h2 hq => ?_)
      clear h
      obtain ⟨r19, I16, L17, c18, rfl, rfl, h⟩ := hq
      show Z_J_chance g Q 58 [(0, .ref 0), (1, .int x1), (2, .int x2), (3, .ref 24)] [.long r19] I16 L17 c18
      exact gx_lret dX10_chance_58 rfl rfl rfl ⟨_, _, _, _, rfl, rfl, h⟩
abbrev Z_J_best (g : gm_G) (Q : Int64 → mI → mL → gm_cfg → Prop) (pc : Nat) (lv : List (Nat × Value)) (st : List Value) (I : mI) (L : mL) (c : gm_cfg) : Prop := gm_X g RX10 "best" cX10_best 3 (some .long) 7 0 0 (qL Q) 0 0 pc lv st (SH, I, L, RR c)
abbrev C_J_best (g : gm_G) (x1 : Int32) (x2 : Int32) (I : mI) (L : mL) (c : gm_cfg) (Q : Int64 → mI → mL → gm_cfg → Prop) : Prop := gm_Met g yX10_best cX10_best 3 (some .long) 7 0 0 [.ref 0, .int x1, .int x2] (SH, I, L, RR c) (qL Q)
set_option maxRecDepth 100000 in
theorem e_J_best {g : gm_G} {Q : Int64 → mI → mL → gm_cfg → Prop} {x1 x2 : Int32} {I : mI} {L : mL} {c : gm_cfg} (h : ((x2 < 0 → Q (-2) I L c) ∧ (¬ x2 < 0 → ((x2 ≤ 1 → (C_J_canCount g x1 I L c (fun b4 I1 L2 c3 => ((b4 = false → Q (-3) I1 L2 c3) ∧ (b4 = true → (C_Sr_lay g x1 (I1 20 2) I1 L2 c3 (fun I5 L6 c7 => (C_Wr_play_0_1 g I5 L6 c7 (fun I8 L9 c10 => ((x2 = 0 → Q (Int32.toInt64 (I8 30 0)) I8 L9 c10) ∧ (¬ x2 = 0 → (C_Wr_shareOf g 0 1 I8 L9 c10 (fun r14 I11 L12 c13 => Q r14 I11 L12 c13))))))))))))) ∧ (¬ x2 ≤ 1 → Q (-2) I L c))))) : C_J_best g x1 x2 I L c Q := by
  refine gm_enter (lv := [(0, .ref 0), (1, .int x1), (2, .int x2)]) (by decide) rfl rfl rfl rfl ?_
  show Z_J_best g Q 0 [(0, .ref 0), (1, .int x1), (2, .int x2)] [] I L c
  refine gx_iload_n 2 dX10_best_0 rfl rfl ?_
  refine gx_if_lt 9 dX10_best_1 (by decide) ⟨fun z => ?_, fun z => ?_⟩
  · replace h := h.1 z
    refine gx_ldc2 dX10_best_9 kl_X10_302 ?_
    exact gx_lret dX10_best_12 rfl rfl rfl ⟨_, _, _, _, rfl, rfl, h⟩
  · replace h := h.2 z
    refine gx_iload_n 2 dX10_best_4 rfl rfl ?_
    refine gx_iconst (v := 1) dX10_best_5 (by decide) ?_
    refine gx_icmp_le 13 dX10_best_6 (by decide) ⟨fun z => ?_, fun z => ?_⟩
    · replace h := h.1 z
      refine gx_aload_n 0 dX10_best_13 rfl rfl ?_
      refine gx_iload_n 1 dX10_best_14 rfl rfl ?_
      refine gx_callV 10 (As := [.int x1]) (st := []) dX10_best_15 ml_X10_283 mm_X10_canCount rfl rfl rfl rfl rfl rfl ⟨rfl, rfl⟩ h (fun v h2 hq => ?_)
      clear h
      obtain ⟨b4, I1, L2, c3, rfl, rfl, h⟩ := hq
      show Z_J_best g Q 18 [(0, .ref 0), (1, .int x1), (2, .int x2)] [.int (gm_b b4)] I1 L2 c3
      refine gx_if_ne 25 dX10_best_18 (by decide) ⟨fun z => ?_, fun z => ?_⟩
      · replace h := h.1 (gm_b0.mp z)
        refine gx_ldc2 dX10_best_21 kl_X10_290 ?_
        exact gx_lret dX10_best_24 rfl rfl rfl ⟨_, _, _, _, rfl, rfl, h⟩
      · replace h := h.2 (gm_bn0 z)
        refine gx_aload_n 0 dX10_best_25 rfl rfl ?_
        refine gx_getr 10 8 (v := 23) dX10_best_26 fl_X10_71 rfl rfl rfl ?_
        refine gx_iload_n 1 dX10_best_29 rfl rfl ?_
        refine gx_aload_n 0 dX10_best_30 rfl rfl ?_
        refine gx_getr 10 5 (v := 20) dX10_best_31 fl_X10_68 rfl rfl rfl ?_
        refine gx_geti 8 2 (v := (I1 20 2)) dX10_best_34 fl_X10_154 rfl rfl rfl ?_
        refine gx_callV 7 (As := [.int x1, .int (I1 20 2)]) (st := []) dX10_best_37 ml_X10_319 mm_X7_lay rfl rfl rfl rfl rfl rfl ⟨rfl, rfl⟩ h (fun v h2 hq => ?_)
        clear h
        obtain ⟨I5, L6, c7, rfl, rfl, h⟩ := hq
        show Z_J_best g Q 40 [(0, .ref 0), (1, .int x1), (2, .int x2)] [] I5 L6 c7
        refine gx_aload_n 0 dX10_best_40 rfl rfl ?_
        refine gx_getr 10 9 (v := 29) dX10_best_41 fl_X10_80 rfl rfl rfl ?_
        refine gx_iconst (v := 0) dX10_best_44 (by decide) ?_
        refine gx_iconst (v := 1) dX10_best_45 (by decide) ?_
        refine gx_callV 9 (As := [.int 0, .int 1]) (st := []) dX10_best_46 ml_X10_322 mm_X9_play rfl rfl rfl rfl rfl rfl ⟨rfl, rfl⟩ h (fun v h2 hq => ?_)
        clear h
        obtain ⟨I8, L9, c10, rfl, rfl, h⟩ := hq
        show Z_J_best g Q 49 [(0, .ref 0), (1, .int x1), (2, .int x2)] [] I8 L9 c10
        refine gx_iload_n 2 dX10_best_49 rfl rfl ?_
        refine gx_if_ne 66 dX10_best_50 (by decide) ⟨fun z => ?_, fun z => ?_⟩
        · replace h := h.1 z
          refine gx_aload_n 0 dX10_best_53 rfl rfl ?_
          refine gx_getr 10 9 (v := 29) dX10_best_54 fl_X10_80 rfl rfl rfl ?_
          refine gx_getr 9 0 (v := 30) dX10_best_57 fl_X10_325 rfl rfl rfl ?_
          refine gx_iconst (v := 0) dX10_best_60 (by decide) ?_
          refine gx_iald (v := (I8 30 0)) dX10_best_61 rfl rfl (gm_vin rfl) (k := 0) rfl rfl ?_
          refine gx_i2l dX10_best_62 ?_
          refine gx_goto 75 dX10_best_63 (by decide) ?_
          exact gx_lret dX10_best_75 rfl rfl rfl ⟨_, _, _, _, rfl, rfl, h⟩
        · replace h := h.2 z
          refine gx_aload_n 0 dX10_best_66 rfl rfl ?_
          refine gx_getr 10 9 (v := 29) dX10_best_67 fl_X10_80 rfl rfl rfl ?_
          refine gx_iconst (v := 0) dX10_best_70 (by decide) ?_
          refine gx_iconst (v := 1) dX10_best_71 (by decide) ?_
          refine gx_callV 9 (As := [.int 0, .int 1]) (st := []) dX10_best_72 ml_X10_328 mm_X9_shareOf rfl rfl rfl rfl rfl rfl ⟨rfl, rfl⟩ h (fun v h2 hq => ?_)
          clear h
          obtain ⟨r14, I11, L12, c13, rfl, rfl, h⟩ := hq
          show Z_J_best g Q 75 [(0, .ref 0), (1, .int x1), (2, .int x2)] [.long r14] I11 L12 c13
          exact gx_lret dX10_best_75 rfl rfl rfl ⟨_, _, _, _, rfl, rfl, h⟩
    · replace h := h.2 z
      refine gx_ldc2 dX10_best_9 kl_X10_302 ?_
      exact gx_lret dX10_best_12 rfl rfl rfl ⟨_, _, _, _, rfl, rfl, h⟩
abbrev Z_J_bestTwo (g : gm_G) (Q : Int64 → mI → mL → gm_cfg → Prop) (pc : Nat) (lv : List (Nat × Value)) (st : List Value) (I : mI) (L : mL) (c : gm_cfg) : Prop := gm_X g RX10 "bestTwo" cX10_bestTwo 3 (some .long) 7 0 0 (qL Q) 0 0 pc lv st (SH, I, L, RR c)
abbrev C_J_bestTwo (g : gm_G) (x1 : Int32) (x2 : Int32) (I : mI) (L : mL) (c : gm_cfg) (Q : Int64 → mI → mL → gm_cfg → Prop) : Prop := gm_Met g yX10_bestTwo cX10_bestTwo 3 (some .long) 7 0 0 [.ref 0, .int x1, .int x2] (SH, I, L, RR c) (qL Q)
set_option maxRecDepth 100000 in
theorem e_J_bestTwo {g : gm_G} {Q : Int64 → mI → mL → gm_cfg → Prop} {x1 x2 : Int32} {I : mI} {L : mL} {c : gm_cfg} (h : ((x2 < 0 → Q (-2) I L c) ∧ (¬ x2 < 0 → ((x2 ≤ 2 → (C_J_canCount g x1 I L c (fun b4 I1 L2 c3 => ((b4 = false → Q (-3) I1 L2 c3) ∧ (b4 = true → (((I1 16 0) = (I1 16 1) → Q (-5) I1 L2 c3) ∧ (¬ (I1 16 0) = (I1 16 1) → (C_Sr_lay g x1 (I1 20 2) I1 L2 c3 (fun I5 L6 c7 => (C_Sr_chooseTwo g I5 L6 c7 (fun I8 L9 c10 => ((x2 = 2 → Q (L9 23 10) I8 L9 c10) ∧ (¬ x2 = 2 → ((x2 = 0 → Q (Int32.toInt64 (I8 23 8)) I8 L9 c10) ∧ (¬ x2 = 0 → Q (Int32.toInt64 (I8 23 9)) I8 L9 c10))))))))))))))) ∧ (¬ x2 ≤ 2 → Q (-2) I L c))))) : C_J_bestTwo g x1 x2 I L c Q := by
  refine gm_enter (lv := [(0, .ref 0), (1, .int x1), (2, .int x2)]) (by decide) rfl rfl rfl rfl ?_
  show Z_J_bestTwo g Q 0 [(0, .ref 0), (1, .int x1), (2, .int x2)] [] I L c
  refine gx_iload_n 2 dX10_bestTwo_0 rfl rfl ?_
  refine gx_if_lt 9 dX10_bestTwo_1 (by decide) ⟨fun z => ?_, fun z => ?_⟩
  · replace h := h.1 z
    refine gx_ldc2 dX10_bestTwo_9 kl_X10_302 ?_
    exact gx_lret dX10_bestTwo_12 rfl rfl rfl ⟨_, _, _, _, rfl, rfl, h⟩
  · replace h := h.2 z
    refine gx_iload_n 2 dX10_bestTwo_4 rfl rfl ?_
    refine gx_iconst (v := 2) dX10_bestTwo_5 (by decide) ?_
    refine gx_icmp_le 13 dX10_bestTwo_6 (by decide) ⟨fun z => ?_, fun z => ?_⟩
    · replace h := h.1 z
      refine gx_aload_n 0 dX10_bestTwo_13 rfl rfl ?_
      refine gx_iload_n 1 dX10_bestTwo_14 rfl rfl ?_
      refine gx_callV 10 (As := [.int x1]) (st := []) dX10_bestTwo_15 ml_X10_283 mm_X10_canCount rfl rfl rfl rfl rfl rfl ⟨rfl, rfl⟩ h (fun v h2 hq => ?_)
      clear h
      obtain ⟨b4, I1, L2, c3, rfl, rfl, h⟩ := hq
      show Z_J_bestTwo g Q 18 [(0, .ref 0), (1, .int x1), (2, .int x2)] [.int (gm_b b4)] I1 L2 c3
      refine gx_if_ne 25 dX10_bestTwo_18 (by decide) ⟨fun z => ?_, fun z => ?_⟩
      · replace h := h.1 (gm_b0.mp z)
        refine gx_ldc2 dX10_bestTwo_21 kl_X10_290 ?_
        exact gx_lret dX10_bestTwo_24 rfl rfl rfl ⟨_, _, _, _, rfl, rfl, h⟩
      · replace h := h.2 (gm_bn0 z)
        refine gx_aload_n 0 dX10_bestTwo_25 rfl rfl ?_
        refine gx_getr 10 2 (v := 16) dX10_bestTwo_26 fl_X10_65 rfl rfl rfl ?_
        refine gx_geti 1 0 (v := (I1 16 0)) dX10_bestTwo_29 fl_X10_296 rfl rfl rfl ?_
        refine gx_aload_n 0 dX10_bestTwo_32 rfl rfl ?_
        refine gx_getr 10 2 (v := 16) dX10_bestTwo_33 fl_X10_65 rfl rfl rfl ?_
        refine gx_geti 1 1 (v := (I1 16 1)) dX10_bestTwo_36 fl_X10_299 rfl rfl rfl ?_
        refine gx_icmp_ne 46 dX10_bestTwo_39 (by decide) ⟨fun z => ?_, fun z => ?_⟩
        · replace h := h.1 z
          refine gx_ldc2 dX10_bestTwo_42 kl_X10_331 ?_
          exact gx_lret dX10_bestTwo_45 rfl rfl rfl ⟨_, _, _, _, rfl, rfl, h⟩
        · replace h := h.2 z
          refine gx_aload_n 0 dX10_bestTwo_46 rfl rfl ?_
          refine gx_getr 10 8 (v := 23) dX10_bestTwo_47 fl_X10_71 rfl rfl rfl ?_
          refine gx_iload_n 1 dX10_bestTwo_50 rfl rfl ?_
          refine gx_aload_n 0 dX10_bestTwo_51 rfl rfl ?_
          refine gx_getr 10 5 (v := 20) dX10_bestTwo_52 fl_X10_68 rfl rfl rfl ?_
          refine gx_geti 8 2 (v := (I1 20 2)) dX10_bestTwo_55 fl_X10_154 rfl rfl rfl ?_
          refine gx_callV 7 (As := [.int x1, .int (I1 20 2)]) (st := []) dX10_bestTwo_58 ml_X10_319 mm_X7_lay rfl rfl rfl rfl rfl rfl ⟨rfl, rfl⟩ h (fun v h2 hq => ?_)
          clear h
          obtain ⟨I5, L6, c7, rfl, rfl, h⟩ := hq
          show Z_J_bestTwo g Q 61 [(0, .ref 0), (1, .int x1), (2, .int x2)] [] I5 L6 c7
          refine gx_aload_n 0 dX10_bestTwo_61 rfl rfl ?_
          refine gx_getr 10 8 (v := 23) dX10_bestTwo_62 fl_X10_71 rfl rfl rfl ?_
          refine gx_callV 7 (As := []) (st := []) dX10_bestTwo_65 ml_X10_333 mm_X7_chooseTwo rfl rfl rfl rfl rfl rfl ⟨rfl, rfl⟩ h (fun v h2 hq => ?_)
          clear h
          obtain ⟨I8, L9, c10, rfl, rfl, h⟩ := hq
          show Z_J_bestTwo g Q 68 [(0, .ref 0), (1, .int x1), (2, .int x2)] [] I8 L9 c10
          refine gx_iload_n 2 dX10_bestTwo_68 rfl rfl ?_
          refine gx_iconst (v := 2) dX10_bestTwo_69 (by decide) ?_
          refine gx_icmp_ne 81 dX10_bestTwo_70 (by decide) ⟨fun z => ?_, fun z => ?_⟩
          · replace h := h.1 z
            refine gx_aload_n 0 dX10_bestTwo_73 rfl rfl ?_
            refine gx_getr 10 8 (v := 23) dX10_bestTwo_74 fl_X10_71 rfl rfl rfl ?_
            refine gx_getl 7 10 (v := (L9 23 10)) dX10_bestTwo_77 fl_X10_336 rfl rfl rfl ?_
            exact gx_lret dX10_bestTwo_80 rfl rfl rfl ⟨_, _, _, _, rfl, rfl, h⟩
          · replace h := h.2 z
            refine gx_iload_n 2 dX10_bestTwo_81 rfl rfl ?_
            refine gx_if_ne 96 dX10_bestTwo_82 (by decide) ⟨fun z => ?_, fun z => ?_⟩
            · replace h := h.1 z
              refine gx_aload_n 0 dX10_bestTwo_85 rfl rfl ?_
              refine gx_getr 10 8 (v := 23) dX10_bestTwo_86 fl_X10_71 rfl rfl rfl ?_
              refine gx_geti 7 8 (v := (I8 23 8)) dX10_bestTwo_89 fl_X10_340 rfl rfl rfl ?_
              refine gx_i2l dX10_bestTwo_92 ?_
              refine gx_goto 104 dX10_bestTwo_93 (by decide) ?_
              exact gx_lret dX10_bestTwo_104 rfl rfl rfl ⟨_, _, _, _, rfl, rfl, h⟩
            · replace h := h.2 z
              refine gx_aload_n 0 dX10_bestTwo_96 rfl rfl ?_
              refine gx_getr 10 8 (v := 23) dX10_bestTwo_97 fl_X10_71 rfl rfl rfl ?_
              refine gx_geti 7 9 (v := (I8 23 9)) dX10_bestTwo_100 fl_X10_343 rfl rfl rfl ?_
              refine gx_i2l dX10_bestTwo_103 ?_
              exact gx_lret dX10_bestTwo_104 rfl rfl rfl ⟨_, _, _, _, rfl, rfl, h⟩
    · replace h := h.2 z
      refine gx_ldc2 dX10_bestTwo_9 kl_X10_302 ?_
      exact gx_lret dX10_bestTwo_12 rfl rfl rfl ⟨_, _, _, _, rfl, rfl, h⟩
abbrev Z_J_behind (g : gm_G) (Q : Int64 → mI → mL → gm_cfg → Prop) (pc : Nat) (lv : List (Nat × Value)) (st : List Value) (I : mI) (L : mL) (c : gm_cfg) : Prop := gm_X g RX10 "behind" cX10_behind 4 (some .long) 7 0 0 (qL Q) 0 0 pc lv st (SH, I, L, RR c)
abbrev C_J_behind (g : gm_G) (x1 : Int32) (x2 : Int32) (I : mI) (L : mL) (c : gm_cfg) (Q : Int64 → mI → mL → gm_cfg → Prop) : Prop := gm_Met g yX10_behind cX10_behind 4 (some .long) 7 0 0 [.ref 0, .int x1, .int x2] (SH, I, L, RR c) (qL Q)
set_option maxRecDepth 100000 in
theorem e_J_behind {g : gm_G} {Q : Int64 → mI → mL → gm_cfg → Prop} {x1 x2 : Int32} {I : mI} {L : mL} {c : gm_cfg} (h : ((x2 < 0 → Q (-2) I L c) ∧ (¬ x2 < 0 → ((x2 ≤ 3 → (C_J_canCount g x1 I L c (fun b4 I1 L2 c3 => ((b4 = false → Q (-3) I1 L2 c3) ∧ (b4 = true → (C_Sr_lay g x1 (I1 20 2) I1 L2 c3 (fun I5 L6 c7 => (C_Wr_play_0_2 g I5 L6 c7 (fun I8 L9 c10 => (((x2 - x2 / 2 * 2) = 0 → (vp_in (x2 / 2) 3 ∧ Q (Int32.toInt64 (I8 30 (Int32.toNatClampNeg (x2 / 2)))) I8 L9 c10)) ∧ (¬ (x2 - x2 / 2 * 2) = 0 → (C_Wr_shareOf g (x2 / 2) 2 I8 L9 c10 (fun r14 I11 L12 c13 => Q r14 I11 L12 c13))))))))))))) ∧ (¬ x2 ≤ 3 → Q (-2) I L c))))) : C_J_behind g x1 x2 I L c Q := by
  refine gm_enter (lv := [(0, .ref 0), (1, .int x1), (2, .int x2)]) (by decide) rfl rfl rfl rfl ?_
  show Z_J_behind g Q 0 [(0, .ref 0), (1, .int x1), (2, .int x2)] [] I L c
  refine gx_iload_n 2 dX10_behind_0 rfl rfl ?_
  refine gx_if_lt 9 dX10_behind_1 (by decide) ⟨fun z => ?_, fun z => ?_⟩
  · replace h := h.1 z
    refine gx_ldc2 dX10_behind_9 kl_X10_302 ?_
    exact gx_lret dX10_behind_12 rfl rfl rfl ⟨_, _, _, _, rfl, rfl, h⟩
  · replace h := h.2 z
    refine gx_iload_n 2 dX10_behind_4 rfl rfl ?_
    refine gx_iconst (v := 3) dX10_behind_5 (by decide) ?_
    refine gx_icmp_le 13 dX10_behind_6 (by decide) ⟨fun z => ?_, fun z => ?_⟩
    · replace h := h.1 z
      refine gx_aload_n 0 dX10_behind_13 rfl rfl ?_
      refine gx_iload_n 1 dX10_behind_14 rfl rfl ?_
      refine gx_callV 10 (As := [.int x1]) (st := []) dX10_behind_15 ml_X10_283 mm_X10_canCount rfl rfl rfl rfl rfl rfl ⟨rfl, rfl⟩ h (fun v h2 hq => ?_)
      clear h
      obtain ⟨b4, I1, L2, c3, rfl, rfl, h⟩ := hq
      show Z_J_behind g Q 18 [(0, .ref 0), (1, .int x1), (2, .int x2)] [.int (gm_b b4)] I1 L2 c3
      refine gx_if_ne 25 dX10_behind_18 (by decide) ⟨fun z => ?_, fun z => ?_⟩
      · replace h := h.1 (gm_b0.mp z)
        refine gx_ldc2 dX10_behind_21 kl_X10_290 ?_
        exact gx_lret dX10_behind_24 rfl rfl rfl ⟨_, _, _, _, rfl, rfl, h⟩
      · replace h := h.2 (gm_bn0 z)
        refine gx_aload_n 0 dX10_behind_25 rfl rfl ?_
        refine gx_getr 10 8 (v := 23) dX10_behind_26 fl_X10_71 rfl rfl rfl ?_
        refine gx_iload_n 1 dX10_behind_29 rfl rfl ?_
        refine gx_aload_n 0 dX10_behind_30 rfl rfl ?_
        refine gx_getr 10 5 (v := 20) dX10_behind_31 fl_X10_68 rfl rfl rfl ?_
        refine gx_geti 8 2 (v := (I1 20 2)) dX10_behind_34 fl_X10_154 rfl rfl rfl ?_
        refine gx_callV 7 (As := [.int x1, .int (I1 20 2)]) (st := []) dX10_behind_37 ml_X10_319 mm_X7_lay rfl rfl rfl rfl rfl rfl ⟨rfl, rfl⟩ h (fun v h2 hq => ?_)
        clear h
        obtain ⟨I5, L6, c7, rfl, rfl, h⟩ := hq
        show Z_J_behind g Q 40 [(0, .ref 0), (1, .int x1), (2, .int x2)] [] I5 L6 c7
        refine gx_aload_n 0 dX10_behind_40 rfl rfl ?_
        refine gx_getr 10 9 (v := 29) dX10_behind_41 fl_X10_80 rfl rfl rfl ?_
        refine gx_iconst (v := 0) dX10_behind_44 (by decide) ?_
        refine gx_iconst (v := 2) dX10_behind_45 (by decide) ?_
        refine gx_callV 9 (As := [.int 0, .int 2]) (st := []) dX10_behind_46 ml_X10_322 mm_X9_play rfl rfl rfl rfl rfl rfl ⟨rfl, rfl⟩ h (fun v h2 hq => ?_)
        clear h
        obtain ⟨I8, L9, c10, rfl, rfl, h⟩ := hq
        show Z_J_behind g Q 49 [(0, .ref 0), (1, .int x1), (2, .int x2)] [] I8 L9 c10
        refine gx_iload_n 2 dX10_behind_49 rfl rfl ?_
        refine gx_iconst (v := 2) dX10_behind_50 (by decide) ?_
        refine gx_idiv dX10_behind_51 (by decide) ?_
        refine gx_istore_n (lv' := [(0, .ref 0), (1, .int x1), (2, .int x2), (3, .int (x2 / 2))]) dX10_behind_52 rfl rfl rfl ?_
        refine gx_iload_n 2 dX10_behind_53 rfl rfl ?_
        refine gx_iconst (v := 2) dX10_behind_54 (by decide) ?_
        refine gx_irem dX10_behind_55 (by decide) ?_
        refine gx_if_ne 72 dX10_behind_56 (by decide) ⟨fun z => ?_, fun z => ?_⟩
        · replace h := h.1 z
          refine gx_aload_n 0 dX10_behind_59 rfl rfl ?_
          refine gx_getr 10 9 (v := 29) dX10_behind_60 fl_X10_80 rfl rfl rfl ?_
          refine gx_getr 9 0 (v := 30) dX10_behind_63 fl_X10_325 rfl rfl rfl ?_
          refine gx_iload_n 3 dX10_behind_66 rfl rfl ?_
          obtain ⟨hi, h⟩ := h
          refine gx_iald (v := (I8 30 (Int32.toNatClampNeg (x2 / 2)))) dX10_behind_67 rfl rfl hi (k := (Int32.toNatClampNeg (x2 / 2))) rfl rfl ?_
          refine gx_i2l dX10_behind_68 ?_
          refine gx_goto 81 dX10_behind_69 (by decide) ?_
          exact gx_lret dX10_behind_81 rfl rfl rfl ⟨_, _, _, _, rfl, rfl, h⟩
        · replace h := h.2 z
          refine gx_aload_n 0 dX10_behind_72 rfl rfl ?_
          refine gx_getr 10 9 (v := 29) dX10_behind_73 fl_X10_80 rfl rfl rfl ?_
          refine gx_iload_n 3 dX10_behind_76 rfl rfl ?_
          refine gx_iconst (v := 2) dX10_behind_77 (by decide) ?_
          refine gx_callV 9 (As := [.int (x2 / 2), .int 2]) (st := []) dX10_behind_78 ml_X10_328 mm_X9_shareOf rfl rfl rfl rfl rfl rfl ⟨rfl, rfl⟩ h (fun v h2 hq => ?_)
          clear h
          obtain ⟨r14, I11, L12, c13, rfl, rfl, h⟩ := hq
          show Z_J_behind g Q 81 [(0, .ref 0), (1, .int x1), (2, .int x2), (3, .int (x2 / 2))] [.long r14] I11 L12 c13
          exact gx_lret dX10_behind_81 rfl rfl rfl ⟨_, _, _, _, rfl, rfl, h⟩
    · replace h := h.2 z
      refine gx_ldc2 dX10_behind_9 kl_X10_302 ?_
      exact gx_lret dX10_behind_12 rfl rfl rfl ⟨_, _, _, _, rfl, rfl, h⟩
abbrev Z_J_waits (g : gm_G) (Q : Int64 → mI → mL → gm_cfg → Prop) (pc : Nat) (lv : List (Nat × Value)) (st : List Value) (I : mI) (L : mL) (c : gm_cfg) : Prop := gm_X g RX10 "waits" cX10_waits 5 (some .long) 7 0 0 (qL Q) 0 0 pc lv st (SH, I, L, RR c)
abbrev C_J_waits (g : gm_G) (x1 : Int32) (x2 : Int32) (I : mI) (L : mL) (c : gm_cfg) (Q : Int64 → mI → mL → gm_cfg → Prop) : Prop := gm_Met g yX10_waits cX10_waits 5 (some .long) 7 0 0 [.ref 0, .int x1, .int x2] (SH, I, L, RR c) (qL Q)
set_option maxRecDepth 100000 in
theorem e_J_waits {g : gm_G} {Q : Int64 → mI → mL → gm_cfg → Prop} {x1 x2 : Int32} {I : mI} {L : mL} {c : gm_cfg} (h : ((x2 < 0 → Q (-2) I L c) ∧ (¬ x2 < 0 → ((x2 ≤ 1 → (C_J_canCount g x1 I L c (fun b4 I1 L2 c3 => ((b4 = false → Q (-3) I1 L2 c3) ∧ (b4 = true → (C_Sr_lay g x1 (I1 20 2) I1 L2 c3 (fun I5 L6 c7 => (C_Wr_play_0_1 g I5 L6 c7 (fun I8 L9 c10 => (C_Wr_play_1_2 g I8 L9 c10 (fun I11 L12 c13 => (C_Wr_shareOf g 1 2 I11 L12 c13 (fun r17 I14 L15 c16 => ((x2 = 1 → Q r17 I14 L15 c16) ∧ (¬ x2 = 1 → (C_Wr_play_0_2 g I14 L15 c16 (fun I18 L19 c20 => (C_Wr_shareOf g 0 2 I18 L19 c20 (fun r24 I21 L22 c23 => (((r17 : Int64) ≤ r24 → Q 0 I21 L22 c23) ∧ (¬ (r17 : Int64) ≤ r24 → Q 1 I21 L22 c23))))))))))))))))))))) ∧ (¬ x2 ≤ 1 → Q (-2) I L c))))) : C_J_waits g x1 x2 I L c Q := by
  refine gm_enter (lv := [(0, .ref 0), (1, .int x1), (2, .int x2)]) (by decide) rfl rfl rfl rfl ?_
  show Z_J_waits g Q 0 [(0, .ref 0), (1, .int x1), (2, .int x2)] [] I L c
  refine gx_iload_n 2 dX10_waits_0 rfl rfl ?_
  refine gx_if_lt 9 dX10_waits_1 (by decide) ⟨fun z => ?_, fun z => ?_⟩
  · replace h := h.1 z
    refine gx_ldc2 dX10_waits_9 kl_X10_302 ?_
    exact gx_lret dX10_waits_12 rfl rfl rfl ⟨_, _, _, _, rfl, rfl, h⟩
  · replace h := h.2 z
    refine gx_iload_n 2 dX10_waits_4 rfl rfl ?_
    refine gx_iconst (v := 1) dX10_waits_5 (by decide) ?_
    refine gx_icmp_le 13 dX10_waits_6 (by decide) ⟨fun z => ?_, fun z => ?_⟩
    · replace h := h.1 z
      refine gx_aload_n 0 dX10_waits_13 rfl rfl ?_
      refine gx_iload_n 1 dX10_waits_14 rfl rfl ?_
      refine gx_callV 10 (As := [.int x1]) (st := []) dX10_waits_15 ml_X10_283 mm_X10_canCount rfl rfl rfl rfl rfl rfl ⟨rfl, rfl⟩ h (fun v h2 hq => ?_)
      clear h
      obtain ⟨b4, I1, L2, c3, rfl, rfl, h⟩ := hq
      show Z_J_waits g Q 18 [(0, .ref 0), (1, .int x1), (2, .int x2)] [.int (gm_b b4)] I1 L2 c3
      refine gx_if_ne 25 dX10_waits_18 (by decide) ⟨fun z => ?_, fun z => ?_⟩
      · replace h := h.1 (gm_b0.mp z)
        refine gx_ldc2 dX10_waits_21 kl_X10_290 ?_
        exact gx_lret dX10_waits_24 rfl rfl rfl ⟨_, _, _, _, rfl, rfl, h⟩
      · replace h := h.2 (gm_bn0 z)
        refine gx_aload_n 0 dX10_waits_25 rfl rfl ?_
        refine gx_getr 10 8 (v := 23) dX10_waits_26 fl_X10_71 rfl rfl rfl ?_
        refine gx_iload_n 1 dX10_waits_29 rfl rfl ?_
        refine gx_aload_n 0 dX10_waits_30 rfl rfl ?_
        refine gx_getr 10 5 (v := 20) dX10_waits_31 fl_X10_68 rfl rfl rfl ?_
        refine gx_geti 8 2 (v := (I1 20 2)) dX10_waits_34 fl_X10_154 rfl rfl rfl ?_
        refine gx_callV 7 (As := [.int x1, .int (I1 20 2)]) (st := []) dX10_waits_37 ml_X10_319 mm_X7_lay rfl rfl rfl rfl rfl rfl ⟨rfl, rfl⟩ h (fun v h2 hq => ?_)
        clear h
        obtain ⟨I5, L6, c7, rfl, rfl, h⟩ := hq
        show Z_J_waits g Q 40 [(0, .ref 0), (1, .int x1), (2, .int x2)] [] I5 L6 c7
        refine gx_aload_n 0 dX10_waits_40 rfl rfl ?_
        refine gx_getr 10 9 (v := 29) dX10_waits_41 fl_X10_80 rfl rfl rfl ?_
        refine gx_iconst (v := 0) dX10_waits_44 (by decide) ?_
        refine gx_iconst (v := 1) dX10_waits_45 (by decide) ?_
        refine gx_callV 9 (As := [.int 0, .int 1]) (st := []) dX10_waits_46 ml_X10_322 mm_X9_play rfl rfl rfl rfl rfl rfl ⟨rfl, rfl⟩ h (fun v h2 hq => ?_)
        clear h
        obtain ⟨I8, L9, c10, rfl, rfl, h⟩ := hq
        show Z_J_waits g Q 49 [(0, .ref 0), (1, .int x1), (2, .int x2)] [] I8 L9 c10
        refine gx_aload_n 0 dX10_waits_49 rfl rfl ?_
        refine gx_getr 10 9 (v := 29) dX10_waits_50 fl_X10_80 rfl rfl rfl ?_
        refine gx_iconst (v := 1) dX10_waits_53 (by decide) ?_
        refine gx_iconst (v := 2) dX10_waits_54 (by decide) ?_
        refine gx_callV 9 (As := [.int 1, .int 2]) (st := []) dX10_waits_55 ml_X10_322 mm_X9_play rfl rfl rfl rfl rfl rfl ⟨rfl, rfl⟩ h (fun v h2 hq => ?_)
        clear h
        obtain ⟨I11, L12, c13, rfl, rfl, h⟩ := hq
        show Z_J_waits g Q 58 [(0, .ref 0), (1, .int x1), (2, .int x2)] [] I11 L12 c13
        refine gx_aload_n 0 dX10_waits_58 rfl rfl ?_
        refine gx_getr 10 9 (v := 29) dX10_waits_59 fl_X10_80 rfl rfl rfl ?_
        refine gx_iconst (v := 1) dX10_waits_62 (by decide) ?_
        refine gx_iconst (v := 2) dX10_waits_63 (by decide) ?_
        refine gx_callV 9 (As := [.int 1, .int 2]) (st := []) dX10_waits_64 ml_X10_328 mm_X9_shareOf rfl rfl rfl rfl rfl rfl ⟨rfl, rfl⟩ h (fun v h2 hq => ?_)
        clear h
        obtain ⟨r17, I14, L15, c16, rfl, rfl, h⟩ := hq
        show Z_J_waits g Q 67 [(0, .ref 0), (1, .int x1), (2, .int x2)] [.long r17] I14 L15 c16
        refine gx_lstore_n (lv' := [(0, .ref 0), (1, .int x1), (2, .int x2), (3, .long r17)]) dX10_waits_67 rfl rfl rfl ?_
        refine gx_iload_n 2 dX10_waits_68 rfl rfl ?_
        refine gx_iconst (v := 1) dX10_waits_69 (by decide) ?_
        refine gx_icmp_ne 75 dX10_waits_70 (by decide) ⟨fun z => ?_, fun z => ?_⟩
        · replace h := h.1 z
          refine gx_lload_n 3 dX10_waits_73 rfl rfl ?_
          exact gx_lret dX10_waits_74 rfl rfl rfl ⟨_, _, _, _, rfl, rfl, h⟩
        · replace h := h.2 z
          refine gx_aload_n 0 dX10_waits_75 rfl rfl ?_
          refine gx_getr 10 9 (v := 29) dX10_waits_76 fl_X10_80 rfl rfl rfl ?_
          refine gx_iconst (v := 0) dX10_waits_79 (by decide) ?_
          refine gx_iconst (v := 2) dX10_waits_80 (by decide) ?_
          refine gx_callV 9 (As := [.int 0, .int 2]) (st := []) dX10_waits_81 ml_X10_322 mm_X9_play rfl rfl rfl rfl rfl rfl ⟨rfl, rfl⟩ h (fun v h2 hq => ?_)
          clear h
          obtain ⟨I18, L19, c20, rfl, rfl, h⟩ := hq
          show Z_J_waits g Q 84 [(0, .ref 0), (1, .int x1), (2, .int x2), (3, .long r17)] [] I18 L19 c20
          refine gx_lload_n 3 dX10_waits_84 rfl rfl ?_
          refine gx_aload_n 0 dX10_waits_85 rfl rfl ?_
          refine gx_getr 10 9 (v := 29) dX10_waits_86 fl_X10_80 rfl rfl rfl ?_
          refine gx_iconst (v := 0) dX10_waits_89 (by decide) ?_
          refine gx_iconst (v := 2) dX10_waits_90 (by decide) ?_
          refine gx_callV 9 (As := [.int 0, .int 2]) (st := [.long r17]) dX10_waits_91 ml_X10_328 mm_X9_shareOf rfl rfl rfl rfl rfl rfl ⟨rfl, rfl⟩ h (fun v h2 hq => ?_)
          clear h
          obtain ⟨r24, I21, L22, c23, rfl, rfl, h⟩ := hq
          show Z_J_waits g Q 94 [(0, .ref 0), (1, .int x1), (2, .int x2), (3, .long r17)] [.long r24, .long r17] I21 L22 c23
          refine gx_lcmp_le 102 dX10_waits_94 dX10_waits_95 (by decide) ⟨fun z => ?_, fun z => ?_⟩
          · replace h := h.1 z
            refine gx_lconst (v := 0) dX10_waits_102 (by decide) ?_
            exact gx_lret dX10_waits_103 rfl rfl rfl ⟨_, _, _, _, rfl, rfl, h⟩
          · replace h := h.2 z
            refine gx_lconst (v := 1) dX10_waits_98 (by decide) ?_
            refine gx_goto 103 dX10_waits_99 (by decide) ?_
            exact gx_lret dX10_waits_103 rfl rfl rfl ⟨_, _, _, _, rfl, rfl, h⟩
    · replace h := h.2 z
      refine gx_ldc2 dX10_waits_9 kl_X10_302 ?_
      exact gx_lret dX10_waits_12 rfl rfl rfl ⟨_, _, _, _, rfl, rfl, h⟩
abbrev Z_J_waysOf (g : gm_G) (Q : Int64 → mI → mL → gm_cfg → Prop) (pc : Nat) (lv : List (Nat × Value)) (st : List Value) (I : mI) (L : mL) (c : gm_cfg) : Prop := gm_X g RX10 "waysOf" cX10_waysOf 4 (some .long) 6 0 0 (qL Q) 0 0 pc lv st (SH, I, L, RR c)
abbrev C_J_waysOf (g : gm_G) (x1 : Int32) (x2 : Int32) (I : mI) (L : mL) (c : gm_cfg) (Q : Int64 → mI → mL → gm_cfg → Prop) : Prop := gm_Met g yX10_waysOf cX10_waysOf 4 (some .long) 6 0 0 [.ref 0, .int x1, .int x2] (SH, I, L, RR c) (qL Q)
set_option maxRecDepth 100000 in
theorem e_J_waysOf {g : gm_G} {Q : Int64 → mI → mL → gm_cfg → Prop} {x1 x2 : Int32} {I : mI} {L : mL} {c : gm_cfg} (h : (C_Sh20_has g x1 I L c (fun b4 I1 L2 c3 => ((b4 = false → Q (-2) I1 L2 c3) ∧ (b4 = true → (C_J_canCount g x2 I1 L2 c3 (fun b8 I5 L6 c7 => ((b8 = false → Q (-3) I5 L6 c7) ∧ (b8 = true → (C_Sr_weigh g x2 I5 L6 c7 (fun I9 L10 c11 => (C_Sr_reachOf g x1 I9 L10 c11 (fun o15 I12 L13 c14 => o15 = 24 ∧ (C_Sr_sum g (I12 24 0) (I12 24 1) I12 L13 c14 (fun r19 I16 L17 c18 => Q r19 I16 L17 c18))))))))))))))) : C_J_waysOf g x1 x2 I L c Q := by
  refine gm_enter (lv := [(0, .ref 0), (1, .int x1), (2, .int x2)]) (by decide) rfl rfl rfl rfl ?_
  show Z_J_waysOf g Q 0 [(0, .ref 0), (1, .int x1), (2, .int x2)] [] I L c
  refine gx_aload_n 0 dX10_waysOf_0 rfl rfl ?_
  refine gx_getr 10 5 (v := 20) dX10_waysOf_1 fl_X10_68 rfl rfl rfl ?_
  refine gx_iload_n 1 dX10_waysOf_4 rfl rfl ?_
  refine gx_callV 8 (As := [.int x1]) (st := []) dX10_waysOf_5 ml_X10_161 mm_X8_has rfl rfl rfl rfl rfl rfl ⟨rfl, rfl⟩ h (fun v h2 hq => ?_)
  clear h
  obtain ⟨b4, I1, L2, c3, rfl, rfl, h⟩ := hq
  show Z_J_waysOf g Q 8 [(0, .ref 0), (1, .int x1), (2, .int x2)] [.int (gm_b b4)] I1 L2 c3
  refine gx_if_ne 15 dX10_waysOf_8 (by decide) ⟨fun z => ?_, fun z => ?_⟩
  · replace h := h.1 (gm_b0.mp z)
    refine gx_ldc2 dX10_waysOf_11 kl_X10_302 ?_
    exact gx_lret dX10_waysOf_14 rfl rfl rfl ⟨_, _, _, _, rfl, rfl, h⟩
  · replace h := h.2 (gm_bn0 z)
    refine gx_aload_n 0 dX10_waysOf_15 rfl rfl ?_
    refine gx_iload_n 2 dX10_waysOf_16 rfl rfl ?_
    refine gx_callV 10 (As := [.int x2]) (st := []) dX10_waysOf_17 ml_X10_283 mm_X10_canCount rfl rfl rfl rfl rfl rfl ⟨rfl, rfl⟩ h (fun v h2 hq => ?_)
    clear h
    obtain ⟨b8, I5, L6, c7, rfl, rfl, h⟩ := hq
    show Z_J_waysOf g Q 20 [(0, .ref 0), (1, .int x1), (2, .int x2)] [.int (gm_b b8)] I5 L6 c7
    refine gx_if_ne 27 dX10_waysOf_20 (by decide) ⟨fun z => ?_, fun z => ?_⟩
    · replace h := h.1 (gm_b0.mp z)
      refine gx_ldc2 dX10_waysOf_23 kl_X10_290 ?_
      exact gx_lret dX10_waysOf_26 rfl rfl rfl ⟨_, _, _, _, rfl, rfl, h⟩
    · replace h := h.2 (gm_bn0 z)
      refine gx_aload_n 0 dX10_waysOf_27 rfl rfl ?_
      refine gx_getr 10 8 (v := 23) dX10_waysOf_28 fl_X10_71 rfl rfl rfl ?_
      refine gx_iload_n 2 dX10_waysOf_31 rfl rfl ?_
      refine gx_callV 7 (As := [.int x2]) (st := []) dX10_waysOf_32 ml_X10_249 mm_X7_weigh rfl rfl rfl rfl rfl rfl ⟨rfl, rfl⟩ h (fun v h2 hq => ?_)
      clear h
      obtain ⟨I9, L10, c11, rfl, rfl, h⟩ := hq
      show Z_J_waysOf g Q 35 [(0, .ref 0), (1, .int x1), (2, .int x2)] [] I9 L10 c11
      refine gx_aload_n 0 dX10_waysOf_35 rfl rfl ?_
      refine gx_getr 10 8 (v := 23) dX10_waysOf_36 fl_X10_71 rfl rfl rfl ?_
      refine gx_iload_n 1 dX10_waysOf_39 rfl rfl ?_
      refine gx_callV 7 (As := [.int x1]) (st := []) dX10_waysOf_40 ml_X10_239 mm_X7_reachOf rfl rfl rfl rfl rfl rfl ⟨rfl, rfl⟩ h (fun v h2 hq => ?_)
      clear h
      obtain ⟨o15, I12, L13, c14, rfl, rfl, h⟩ := hq
      obtain ⟨rfl, h⟩ := h
      show Z_J_waysOf g Q 43 [(0, .ref 0), (1, .int x1), (2, .int x2)] [.ref 24] I12 L13 c14
      refine gx_astore_n (lv' := [(0, .ref 0), (1, .int x1), (2, .int x2), (3, .ref 24)]) dX10_waysOf_43 rfl rfl rfl ?_
      refine gx_aload_n 0 dX10_waysOf_44 rfl rfl ?_
      refine gx_getr 10 8 (v := 23) dX10_waysOf_45 fl_X10_71 rfl rfl rfl ?_
      refine gx_aload_n 3 dX10_waysOf_48 rfl rfl ?_
      refine gx_geti 4 0 (v := (I12 24 0)) dX10_waysOf_49 fl_X10_252 rfl rfl rfl ?_
      refine gx_aload_n 3 dX10_waysOf_52 rfl rfl ?_
      refine gx_geti 4 1 (v := (I12 24 1)) dX10_waysOf_53 fl_X10_255 rfl rfl rfl ?_
      refine gx_callV 7 (As := [.int (I12 24 0), .int (I12 24 1)]) (st := []) dX10_waysOf_56 ml_X10_258 mm_X7_sum rfl rfl rfl rfl rfl rfl ⟨rfl, rfl⟩ h (fun v h2 hq => ?_)
      clear h
      obtain ⟨r19, I16, L17, c18, rfl, rfl, h⟩ := hq
      show Z_J_waysOf g Q 59 [(0, .ref 0), (1, .int x1), (2, .int x2), (3, .ref 24)] [.long r19] I16 L17 c18
      exact gx_lret dX10_waysOf_59 rfl rfl rfl ⟨_, _, _, _, rfl, rfl, h⟩
abbrev Z_J_shutIn (g : gm_G) (Q : Int64 → mI → mL → gm_cfg → Prop) (pc : Nat) (lv : List (Nat × Value)) (st : List Value) (I : mI) (L : mL) (c : gm_cfg) : Prop := gm_X g RX10 "shutIn" cX10_shutIn 5 (some .long) 5 0 0 (qL Q) 0 0 pc lv st (SH, I, L, RR c)
abbrev C_J_shutIn (g : gm_G) (x1 : Int32) (x2 : Int32) (I : mI) (L : mL) (c : gm_cfg) (Q : Int64 → mI → mL → gm_cfg → Prop) : Prop := gm_Met g yX10_shutIn cX10_shutIn 5 (some .long) 5 0 0 [.ref 0, .int x1, .int x2] (SH, I, L, RR c) (qL Q)
set_option maxRecDepth 100000 in
theorem e_J_shutIn {g : gm_G} {Q : Int64 → mI → mL → gm_cfg → Prop} {x1 x2 : Int32} {I : mI} {L : mL} {c : gm_cfg} (h : (C_Sh20_has g x1 I L c (fun b4 I1 L2 c3 => ((b4 = false → Q (-2) I1 L2 c3) ∧ (b4 = true → (C_J_canCount g x2 I1 L2 c3 (fun b8 I5 L6 c7 => ((b8 = false → Q (-3) I5 L6 c7) ∧ (b8 = true → (vp_in x1 40 ∧ (C_Fe16_spans g (I5 21 (Int32.toNatClampNeg x1)) I5 L6 c7 (fun b12 I9 L10 c11 => ((b12 = false → Q 0 I9 L10 c11) ∧ (b12 = true → (C_Sh20_nearestTo g (I5 21 (Int32.toNatClampNeg x1)) I9 L10 c11 (fun r16 I13 L14 c15 => ((r16 = x1 → (C_Sr_waysFor g (I5 21 (Int32.toNatClampNeg x1)) x2 (-1) I13 L14 c15 (fun r20 I17 L18 c19 => Q r20 I17 L18 c19))) ∧ (¬ r16 = x1 → Q 0 I13 L14 c15)))))))))))))))))) : C_J_shutIn g x1 x2 I L c Q := by
  refine gm_enter (lv := [(0, .ref 0), (1, .int x1), (2, .int x2)]) (by decide) rfl rfl rfl rfl ?_
  show Z_J_shutIn g Q 0 [(0, .ref 0), (1, .int x1), (2, .int x2)] [] I L c
  refine gx_aload_n 0 dX10_shutIn_0 rfl rfl ?_
  refine gx_getr 10 5 (v := 20) dX10_shutIn_1 fl_X10_68 rfl rfl rfl ?_
  refine gx_iload_n 1 dX10_shutIn_4 rfl rfl ?_
  refine gx_callV 8 (As := [.int x1]) (st := []) dX10_shutIn_5 ml_X10_161 mm_X8_has rfl rfl rfl rfl rfl rfl ⟨rfl, rfl⟩ h (fun v h2 hq => ?_)
  clear h
  obtain ⟨b4, I1, L2, c3, rfl, rfl, h⟩ := hq
  show Z_J_shutIn g Q 8 [(0, .ref 0), (1, .int x1), (2, .int x2)] [.int (gm_b b4)] I1 L2 c3
  refine gx_if_ne 15 dX10_shutIn_8 (by decide) ⟨fun z => ?_, fun z => ?_⟩
  · replace h := h.1 (gm_b0.mp z)
    refine gx_ldc2 dX10_shutIn_11 kl_X10_302 ?_
    exact gx_lret dX10_shutIn_14 rfl rfl rfl ⟨_, _, _, _, rfl, rfl, h⟩
  · replace h := h.2 (gm_bn0 z)
    refine gx_aload_n 0 dX10_shutIn_15 rfl rfl ?_
    refine gx_iload_n 2 dX10_shutIn_16 rfl rfl ?_
    refine gx_callV 10 (As := [.int x2]) (st := []) dX10_shutIn_17 ml_X10_283 mm_X10_canCount rfl rfl rfl rfl rfl rfl ⟨rfl, rfl⟩ h (fun v h2 hq => ?_)
    clear h
    obtain ⟨b8, I5, L6, c7, rfl, rfl, h⟩ := hq
    show Z_J_shutIn g Q 20 [(0, .ref 0), (1, .int x1), (2, .int x2)] [.int (gm_b b8)] I5 L6 c7
    refine gx_if_ne 27 dX10_shutIn_20 (by decide) ⟨fun z => ?_, fun z => ?_⟩
    · replace h := h.1 (gm_b0.mp z)
      refine gx_ldc2 dX10_shutIn_23 kl_X10_290 ?_
      exact gx_lret dX10_shutIn_26 rfl rfl rfl ⟨_, _, _, _, rfl, rfl, h⟩
    · replace h := h.2 (gm_bn0 z)
      refine gx_aload_n 0 dX10_shutIn_27 rfl rfl ?_
      refine gx_getr 10 5 (v := 20) dX10_shutIn_28 fl_X10_68 rfl rfl rfl ?_
      refine gx_getr 8 0 (v := 21) dX10_shutIn_31 fl_X10_162 rfl rfl rfl ?_
      refine gx_iload_n 1 dX10_shutIn_34 rfl rfl ?_
      obtain ⟨hi, h⟩ := h
      refine gx_iald (v := (I5 21 (Int32.toNatClampNeg x1))) dX10_shutIn_35 rfl rfl hi (k := (Int32.toNatClampNeg x1)) rfl rfl ?_
      refine gx_istore_n (lv' := [(0, .ref 0), (1, .int x1), (2, .int x2), (3, .int (I5 21 (Int32.toNatClampNeg x1)))]) dX10_shutIn_36 rfl rfl rfl ?_
      refine gx_aload_n 0 dX10_shutIn_37 rfl rfl ?_
      refine gx_getr 10 2 (v := 16) dX10_shutIn_38 fl_X10_65 rfl rfl rfl ?_
      refine gx_iload_n 3 dX10_shutIn_41 rfl rfl ?_
      refine gx_callV 1 (As := [.int (I5 21 (Int32.toNatClampNeg x1))]) (st := []) dX10_shutIn_42 ml_X10_142 mm_X1_spans rfl rfl rfl rfl rfl rfl ⟨rfl, rfl⟩ h (fun v h2 hq => ?_)
      clear h
      obtain ⟨b12, I9, L10, c11, rfl, rfl, h⟩ := hq
      show Z_J_shutIn g Q 45 [(0, .ref 0), (1, .int x1), (2, .int x2), (3, .int (I5 21 (Int32.toNatClampNeg x1)))] [.int (gm_b b12)] I9 L10 c11
      refine gx_if_eq 64 dX10_shutIn_45 (by decide) ⟨fun z => ?_, fun z => ?_⟩
      · replace h := h.1 (gm_b0.mp z)
        refine gx_iconst (v := 0) dX10_shutIn_64 (by decide) ?_
        refine gx_istore (lv' := [(0, .ref 0), (1, .int x1), (2, .int x2), (3, .int (I5 21 (Int32.toNatClampNeg x1))), (4, .int 0)]) dX10_shutIn_65 rfl rfl ?_
        refine gx_iload 4 dX10_shutIn_67 rfl ?_
        refine gx_if_eq 85 dX10_shutIn_69 (by decide) (br_t (by decide) ?_)
        refine gx_lconst (v := 0) dX10_shutIn_85 (by decide) ?_
        exact gx_lret dX10_shutIn_86 rfl rfl rfl ⟨_, _, _, _, rfl, rfl, h⟩
      · replace h := h.2 (gm_bn0 z)
        refine gx_aload_n 0 dX10_shutIn_48 rfl rfl ?_
        refine gx_getr 10 5 (v := 20) dX10_shutIn_49 fl_X10_68 rfl rfl rfl ?_
        refine gx_iload_n 3 dX10_shutIn_52 rfl rfl ?_
        refine gx_callV 8 (As := [.int (I5 21 (Int32.toNatClampNeg x1))]) (st := []) dX10_shutIn_53 ml_X10_236 mm_X8_nearestTo rfl rfl rfl rfl rfl rfl ⟨rfl, rfl⟩ h (fun v h2 hq => ?_)
        clear h
        obtain ⟨r16, I13, L14, c15, rfl, rfl, h⟩ := hq
        show Z_J_shutIn g Q 56 [(0, .ref 0), (1, .int x1), (2, .int x2), (3, .int (I5 21 (Int32.toNatClampNeg x1)))] [.int r16] I13 L14 c15
        refine gx_iload_n 1 dX10_shutIn_56 rfl rfl ?_
        refine gx_icmp_ne 64 dX10_shutIn_57 (by decide) ⟨fun z => ?_, fun z => ?_⟩
        · replace h := h.1 z
          refine gx_iconst (v := 1) dX10_shutIn_60 (by decide) ?_
          refine gx_goto 65 dX10_shutIn_61 (by decide) ?_
          refine gx_istore (lv' := [(0, .ref 0), (1, .int x1), (2, .int x2), (3, .int (I5 21 (Int32.toNatClampNeg x1))), (4, .int 1)]) dX10_shutIn_65 rfl rfl ?_
          refine gx_iload 4 dX10_shutIn_67 rfl ?_
          refine gx_if_eq 85 dX10_shutIn_69 (by decide) (br_f (by decide) ?_)
          refine gx_aload_n 0 dX10_shutIn_72 rfl rfl ?_
          refine gx_getr 10 8 (v := 23) dX10_shutIn_73 fl_X10_71 rfl rfl rfl ?_
          refine gx_iload_n 3 dX10_shutIn_76 rfl rfl ?_
          refine gx_iload_n 2 dX10_shutIn_77 rfl rfl ?_
          refine gx_iconst (v := (-1)) dX10_shutIn_78 (by decide) ?_
          refine gx_callV 7 (As := [.int (I5 21 (Int32.toNatClampNeg x1)), .int x2, .int (-1)]) (st := []) dX10_shutIn_79 ml_X10_286 mm_X7_waysFor rfl rfl rfl rfl rfl rfl ⟨rfl, rfl⟩ h (fun v h2 hq => ?_)
          clear h
          obtain ⟨r20, I17, L18, c19, rfl, rfl, h⟩ := hq
          show Z_J_shutIn g Q 82 [(0, .ref 0), (1, .int x1), (2, .int x2), (3, .int (I5 21 (Int32.toNatClampNeg x1))), (4, .int 1)] [.long r20] I17 L18 c19
          refine gx_goto 86 dX10_shutIn_82 (by decide) ?_
          exact gx_lret dX10_shutIn_86 rfl rfl rfl ⟨_, _, _, _, rfl, rfl, h⟩
        · replace h := h.2 z
          refine gx_iconst (v := 0) dX10_shutIn_64 (by decide) ?_
          refine gx_istore (lv' := [(0, .ref 0), (1, .int x1), (2, .int x2), (3, .int (I5 21 (Int32.toNatClampNeg x1))), (4, .int 0)]) dX10_shutIn_65 rfl rfl ?_
          refine gx_iload 4 dX10_shutIn_67 rfl ?_
          refine gx_if_eq 85 dX10_shutIn_69 (by decide) (br_t (by decide) ?_)
          refine gx_lconst (v := 0) dX10_shutIn_85 (by decide) ?_
          exact gx_lret dX10_shutIn_86 rfl rfl rfl ⟨_, _, _, _, rfl, rfl, h⟩
abbrev Z_J_gainOf (g : gm_G) (Q : Int64 → mI → mL → gm_cfg → Prop) (pc : Nat) (lv : List (Nat × Value)) (st : List Value) (I : mI) (L : mL) (c : gm_cfg) : Prop := gm_X g RX10 "gainOf" cX10_gainOf 4 (some .long) 6 0 0 (qL Q) 0 0 pc lv st (SH, I, L, RR c)
abbrev C_J_gainOf (g : gm_G) (x1 : Int32) (I : mI) (L : mL) (c : gm_cfg) (Q : Int64 → mI → mL → gm_cfg → Prop) : Prop := gm_Met g yX10_gainOf cX10_gainOf 4 (some .long) 6 0 0 [.ref 0, .int x1] (SH, I, L, RR c) (qL Q)
set_option maxRecDepth 100000 in
theorem e_J_gainOf {g : gm_G} {Q : Int64 → mI → mL → gm_cfg → Prop} {x1 : Int32} {I : mI} {L : mL} {c : gm_cfg} (h : ((x1 = 1 → (C_Wr_play_0_1 g I L c (fun I1 L2 c3 => (C_Wr_shareOf g 0 1 I1 L2 c3 (fun r7 I4 L5 c6 => (C_Sr_total g I4 L5 c6 (fun r11 I8 L9 c10 => Q (((Int32.toInt64 (I4 16 11)) * r7) - (((Int32.toInt64 (I4 16 10)) * (Int32.toInt64 x1)) * r11)) I8 L9 c10))))))) ∧ (¬ x1 = 1 → ((x1 = 2 → (C_Sr_chooseTwo g I L c (fun I12 L13 c14 => (C_Sr_total g I12 L13 c14 (fun r18 I15 L16 c17 => Q (((Int32.toInt64 (I12 16 11)) * (L13 23 10)) - (((Int32.toInt64 (I12 16 10)) * (Int32.toInt64 x1)) * r18)) I15 L16 c17))))) ∧ (¬ x1 = 2 → (C_Sr_total g I L c (fun r22 I19 L20 c21 => Q (((Int32.toInt64 (I 16 11)) * 0) - (((Int32.toInt64 (I 16 10)) * (Int32.toInt64 x1)) * r22)) I19 L20 c21))))))) : C_J_gainOf g x1 I L c Q := by
  refine gm_enter (lv := [(0, .ref 0), (1, .int x1)]) (by decide) rfl rfl rfl rfl ?_
  show Z_J_gainOf g Q 0 [(0, .ref 0), (1, .int x1)] [] I L c
  refine gx_lconst (v := 0) dX10_gainOf_0 (by decide) ?_
  refine gx_lstore_n (lv' := [(0, .ref 0), (1, .int x1), (2, .long 0)]) dX10_gainOf_1 rfl rfl rfl ?_
  refine gx_iload_n 1 dX10_gainOf_2 rfl rfl ?_
  refine gx_iconst (v := 1) dX10_gainOf_3 (by decide) ?_
  refine gx_icmp_ne 29 dX10_gainOf_4 (by decide) ⟨fun z => ?_, fun z => ?_⟩
  · replace h := h.1 z
    refine gx_aload_n 0 dX10_gainOf_7 rfl rfl ?_
    refine gx_getr 10 9 (v := 29) dX10_gainOf_8 fl_X10_80 rfl rfl rfl ?_
    refine gx_iconst (v := 0) dX10_gainOf_11 (by decide) ?_
    refine gx_iconst (v := 1) dX10_gainOf_12 (by decide) ?_
    refine gx_callV 9 (As := [.int 0, .int 1]) (st := []) dX10_gainOf_13 ml_X10_322 mm_X9_play rfl rfl rfl rfl rfl rfl ⟨rfl, rfl⟩ h (fun v h2 hq => ?_)
    clear h
    obtain ⟨I1, L2, c3, rfl, rfl, h⟩ := hq
    show Z_J_gainOf g Q 16 [(0, .ref 0), (1, .int x1), (2, .long 0)] [] I1 L2 c3
    refine gx_aload_n 0 dX10_gainOf_16 rfl rfl ?_
    refine gx_getr 10 9 (v := 29) dX10_gainOf_17 fl_X10_80 rfl rfl rfl ?_
    refine gx_iconst (v := 0) dX10_gainOf_20 (by decide) ?_
    refine gx_iconst (v := 1) dX10_gainOf_21 (by decide) ?_
    refine gx_callV 9 (As := [.int 0, .int 1]) (st := []) dX10_gainOf_22 ml_X10_328 mm_X9_shareOf rfl rfl rfl rfl rfl rfl ⟨rfl, rfl⟩ h (fun v h2 hq => ?_)
    clear h
    obtain ⟨r7, I4, L5, c6, rfl, rfl, h⟩ := hq
    show Z_J_gainOf g Q 25 [(0, .ref 0), (1, .int x1), (2, .long 0)] [.long r7] I4 L5 c6
    refine gx_lstore_n (lv' := [(0, .ref 0), (1, .int x1), (2, .long r7)]) dX10_gainOf_25 rfl rfl rfl ?_
    refine gx_goto 49 dX10_gainOf_26 (by decide) ?_
    refine gx_aload_n 0 dX10_gainOf_49 rfl rfl ?_
    refine gx_getr 10 2 (v := 16) dX10_gainOf_50 fl_X10_65 rfl rfl rfl ?_
    refine gx_geti 1 11 (v := (I4 16 11)) dX10_gainOf_53 fl_X10_350 rfl rfl rfl ?_
    refine gx_i2l dX10_gainOf_56 ?_
    refine gx_lload_n 2 dX10_gainOf_57 rfl rfl ?_
    refine gx_lmul dX10_gainOf_58 ?_
    refine gx_aload_n 0 dX10_gainOf_59 rfl rfl ?_
    refine gx_getr 10 2 (v := 16) dX10_gainOf_60 fl_X10_65 rfl rfl rfl ?_
    refine gx_geti 1 10 (v := (I4 16 10)) dX10_gainOf_63 fl_X10_353 rfl rfl rfl ?_
    refine gx_i2l dX10_gainOf_66 ?_
    refine gx_iload_n 1 dX10_gainOf_67 rfl rfl ?_
    refine gx_i2l dX10_gainOf_68 ?_
    refine gx_lmul dX10_gainOf_69 ?_
    refine gx_aload_n 0 dX10_gainOf_70 rfl rfl ?_
    refine gx_getr 10 8 (v := 23) dX10_gainOf_71 fl_X10_71 rfl rfl rfl ?_
    refine gx_callV 7 (As := []) (st := [.long ((Int32.toInt64 (I4 16 10)) * (Int32.toInt64 x1)), .long ((Int32.toInt64 (I4 16 11)) * r7)]) dX10_gainOf_74 ml_X10_292 mm_X7_total rfl rfl rfl rfl rfl rfl ⟨rfl, rfl⟩ h (fun v h2 hq => ?_)
    clear h
    obtain ⟨r11, I8, L9, c10, rfl, rfl, h⟩ := hq
    show Z_J_gainOf g Q 77 [(0, .ref 0), (1, .int x1), (2, .long r7)] [.long r11, .long ((Int32.toInt64 (I4 16 10)) * (Int32.toInt64 x1)), .long ((Int32.toInt64 (I4 16 11)) * r7)] I8 L9 c10
    refine gx_lmul dX10_gainOf_77 ?_
    refine gx_lsub dX10_gainOf_78 ?_
    exact gx_lret dX10_gainOf_79 rfl rfl rfl ⟨_, _, _, _, rfl, rfl, h⟩
  · replace h := h.2 z
    refine gx_iload_n 1 dX10_gainOf_29 rfl rfl ?_
    refine gx_iconst (v := 2) dX10_gainOf_30 (by decide) ?_
    refine gx_icmp_ne 49 dX10_gainOf_31 (by decide) ⟨fun z => ?_, fun z => ?_⟩
    · replace h := h.1 z
      refine gx_aload_n 0 dX10_gainOf_34 rfl rfl ?_
      refine gx_getr 10 8 (v := 23) dX10_gainOf_35 fl_X10_71 rfl rfl rfl ?_
      refine gx_callV 7 (As := []) (st := []) dX10_gainOf_38 ml_X10_333 mm_X7_chooseTwo rfl rfl rfl rfl rfl rfl ⟨rfl, rfl⟩ h (fun v h2 hq => ?_)
      clear h
      obtain ⟨I12, L13, c14, rfl, rfl, h⟩ := hq
      show Z_J_gainOf g Q 41 [(0, .ref 0), (1, .int x1), (2, .long 0)] [] I12 L13 c14
      refine gx_aload_n 0 dX10_gainOf_41 rfl rfl ?_
      refine gx_getr 10 8 (v := 23) dX10_gainOf_42 fl_X10_71 rfl rfl rfl ?_
      refine gx_getl 7 10 (v := (L13 23 10)) dX10_gainOf_45 fl_X10_336 rfl rfl rfl ?_
      refine gx_lstore_n (lv' := [(0, .ref 0), (1, .int x1), (2, .long (L13 23 10))]) dX10_gainOf_48 rfl rfl rfl ?_
      refine gx_aload_n 0 dX10_gainOf_49 rfl rfl ?_
      refine gx_getr 10 2 (v := 16) dX10_gainOf_50 fl_X10_65 rfl rfl rfl ?_
      refine gx_geti 1 11 (v := (I12 16 11)) dX10_gainOf_53 fl_X10_350 rfl rfl rfl ?_
      refine gx_i2l dX10_gainOf_56 ?_
      refine gx_lload_n 2 dX10_gainOf_57 rfl rfl ?_
      refine gx_lmul dX10_gainOf_58 ?_
      refine gx_aload_n 0 dX10_gainOf_59 rfl rfl ?_
      refine gx_getr 10 2 (v := 16) dX10_gainOf_60 fl_X10_65 rfl rfl rfl ?_
      refine gx_geti 1 10 (v := (I12 16 10)) dX10_gainOf_63 fl_X10_353 rfl rfl rfl ?_
      refine gx_i2l dX10_gainOf_66 ?_
      refine gx_iload_n 1 dX10_gainOf_67 rfl rfl ?_
      refine gx_i2l dX10_gainOf_68 ?_
      refine gx_lmul dX10_gainOf_69 ?_
      refine gx_aload_n 0 dX10_gainOf_70 rfl rfl ?_
      refine gx_getr 10 8 (v := 23) dX10_gainOf_71 fl_X10_71 rfl rfl rfl ?_
      refine gx_callV 7 (As := []) (st := [.long ((Int32.toInt64 (I12 16 10)) * (Int32.toInt64 x1)), .long ((Int32.toInt64 (I12 16 11)) * (L13 23 10))]) dX10_gainOf_74 ml_X10_292 mm_X7_total rfl rfl rfl rfl rfl rfl ⟨rfl, rfl⟩ h (fun v h2 hq => ?_)
      clear h
      obtain ⟨r18, I15, L16, c17, rfl, rfl, h⟩ := hq
      show Z_J_gainOf g Q 77 [(0, .ref 0), (1, .int x1), (2, .long (L13 23 10))] [.long r18, .long ((Int32.toInt64 (I12 16 10)) * (Int32.toInt64 x1)), .long ((Int32.toInt64 (I12 16 11)) * (L13 23 10))] I15 L16 c17
      refine gx_lmul dX10_gainOf_77 ?_
      refine gx_lsub dX10_gainOf_78 ?_
      exact gx_lret dX10_gainOf_79 rfl rfl rfl ⟨_, _, _, _, rfl, rfl, h⟩
    · replace h := h.2 z
      refine gx_aload_n 0 dX10_gainOf_49 rfl rfl ?_
      refine gx_getr 10 2 (v := 16) dX10_gainOf_50 fl_X10_65 rfl rfl rfl ?_
      refine gx_geti 1 11 (v := (I 16 11)) dX10_gainOf_53 fl_X10_350 rfl rfl rfl ?_
      refine gx_i2l dX10_gainOf_56 ?_
      refine gx_lload_n 2 dX10_gainOf_57 rfl rfl ?_
      refine gx_lmul dX10_gainOf_58 ?_
      refine gx_aload_n 0 dX10_gainOf_59 rfl rfl ?_
      refine gx_getr 10 2 (v := 16) dX10_gainOf_60 fl_X10_65 rfl rfl rfl ?_
      refine gx_geti 1 10 (v := (I 16 10)) dX10_gainOf_63 fl_X10_353 rfl rfl rfl ?_
      refine gx_i2l dX10_gainOf_66 ?_
      refine gx_iload_n 1 dX10_gainOf_67 rfl rfl ?_
      refine gx_i2l dX10_gainOf_68 ?_
      refine gx_lmul dX10_gainOf_69 ?_
      refine gx_aload_n 0 dX10_gainOf_70 rfl rfl ?_
      refine gx_getr 10 8 (v := 23) dX10_gainOf_71 fl_X10_71 rfl rfl rfl ?_
      refine gx_callV 7 (As := []) (st := [.long ((Int32.toInt64 (I 16 10)) * (Int32.toInt64 x1)), .long ((Int32.toInt64 (I 16 11)) * 0)]) dX10_gainOf_74 ml_X10_292 mm_X7_total rfl rfl rfl rfl rfl rfl ⟨rfl, rfl⟩ h (fun v h2 hq => ?_)
      clear h
      obtain ⟨r22, I19, L20, c21, rfl, rfl, h⟩ := hq
      show Z_J_gainOf g Q 77 [(0, .ref 0), (1, .int x1), (2, .long 0)] [.long r22, .long ((Int32.toInt64 (I 16 10)) * (Int32.toInt64 x1)), .long ((Int32.toInt64 (I 16 11)) * 0)] I19 L20 c21
      refine gx_lmul dX10_gainOf_77 ?_
      refine gx_lsub dX10_gainOf_78 ?_
      exact gx_lret dX10_gainOf_79 rfl rfl rfl ⟨_, _, _, _, rfl, rfl, h⟩
abbrev Z_J_gain (g : gm_G) (Q : Int64 → mI → mL → gm_cfg → Prop) (pc : Nat) (lv : List (Nat × Value)) (st : List Value) (I : mI) (L : mL) (c : gm_cfg) : Prop := gm_X g RX10 "gain" cX10_gain 3 (some .long) 7 0 0 (qL Q) 0 0 pc lv st (SH, I, L, RR c)
abbrev C_J_gain (g : gm_G) (x1 : Int32) (x2 : Int32) (I : mI) (L : mL) (c : gm_cfg) (Q : Int64 → mI → mL → gm_cfg → Prop) : Prop := gm_Met g yX10_gain cX10_gain 3 (some .long) 7 0 0 [.ref 0, .int x1, .int x2] (SH, I, L, RR c) (qL Q)
set_option maxRecDepth 100000 in
theorem e_J_gain {g : gm_G} {Q : Int64 → mI → mL → gm_cfg → Prop} {x1 x2 : Int32} {I : mI} {L : mL} {c : gm_cfg} (h : ((x1 < 0 → Q (-3) I L c) ∧ (¬ x1 < 0 → ((2 < x1 → Q (-3) I L c) ∧ (¬ 2 < x1 → (C_J_canCount g x2 I L c (fun b4 I1 L2 c3 => ((b4 = false → Q (-3) I1 L2 c3) ∧ (b4 = true → ((x1 = 2 → (((I1 16 0) = (I1 16 1) → Q (-5) I1 L2 c3) ∧ (¬ (I1 16 0) = (I1 16 1) → (C_Sr_lay g x2 (I1 20 2) I1 L2 c3 (fun I5 L6 c7 => (C_J_gainOf g x1 I5 L6 c7 (fun r11 I8 L9 c10 => Q r11 I8 L9 c10))))))) ∧ (¬ x1 = 2 → (C_Sr_lay g x2 (I1 20 2) I1 L2 c3 (fun I12 L13 c14 => (C_J_gainOf g x1 I12 L13 c14 (fun r18 I15 L16 c17 => Q r18 I15 L16 c17))))))))))))))) : C_J_gain g x1 x2 I L c Q := by
  refine gm_enter (lv := [(0, .ref 0), (1, .int x1), (2, .int x2)]) (by decide) rfl rfl rfl rfl ?_
  show Z_J_gain g Q 0 [(0, .ref 0), (1, .int x1), (2, .int x2)] [] I L c
  refine gx_iload_n 1 dX10_gain_0 rfl rfl ?_
  refine gx_if_lt 17 dX10_gain_1 (by decide) ⟨fun z => ?_, fun z => ?_⟩
  · replace h := h.1 z
    refine gx_ldc2 dX10_gain_17 kl_X10_290 ?_
    exact gx_lret dX10_gain_20 rfl rfl rfl ⟨_, _, _, _, rfl, rfl, h⟩
  · replace h := h.2 z
    refine gx_iload_n 1 dX10_gain_4 rfl rfl ?_
    refine gx_iconst (v := 2) dX10_gain_5 (by decide) ?_
    refine gx_icmp_gt 17 dX10_gain_6 (by decide) ⟨fun z => ?_, fun z => ?_⟩
    · replace h := h.1 z
      refine gx_ldc2 dX10_gain_17 kl_X10_290 ?_
      exact gx_lret dX10_gain_20 rfl rfl rfl ⟨_, _, _, _, rfl, rfl, h⟩
    · replace h := h.2 z
      refine gx_aload_n 0 dX10_gain_9 rfl rfl ?_
      refine gx_iload_n 2 dX10_gain_10 rfl rfl ?_
      refine gx_callV 10 (As := [.int x2]) (st := []) dX10_gain_11 ml_X10_283 mm_X10_canCount rfl rfl rfl rfl rfl rfl ⟨rfl, rfl⟩ h (fun v h2 hq => ?_)
      clear h
      obtain ⟨b4, I1, L2, c3, rfl, rfl, h⟩ := hq
      show Z_J_gain g Q 14 [(0, .ref 0), (1, .int x1), (2, .int x2)] [.int (gm_b b4)] I1 L2 c3
      refine gx_if_ne 21 dX10_gain_14 (by decide) ⟨fun z => ?_, fun z => ?_⟩
      · replace h := h.1 (gm_b0.mp z)
        refine gx_ldc2 dX10_gain_17 kl_X10_290 ?_
        exact gx_lret dX10_gain_20 rfl rfl rfl ⟨_, _, _, _, rfl, rfl, h⟩
      · replace h := h.2 (gm_bn0 z)
        refine gx_iload_n 1 dX10_gain_21 rfl rfl ?_
        refine gx_iconst (v := 2) dX10_gain_22 (by decide) ?_
        refine gx_icmp_ne 47 dX10_gain_23 (by decide) ⟨fun z => ?_, fun z => ?_⟩
        · replace h := h.1 z
          refine gx_aload_n 0 dX10_gain_26 rfl rfl ?_
          refine gx_getr 10 2 (v := 16) dX10_gain_27 fl_X10_65 rfl rfl rfl ?_
          refine gx_geti 1 0 (v := (I1 16 0)) dX10_gain_30 fl_X10_296 rfl rfl rfl ?_
          refine gx_aload_n 0 dX10_gain_33 rfl rfl ?_
          refine gx_getr 10 2 (v := 16) dX10_gain_34 fl_X10_65 rfl rfl rfl ?_
          refine gx_geti 1 1 (v := (I1 16 1)) dX10_gain_37 fl_X10_299 rfl rfl rfl ?_
          refine gx_icmp_ne 47 dX10_gain_40 (by decide) ⟨fun z => ?_, fun z => ?_⟩
          · replace h := h.1 z
            refine gx_ldc2 dX10_gain_43 kl_X10_331 ?_
            exact gx_lret dX10_gain_46 rfl rfl rfl ⟨_, _, _, _, rfl, rfl, h⟩
          · replace h := h.2 z
            refine gx_aload_n 0 dX10_gain_47 rfl rfl ?_
            refine gx_getr 10 8 (v := 23) dX10_gain_48 fl_X10_71 rfl rfl rfl ?_
            refine gx_iload_n 2 dX10_gain_51 rfl rfl ?_
            refine gx_aload_n 0 dX10_gain_52 rfl rfl ?_
            refine gx_getr 10 5 (v := 20) dX10_gain_53 fl_X10_68 rfl rfl rfl ?_
            refine gx_geti 8 2 (v := (I1 20 2)) dX10_gain_56 fl_X10_154 rfl rfl rfl ?_
            refine gx_callV 7 (As := [.int x2, .int (I1 20 2)]) (st := []) dX10_gain_59 ml_X10_319 mm_X7_lay rfl rfl rfl rfl rfl rfl ⟨rfl, rfl⟩ h (fun v h2 hq => ?_)
            clear h
            obtain ⟨I5, L6, c7, rfl, rfl, h⟩ := hq
            show Z_J_gain g Q 62 [(0, .ref 0), (1, .int x1), (2, .int x2)] [] I5 L6 c7
            refine gx_aload_n 0 dX10_gain_62 rfl rfl ?_
            refine gx_iload_n 1 dX10_gain_63 rfl rfl ?_
            refine gx_callV 10 (As := [.int x1]) (st := []) dX10_gain_64 ml_X10_346 mm_X10_gainOf rfl rfl rfl rfl rfl rfl ⟨rfl, rfl⟩ h (fun v h2 hq => ?_)
            clear h
            obtain ⟨r11, I8, L9, c10, rfl, rfl, h⟩ := hq
            show Z_J_gain g Q 67 [(0, .ref 0), (1, .int x1), (2, .int x2)] [.long r11] I8 L9 c10
            exact gx_lret dX10_gain_67 rfl rfl rfl ⟨_, _, _, _, rfl, rfl, h⟩
        · replace h := h.2 z
          refine gx_aload_n 0 dX10_gain_47 rfl rfl ?_
          refine gx_getr 10 8 (v := 23) dX10_gain_48 fl_X10_71 rfl rfl rfl ?_
          refine gx_iload_n 2 dX10_gain_51 rfl rfl ?_
          refine gx_aload_n 0 dX10_gain_52 rfl rfl ?_
          refine gx_getr 10 5 (v := 20) dX10_gain_53 fl_X10_68 rfl rfl rfl ?_
          refine gx_geti 8 2 (v := (I1 20 2)) dX10_gain_56 fl_X10_154 rfl rfl rfl ?_
          refine gx_callV 7 (As := [.int x2, .int (I1 20 2)]) (st := []) dX10_gain_59 ml_X10_319 mm_X7_lay rfl rfl rfl rfl rfl rfl ⟨rfl, rfl⟩ h (fun v h2 hq => ?_)
          clear h
          obtain ⟨I12, L13, c14, rfl, rfl, h⟩ := hq
          show Z_J_gain g Q 62 [(0, .ref 0), (1, .int x1), (2, .int x2)] [] I12 L13 c14
          refine gx_aload_n 0 dX10_gain_62 rfl rfl ?_
          refine gx_iload_n 1 dX10_gain_63 rfl rfl ?_
          refine gx_callV 10 (As := [.int x1]) (st := []) dX10_gain_64 ml_X10_346 mm_X10_gainOf rfl rfl rfl rfl rfl rfl ⟨rfl, rfl⟩ h (fun v h2 hq => ?_)
          clear h
          obtain ⟨r18, I15, L16, c17, rfl, rfl, h⟩ := hq
          show Z_J_gain g Q 67 [(0, .ref 0), (1, .int x1), (2, .int x2)] [.long r18] I15 L16 c17
          exact gx_lret dX10_gain_67 rfl rfl rfl ⟨_, _, _, _, rfl, rfl, h⟩
abbrev Z_J_buys (g : gm_G) (Q : Int32 → mI → mL → gm_cfg → Prop) (pc : Nat) (lv : List (Nat × Value)) (st : List Value) (I : mI) (L : mL) (c : gm_cfg) : Prop := gm_X g RX10 "buys" cX10_buys 9 (some .int) 7 0 0 (qI Q) 0 0 pc lv st (SH, I, L, RR c)
abbrev C_J_buys (g : gm_G) (x1 : Int32) (I : mI) (L : mL) (c : gm_cfg) (Q : Int32 → mI → mL → gm_cfg → Prop) : Prop := gm_Met g yX10_buys cX10_buys 9 (some .int) 7 0 0 [.ref 0, .int x1] (SH, I, L, RR c) (qI Q)
set_option maxRecDepth 100000 in
theorem e_J_buys {g : gm_G} {Q : Int32 → mI → mL → gm_cfg → Prop} {x1 : Int32} {I : mI} {L : mL} {c : gm_cfg} (h : (C_J_canCount g x1 I L c (fun b4 I1 L2 c3 => ((b4 = false → Q (-3) I1 L2 c3) ∧ (b4 = true → (C_Sr_lay g x1 (I1 20 2) I1 L2 c3 (fun I5 L6 c7 => (((I5 16 0) = (I5 16 1) → Z_J_buys g Q 57 [(0, .ref 0), (1, .int x1), (2, .int 1), (3, .int 0), (4, .long 0), (6, .int 1)] [] I5 L6 c7) ∧ (¬ (I5 16 0) = (I5 16 1) → Z_J_buys g Q 57 [(0, .ref 0), (1, .int x1), (2, .int 2), (3, .int 0), (4, .long 0), (6, .int 1)] [] I5 L6 c7))))))))) : C_J_buys g x1 I L c Q := by
  refine gm_enter (lv := [(0, .ref 0), (1, .int x1)]) (by decide) rfl rfl rfl rfl ?_
  show Z_J_buys g Q 0 [(0, .ref 0), (1, .int x1)] [] I L c
  refine gx_aload_n 0 dX10_buys_0 rfl rfl ?_
  refine gx_iload_n 1 dX10_buys_1 rfl rfl ?_
  refine gx_callV 10 (As := [.int x1]) (st := []) dX10_buys_2 ml_X10_283 mm_X10_canCount rfl rfl rfl rfl rfl rfl ⟨rfl, rfl⟩ h (fun v h2 hq => ?_)
  clear h
  obtain ⟨b4, I1, L2, c3, rfl, rfl, h⟩ := hq
  show Z_J_buys g Q 5 [(0, .ref 0), (1, .int x1)] [.int (gm_b b4)] I1 L2 c3
  refine gx_if_ne 11 dX10_buys_5 (by decide) ⟨fun z => ?_, fun z => ?_⟩
  · replace h := h.1 (gm_b0.mp z)
    refine gx_bipush (v := (-3)) dX10_buys_8 (by decide) ?_
    exact gx_iret dX10_buys_10 rfl rfl rfl ⟨_, _, _, _, rfl, rfl, h⟩
  · replace h := h.2 (gm_bn0 z)
    refine gx_aload_n 0 dX10_buys_11 rfl rfl ?_
    refine gx_getr 10 8 (v := 23) dX10_buys_12 fl_X10_71 rfl rfl rfl ?_
    refine gx_iload_n 1 dX10_buys_15 rfl rfl ?_
    refine gx_aload_n 0 dX10_buys_16 rfl rfl ?_
    refine gx_getr 10 5 (v := 20) dX10_buys_17 fl_X10_68 rfl rfl rfl ?_
    refine gx_geti 8 2 (v := (I1 20 2)) dX10_buys_20 fl_X10_154 rfl rfl rfl ?_
    refine gx_callV 7 (As := [.int x1, .int (I1 20 2)]) (st := []) dX10_buys_23 ml_X10_319 mm_X7_lay rfl rfl rfl rfl rfl rfl ⟨rfl, rfl⟩ h (fun v h2 hq => ?_)
    clear h
    obtain ⟨I5, L6, c7, rfl, rfl, h⟩ := hq
    show Z_J_buys g Q 26 [(0, .ref 0), (1, .int x1)] [] I5 L6 c7
    refine gx_aload_n 0 dX10_buys_26 rfl rfl ?_
    refine gx_getr 10 2 (v := 16) dX10_buys_27 fl_X10_65 rfl rfl rfl ?_
    refine gx_geti 1 0 (v := (I5 16 0)) dX10_buys_30 fl_X10_296 rfl rfl rfl ?_
    refine gx_aload_n 0 dX10_buys_33 rfl rfl ?_
    refine gx_getr 10 2 (v := 16) dX10_buys_34 fl_X10_65 rfl rfl rfl ?_
    refine gx_geti 1 1 (v := (I5 16 1)) dX10_buys_37 fl_X10_299 rfl rfl rfl ?_
    refine gx_icmp_ne 47 dX10_buys_40 (by decide) ⟨fun z => ?_, fun z => ?_⟩
    · replace h := h.1 z
      refine gx_iconst (v := 1) dX10_buys_43 (by decide) ?_
      refine gx_goto 48 dX10_buys_44 (by decide) ?_
      refine gx_istore_n (lv' := [(0, .ref 0), (1, .int x1), (2, .int 1)]) dX10_buys_48 rfl rfl rfl ?_
      refine gx_iconst (v := 0) dX10_buys_49 (by decide) ?_
      refine gx_istore_n (lv' := [(0, .ref 0), (1, .int x1), (2, .int 1), (3, .int 0)]) dX10_buys_50 rfl rfl rfl ?_
      refine gx_lconst (v := 0) dX10_buys_51 (by decide) ?_
      refine gx_lstore (lv' := [(0, .ref 0), (1, .int x1), (2, .int 1), (3, .int 0), (4, .long 0)]) dX10_buys_52 rfl rfl ?_
      refine gx_iconst (v := 1) dX10_buys_54 (by decide) ?_
      refine gx_istore (lv' := [(0, .ref 0), (1, .int x1), (2, .int 1), (3, .int 0), (4, .long 0), (6, .int 1)]) dX10_buys_55 rfl rfl ?_
      exact h
    · replace h := h.2 z
      refine gx_iconst (v := 2) dX10_buys_47 (by decide) ?_
      refine gx_istore_n (lv' := [(0, .ref 0), (1, .int x1), (2, .int 2)]) dX10_buys_48 rfl rfl rfl ?_
      refine gx_iconst (v := 0) dX10_buys_49 (by decide) ?_
      refine gx_istore_n (lv' := [(0, .ref 0), (1, .int x1), (2, .int 2), (3, .int 0)]) dX10_buys_50 rfl rfl rfl ?_
      refine gx_lconst (v := 0) dX10_buys_51 (by decide) ?_
      refine gx_lstore (lv' := [(0, .ref 0), (1, .int x1), (2, .int 2), (3, .int 0), (4, .long 0)]) dX10_buys_52 rfl rfl ?_
      refine gx_iconst (v := 1) dX10_buys_54 (by decide) ?_
      refine gx_istore (lv' := [(0, .ref 0), (1, .int x1), (2, .int 2), (3, .int 0), (4, .long 0), (6, .int 1)]) dX10_buys_55 rfl rfl ?_
      exact h
set_option maxRecDepth 100000 in
theorem r_J_buys_57 {g : gm_G} {Q : Int32 → mI → mL → gm_cfg → Prop} {x1 x2 x3 x6 : Int32} {x4 : Int64} {I : mI} {L : mL} {c : gm_cfg} (h : ((x2 < x6 → Q x3 I L c) ∧ (¬ x2 < x6 → (C_J_gainOf g x6 I L c (fun r4 I1 L2 c3 => (((r4 : Int64) ≤ x4 → Z_J_buys g Q 57 [(0, .ref 0), (1, .int x1), (2, .int x2), (3, .int x3), (4, .long x4), (6, .int (x6 + 1))] [] I1 L2 c3) ∧ (¬ (r4 : Int64) ≤ x4 → Z_J_buys g Q 57 [(0, .ref 0), (1, .int x1), (2, .int x2), (3, .int x6), (4, .long r4), (6, .int (x6 + 1))] [] I1 L2 c3))))))) : Z_J_buys g Q 57 [(0, .ref 0), (1, .int x1), (2, .int x2), (3, .int x3), (4, .long x4), (6, .int x6)] [] I L c := by
  refine gx_iload 5 dX10_buys_57 rfl ?_
  refine gx_iload_n 2 dX10_buys_59 rfl rfl ?_
  refine gx_icmp_gt 92 dX10_buys_60 (by decide) ⟨fun z => ?_, fun z => ?_⟩
  · replace h := h.1 z
    refine gx_iload_n 3 dX10_buys_92 rfl rfl ?_
    exact gx_iret dX10_buys_93 rfl rfl rfl ⟨_, _, _, _, rfl, rfl, h⟩
  · replace h := h.2 z
    refine gx_aload_n 0 dX10_buys_63 rfl rfl ?_
    refine gx_iload 5 dX10_buys_64 rfl ?_
    refine gx_callV 10 (As := [.int x6]) (st := []) dX10_buys_66 ml_X10_346 mm_X10_gainOf rfl rfl rfl rfl rfl rfl ⟨rfl, rfl⟩ h (fun v h2 hq => ?_)
    clear h
    obtain ⟨r4, I1, L2, c3, rfl, rfl, h⟩ := hq
    show Z_J_buys g Q 69 [(0, .ref 0), (1, .int x1), (2, .int x2), (3, .int x3), (4, .long x4), (6, .int x6)] [.long r4] I1 L2 c3
    refine gx_lstore (lv' := [(0, .ref 0), (1, .int x1), (2, .int x2), (3, .int x3), (4, .long x4), (6, .int x6), (7, .long r4)]) dX10_buys_69 rfl rfl ?_
    refine gx_lload 6 dX10_buys_71 rfl ?_
    refine gx_lload 4 dX10_buys_73 rfl ?_
    refine gx_lcmp_le 86 dX10_buys_75 dX10_buys_76 (by decide) ⟨fun z => ?_, fun z => ?_⟩
    · replace h := h.1 z
      refine gx_iinc (v := (x6 + 1)) (lv' := [(0, .ref 0), (1, .int x1), (2, .int x2), (3, .int x3), (4, .long x4), (6, .int (x6 + 1)), (7, .long r4)]) 5 dX10_buys_86 rfl rfl rfl rfl ?_
      refine gx_goto 57 dX10_buys_89 (by decide) ?_
      refine gx_sub [0, 1, 2, 3, 4, 5] (lv' := [(0, .ref 0), (1, .int x1), (2, .int x2), (3, .int x3), (4, .long x4), (6, .int (x6 + 1))]) rfl ?_
      exact h
    · replace h := h.2 z
      refine gx_lload 6 dX10_buys_79 rfl ?_
      refine gx_lstore (lv' := [(0, .ref 0), (1, .int x1), (2, .int x2), (3, .int x3), (4, .long r4), (6, .int x6), (7, .long r4)]) dX10_buys_81 rfl rfl ?_
      refine gx_iload 5 dX10_buys_83 rfl ?_
      refine gx_istore_n (lv' := [(0, .ref 0), (1, .int x1), (2, .int x2), (3, .int x6), (4, .long r4), (6, .int x6), (7, .long r4)]) dX10_buys_85 rfl rfl rfl ?_
      refine gx_iinc (v := (x6 + 1)) (lv' := [(0, .ref 0), (1, .int x1), (2, .int x2), (3, .int x6), (4, .long r4), (6, .int (x6 + 1)), (7, .long r4)]) 5 dX10_buys_86 rfl rfl rfl rfl ?_
      refine gx_goto 57 dX10_buys_89 (by decide) ?_
      refine gx_sub [0, 1, 2, 3, 4, 5] (lv' := [(0, .ref 0), (1, .int x1), (2, .int x2), (3, .int x6), (4, .long r4), (6, .int (x6 + 1))]) rfl ?_
      exact h
abbrev Z_J_game (g : gm_G) (Q : Int32 → mI → mL → gm_cfg → Prop) (pc : Nat) (lv : List (Nat × Value)) (st : List Value) (I : mI) (L : mL) (c : gm_cfg) : Prop := gm_X g RX10 "game" cX10_game 5 (some .int) 7 0 0 (qI Q) 0 0 pc lv st (SH, I, L, RR c)
abbrev C_J_game (g : gm_G) (x1 : Int32) (x2 : Int32) (I : mI) (L : mL) (c : gm_cfg) (Q : Int32 → mI → mL → gm_cfg → Prop) : Prop := gm_Met g yX10_game cX10_game 5 (some .int) 7 0 0 [.ref 0, .int x1, .int x2] (SH, I, L, RR c) (qI Q)
set_option maxRecDepth 100000 in
theorem e_J_game {g : gm_G} {Q : Int32 → mI → mL → gm_cfg → Prop} {x1 x2 : Int32} {I : mI} {L : mL} {c : gm_cfg} (h : ((x1 < 1 → Q (-3) I L c) ∧ (¬ x1 < 1 → ((x1 ≤ 3 → ((x2 < 0 → ((x2 < 10 → Q (-2) I L c) ∧ (¬ x2 < 10 → (((10 + x1) ≤ x2 → Q (-2) I L c) ∧ (¬ (10 + x1) ≤ x2 → ((((I 16 1) - (I 16 0)) < 24 → (C_Sr_lay g 0 0 I L c (fun I1 L2 c3 => False))) ∧ (¬ ((I 16 1) - (I 16 0)) < 24 → Q (-4) I L c))))))) ∧ (¬ x2 < 0 → ((x1 ≤ x2 → ((x2 < 10 → Q (-2) I L c) ∧ (¬ x2 < 10 → (((10 + x1) ≤ x2 → Q (-2) I L c) ∧ (¬ (10 + x1) ≤ x2 → ((((I 16 1) - (I 16 0)) < 24 → (C_Sr_lay g 0 0 I L c (fun I4 L5 c6 => False))) ∧ (¬ ((I 16 1) - (I 16 0)) < 24 → Q (-4) I L c))))))) ∧ (¬ x1 ≤ x2 → ((x2 < 10 → ((((I 16 1) - (I 16 0)) < 24 → (C_Sr_lay g 0 0 I L c (fun I7 L8 c9 => False))) ∧ (¬ ((I 16 1) - (I 16 0)) < 24 → Q (-4) I L c))) ∧ (¬ x2 < 10 → (((10 + x1) ≤ x2 → ((((I 16 1) - (I 16 0)) < 24 → (C_Sr_lay g 0 0 I L c (fun I10 L11 c12 => False))) ∧ (¬ ((I 16 1) - (I 16 0)) < 24 → Q (-4) I L c))) ∧ (¬ (10 + x1) ≤ x2 → ((((I 16 1) - (I 16 0)) < 24 → (C_Sr_lay g 0 0 I L c (fun I13 L14 c15 => False))) ∧ (¬ ((I 16 1) - (I 16 0)) < 24 → Q (-4) I L c))))))))))) ∧ (¬ x1 ≤ 3 → Q (-3) I L c))))) : C_J_game g x1 x2 I L c Q := by
  refine gm_enter (lv := [(0, .ref 0), (1, .int x1), (2, .int x2)]) (by decide) rfl rfl rfl rfl ?_
  show Z_J_game g Q 0 [(0, .ref 0), (1, .int x1), (2, .int x2)] [] I L c
  refine gx_iload_n 1 dX10_game_0 rfl rfl ?_
  refine gx_iconst (v := 1) dX10_game_1 (by decide) ?_
  refine gx_icmp_lt 10 dX10_game_2 (by decide) ⟨fun z => ?_, fun z => ?_⟩
  · replace h := h.1 z
    refine gx_bipush (v := (-3)) dX10_game_10 (by decide) ?_
    exact gx_iret dX10_game_12 rfl rfl rfl ⟨_, _, _, _, rfl, rfl, h⟩
  · replace h := h.2 z
    refine gx_iload_n 1 dX10_game_5 rfl rfl ?_
    refine gx_iconst (v := 3) dX10_game_6 (by decide) ?_
    refine gx_icmp_le 13 dX10_game_7 (by decide) ⟨fun z => ?_, fun z => ?_⟩
    · replace h := h.1 z
      refine gx_iload_n 2 dX10_game_13 rfl rfl ?_
      refine gx_if_lt 26 dX10_game_14 (by decide) ⟨fun z => ?_, fun z => ?_⟩
      · replace h := h.1 z
        refine gx_iconst (v := 0) dX10_game_26 (by decide) ?_
        refine gx_istore_n (lv' := [(0, .ref 0), (1, .int x1), (2, .int x2), (3, .int 0)]) dX10_game_27 rfl rfl rfl ?_
        refine gx_iload_n 2 dX10_game_28 rfl rfl ?_
        refine gx_bipush (v := 10) dX10_game_29 (by decide) ?_
        refine gx_icmp_lt 46 dX10_game_31 (by decide) ⟨fun z => ?_, fun z => ?_⟩
        · replace h := h.1 z
          refine gx_iconst (v := 0) dX10_game_46 (by decide) ?_
          refine gx_istore (lv' := [(0, .ref 0), (1, .int x1), (2, .int x2), (3, .int 0), (4, .int 0)]) dX10_game_47 rfl rfl ?_
          refine gx_iload_n 3 dX10_game_49 rfl rfl ?_
          refine gx_if_ne 61 dX10_game_50 (by decide) (br_t (by decide) ?_)
          refine gx_iload 4 dX10_game_53 rfl ?_
          refine gx_if_ne 61 dX10_game_55 (by decide) (br_t (by decide) ?_)
          refine gx_bipush (v := (-2)) dX10_game_58 (by decide) ?_
          exact gx_iret dX10_game_60 rfl rfl rfl ⟨_, _, _, _, rfl, rfl, h⟩
        · replace h := h.2 z
          refine gx_iload_n 2 dX10_game_34 rfl rfl ?_
          refine gx_bipush (v := 10) dX10_game_35 (by decide) ?_
          refine gx_iload_n 1 dX10_game_37 rfl rfl ?_
          refine gx_iadd dX10_game_38 ?_
          refine gx_icmp_ge 46 dX10_game_39 (by decide) ⟨fun z => ?_, fun z => ?_⟩
          · replace h := h.1 z
            refine gx_iconst (v := 0) dX10_game_46 (by decide) ?_
            refine gx_istore (lv' := [(0, .ref 0), (1, .int x1), (2, .int x2), (3, .int 0), (4, .int 0)]) dX10_game_47 rfl rfl ?_
            refine gx_iload_n 3 dX10_game_49 rfl rfl ?_
            refine gx_if_ne 61 dX10_game_50 (by decide) (br_t (by decide) ?_)
            refine gx_iload 4 dX10_game_53 rfl ?_
            refine gx_if_ne 61 dX10_game_55 (by decide) (br_t (by decide) ?_)
            refine gx_bipush (v := (-2)) dX10_game_58 (by decide) ?_
            exact gx_iret dX10_game_60 rfl rfl rfl ⟨_, _, _, _, rfl, rfl, h⟩
          · replace h := h.2 z
            refine gx_iconst (v := 1) dX10_game_42 (by decide) ?_
            refine gx_goto 47 dX10_game_43 (by decide) ?_
            refine gx_istore (lv' := [(0, .ref 0), (1, .int x1), (2, .int x2), (3, .int 0), (4, .int 1)]) dX10_game_47 rfl rfl ?_
            refine gx_iload_n 3 dX10_game_49 rfl rfl ?_
            refine gx_if_ne 61 dX10_game_50 (by decide) (br_t (by decide) ?_)
            refine gx_iload 4 dX10_game_53 rfl ?_
            refine gx_if_ne 61 dX10_game_55 (by decide) (br_f (by decide) ?_)
            refine gx_aload_n 0 dX10_game_61 rfl rfl ?_
            refine gx_getr 10 2 (v := 16) dX10_game_62 fl_X10_65 rfl rfl rfl ?_
            refine gx_geti 1 1 (v := (I 16 1)) dX10_game_65 fl_X10_299 rfl rfl rfl ?_
            refine gx_aload_n 0 dX10_game_68 rfl rfl ?_
            refine gx_getr 10 2 (v := 16) dX10_game_69 fl_X10_65 rfl rfl rfl ?_
            refine gx_geti 1 0 (v := (I 16 0)) dX10_game_72 fl_X10_296 rfl rfl rfl ?_
            refine gx_isub dX10_game_75 ?_
            refine gx_bipush (v := 24) dX10_game_76 (by decide) ?_
            refine gx_icmp_lt 84 dX10_game_78 (by decide) ⟨fun z => ?_, fun z => ?_⟩
            · replace h := h.1 z
              refine gx_aload_n 0 dX10_game_84 rfl rfl ?_
              refine gx_getr 10 8 (v := 23) dX10_game_85 fl_X10_71 rfl rfl rfl ?_
              refine gx_iconst (v := 0) dX10_game_88 (by decide) ?_
              refine gx_iconst (v := 0) dX10_game_89 (by decide) ?_
              refine gx_callV 7 (As := [.int 0, .int 0]) (st := []) dX10_game_90 ml_X10_319 mm_X7_lay rfl rfl rfl rfl rfl rfl ⟨rfl, rfl⟩ h (fun v h2 hq => ?_)
              clear h
              obtain ⟨I1, L2, c3, rfl, rfl, h⟩ := hq
              show Z_J_game g Q 93 [(0, .ref 0), (1, .int x1), (2, .int x2), (3, .int 0), (4, .int 1)] [] I1 L2 c3
              refine gx_aload_n 0 dX10_game_93 rfl rfl ?_
              refine gx_getr 10 9 (v := 29) dX10_game_94 fl_X10_80 rfl rfl rfl ?_
              refine gx_iconst (v := 0) dX10_game_97 (by decide) ?_
              refine gx_iload_n 1 dX10_game_98 rfl rfl ?_
              exact False.elim h
            · replace h := h.2 z
              refine gx_bipush (v := (-4)) dX10_game_81 (by decide) ?_
              exact gx_iret dX10_game_83 rfl rfl rfl ⟨_, _, _, _, rfl, rfl, h⟩
      · replace h := h.2 z
        refine gx_iload_n 2 dX10_game_17 rfl rfl ?_
        refine gx_iload_n 1 dX10_game_18 rfl rfl ?_
        refine gx_icmp_ge 26 dX10_game_19 (by decide) ⟨fun z => ?_, fun z => ?_⟩
        · replace h := h.1 z
          refine gx_iconst (v := 0) dX10_game_26 (by decide) ?_
          refine gx_istore_n (lv' := [(0, .ref 0), (1, .int x1), (2, .int x2), (3, .int 0)]) dX10_game_27 rfl rfl rfl ?_
          refine gx_iload_n 2 dX10_game_28 rfl rfl ?_
          refine gx_bipush (v := 10) dX10_game_29 (by decide) ?_
          refine gx_icmp_lt 46 dX10_game_31 (by decide) ⟨fun z => ?_, fun z => ?_⟩
          · replace h := h.1 z
            refine gx_iconst (v := 0) dX10_game_46 (by decide) ?_
            refine gx_istore (lv' := [(0, .ref 0), (1, .int x1), (2, .int x2), (3, .int 0), (4, .int 0)]) dX10_game_47 rfl rfl ?_
            refine gx_iload_n 3 dX10_game_49 rfl rfl ?_
            refine gx_if_ne 61 dX10_game_50 (by decide) (br_t (by decide) ?_)
            refine gx_iload 4 dX10_game_53 rfl ?_
            refine gx_if_ne 61 dX10_game_55 (by decide) (br_t (by decide) ?_)
            refine gx_bipush (v := (-2)) dX10_game_58 (by decide) ?_
            exact gx_iret dX10_game_60 rfl rfl rfl ⟨_, _, _, _, rfl, rfl, h⟩
          · replace h := h.2 z
            refine gx_iload_n 2 dX10_game_34 rfl rfl ?_
            refine gx_bipush (v := 10) dX10_game_35 (by decide) ?_
            refine gx_iload_n 1 dX10_game_37 rfl rfl ?_
            refine gx_iadd dX10_game_38 ?_
            refine gx_icmp_ge 46 dX10_game_39 (by decide) ⟨fun z => ?_, fun z => ?_⟩
            · replace h := h.1 z
              refine gx_iconst (v := 0) dX10_game_46 (by decide) ?_
              refine gx_istore (lv' := [(0, .ref 0), (1, .int x1), (2, .int x2), (3, .int 0), (4, .int 0)]) dX10_game_47 rfl rfl ?_
              refine gx_iload_n 3 dX10_game_49 rfl rfl ?_
              refine gx_if_ne 61 dX10_game_50 (by decide) (br_t (by decide) ?_)
              refine gx_iload 4 dX10_game_53 rfl ?_
              refine gx_if_ne 61 dX10_game_55 (by decide) (br_t (by decide) ?_)
              refine gx_bipush (v := (-2)) dX10_game_58 (by decide) ?_
              exact gx_iret dX10_game_60 rfl rfl rfl ⟨_, _, _, _, rfl, rfl, h⟩
            · replace h := h.2 z
              refine gx_iconst (v := 1) dX10_game_42 (by decide) ?_
              refine gx_goto 47 dX10_game_43 (by decide) ?_
              refine gx_istore (lv' := [(0, .ref 0), (1, .int x1), (2, .int x2), (3, .int 0), (4, .int 1)]) dX10_game_47 rfl rfl ?_
              refine gx_iload_n 3 dX10_game_49 rfl rfl ?_
              refine gx_if_ne 61 dX10_game_50 (by decide) (br_t (by decide) ?_)
              refine gx_iload 4 dX10_game_53 rfl ?_
              refine gx_if_ne 61 dX10_game_55 (by decide) (br_f (by decide) ?_)
              refine gx_aload_n 0 dX10_game_61 rfl rfl ?_
              refine gx_getr 10 2 (v := 16) dX10_game_62 fl_X10_65 rfl rfl rfl ?_
              refine gx_geti 1 1 (v := (I 16 1)) dX10_game_65 fl_X10_299 rfl rfl rfl ?_
              refine gx_aload_n 0 dX10_game_68 rfl rfl ?_
              refine gx_getr 10 2 (v := 16) dX10_game_69 fl_X10_65 rfl rfl rfl ?_
              refine gx_geti 1 0 (v := (I 16 0)) dX10_game_72 fl_X10_296 rfl rfl rfl ?_
              refine gx_isub dX10_game_75 ?_
              refine gx_bipush (v := 24) dX10_game_76 (by decide) ?_
              refine gx_icmp_lt 84 dX10_game_78 (by decide) ⟨fun z => ?_, fun z => ?_⟩
              · replace h := h.1 z
                refine gx_aload_n 0 dX10_game_84 rfl rfl ?_
                refine gx_getr 10 8 (v := 23) dX10_game_85 fl_X10_71 rfl rfl rfl ?_
                refine gx_iconst (v := 0) dX10_game_88 (by decide) ?_
                refine gx_iconst (v := 0) dX10_game_89 (by decide) ?_
                refine gx_callV 7 (As := [.int 0, .int 0]) (st := []) dX10_game_90 ml_X10_319 mm_X7_lay rfl rfl rfl rfl rfl rfl ⟨rfl, rfl⟩ h (fun v h2 hq => ?_)
                clear h
                obtain ⟨I4, L5, c6, rfl, rfl, h⟩ := hq
                show Z_J_game g Q 93 [(0, .ref 0), (1, .int x1), (2, .int x2), (3, .int 0), (4, .int 1)] [] I4 L5 c6
                refine gx_aload_n 0 dX10_game_93 rfl rfl ?_
                refine gx_getr 10 9 (v := 29) dX10_game_94 fl_X10_80 rfl rfl rfl ?_
                refine gx_iconst (v := 0) dX10_game_97 (by decide) ?_
                refine gx_iload_n 1 dX10_game_98 rfl rfl ?_
                exact False.elim h
              · replace h := h.2 z
                refine gx_bipush (v := (-4)) dX10_game_81 (by decide) ?_
                exact gx_iret dX10_game_83 rfl rfl rfl ⟨_, _, _, _, rfl, rfl, h⟩
        · replace h := h.2 z
          refine gx_iconst (v := 1) dX10_game_22 (by decide) ?_
          refine gx_goto 27 dX10_game_23 (by decide) ?_
          refine gx_istore_n (lv' := [(0, .ref 0), (1, .int x1), (2, .int x2), (3, .int 1)]) dX10_game_27 rfl rfl rfl ?_
          refine gx_iload_n 2 dX10_game_28 rfl rfl ?_
          refine gx_bipush (v := 10) dX10_game_29 (by decide) ?_
          refine gx_icmp_lt 46 dX10_game_31 (by decide) ⟨fun z => ?_, fun z => ?_⟩
          · replace h := h.1 z
            refine gx_iconst (v := 0) dX10_game_46 (by decide) ?_
            refine gx_istore (lv' := [(0, .ref 0), (1, .int x1), (2, .int x2), (3, .int 1), (4, .int 0)]) dX10_game_47 rfl rfl ?_
            refine gx_iload_n 3 dX10_game_49 rfl rfl ?_
            refine gx_if_ne 61 dX10_game_50 (by decide) (br_f (by decide) ?_)
            refine gx_aload_n 0 dX10_game_61 rfl rfl ?_
            refine gx_getr 10 2 (v := 16) dX10_game_62 fl_X10_65 rfl rfl rfl ?_
            refine gx_geti 1 1 (v := (I 16 1)) dX10_game_65 fl_X10_299 rfl rfl rfl ?_
            refine gx_aload_n 0 dX10_game_68 rfl rfl ?_
            refine gx_getr 10 2 (v := 16) dX10_game_69 fl_X10_65 rfl rfl rfl ?_
            refine gx_geti 1 0 (v := (I 16 0)) dX10_game_72 fl_X10_296 rfl rfl rfl ?_
            refine gx_isub dX10_game_75 ?_
            refine gx_bipush (v := 24) dX10_game_76 (by decide) ?_
            refine gx_icmp_lt 84 dX10_game_78 (by decide) ⟨fun z => ?_, fun z => ?_⟩
            · replace h := h.1 z
              refine gx_aload_n 0 dX10_game_84 rfl rfl ?_
              refine gx_getr 10 8 (v := 23) dX10_game_85 fl_X10_71 rfl rfl rfl ?_
              refine gx_iconst (v := 0) dX10_game_88 (by decide) ?_
              refine gx_iconst (v := 0) dX10_game_89 (by decide) ?_
              refine gx_callV 7 (As := [.int 0, .int 0]) (st := []) dX10_game_90 ml_X10_319 mm_X7_lay rfl rfl rfl rfl rfl rfl ⟨rfl, rfl⟩ h (fun v h2 hq => ?_)
              clear h
              obtain ⟨I7, L8, c9, rfl, rfl, h⟩ := hq
              show Z_J_game g Q 93 [(0, .ref 0), (1, .int x1), (2, .int x2), (3, .int 1), (4, .int 0)] [] I7 L8 c9
              refine gx_aload_n 0 dX10_game_93 rfl rfl ?_
              refine gx_getr 10 9 (v := 29) dX10_game_94 fl_X10_80 rfl rfl rfl ?_
              refine gx_iconst (v := 0) dX10_game_97 (by decide) ?_
              refine gx_iload_n 1 dX10_game_98 rfl rfl ?_
              exact False.elim h
            · replace h := h.2 z
              refine gx_bipush (v := (-4)) dX10_game_81 (by decide) ?_
              exact gx_iret dX10_game_83 rfl rfl rfl ⟨_, _, _, _, rfl, rfl, h⟩
          · replace h := h.2 z
            refine gx_iload_n 2 dX10_game_34 rfl rfl ?_
            refine gx_bipush (v := 10) dX10_game_35 (by decide) ?_
            refine gx_iload_n 1 dX10_game_37 rfl rfl ?_
            refine gx_iadd dX10_game_38 ?_
            refine gx_icmp_ge 46 dX10_game_39 (by decide) ⟨fun z => ?_, fun z => ?_⟩
            · replace h := h.1 z
              refine gx_iconst (v := 0) dX10_game_46 (by decide) ?_
              refine gx_istore (lv' := [(0, .ref 0), (1, .int x1), (2, .int x2), (3, .int 1), (4, .int 0)]) dX10_game_47 rfl rfl ?_
              refine gx_iload_n 3 dX10_game_49 rfl rfl ?_
              refine gx_if_ne 61 dX10_game_50 (by decide) (br_f (by decide) ?_)
              refine gx_aload_n 0 dX10_game_61 rfl rfl ?_
              refine gx_getr 10 2 (v := 16) dX10_game_62 fl_X10_65 rfl rfl rfl ?_
              refine gx_geti 1 1 (v := (I 16 1)) dX10_game_65 fl_X10_299 rfl rfl rfl ?_
              refine gx_aload_n 0 dX10_game_68 rfl rfl ?_
              refine gx_getr 10 2 (v := 16) dX10_game_69 fl_X10_65 rfl rfl rfl ?_
              refine gx_geti 1 0 (v := (I 16 0)) dX10_game_72 fl_X10_296 rfl rfl rfl ?_
              refine gx_isub dX10_game_75 ?_
              refine gx_bipush (v := 24) dX10_game_76 (by decide) ?_
              refine gx_icmp_lt 84 dX10_game_78 (by decide) ⟨fun z => ?_, fun z => ?_⟩
              · replace h := h.1 z
                refine gx_aload_n 0 dX10_game_84 rfl rfl ?_
                refine gx_getr 10 8 (v := 23) dX10_game_85 fl_X10_71 rfl rfl rfl ?_
                refine gx_iconst (v := 0) dX10_game_88 (by decide) ?_
                refine gx_iconst (v := 0) dX10_game_89 (by decide) ?_
                refine gx_callV 7 (As := [.int 0, .int 0]) (st := []) dX10_game_90 ml_X10_319 mm_X7_lay rfl rfl rfl rfl rfl rfl ⟨rfl, rfl⟩ h (fun v h2 hq => ?_)
                clear h
                obtain ⟨I10, L11, c12, rfl, rfl, h⟩ := hq
                show Z_J_game g Q 93 [(0, .ref 0), (1, .int x1), (2, .int x2), (3, .int 1), (4, .int 0)] [] I10 L11 c12
                refine gx_aload_n 0 dX10_game_93 rfl rfl ?_
                refine gx_getr 10 9 (v := 29) dX10_game_94 fl_X10_80 rfl rfl rfl ?_
                refine gx_iconst (v := 0) dX10_game_97 (by decide) ?_
                refine gx_iload_n 1 dX10_game_98 rfl rfl ?_
                exact False.elim h
              · replace h := h.2 z
                refine gx_bipush (v := (-4)) dX10_game_81 (by decide) ?_
                exact gx_iret dX10_game_83 rfl rfl rfl ⟨_, _, _, _, rfl, rfl, h⟩
            · replace h := h.2 z
              refine gx_iconst (v := 1) dX10_game_42 (by decide) ?_
              refine gx_goto 47 dX10_game_43 (by decide) ?_
              refine gx_istore (lv' := [(0, .ref 0), (1, .int x1), (2, .int x2), (3, .int 1), (4, .int 1)]) dX10_game_47 rfl rfl ?_
              refine gx_iload_n 3 dX10_game_49 rfl rfl ?_
              refine gx_if_ne 61 dX10_game_50 (by decide) (br_f (by decide) ?_)
              refine gx_aload_n 0 dX10_game_61 rfl rfl ?_
              refine gx_getr 10 2 (v := 16) dX10_game_62 fl_X10_65 rfl rfl rfl ?_
              refine gx_geti 1 1 (v := (I 16 1)) dX10_game_65 fl_X10_299 rfl rfl rfl ?_
              refine gx_aload_n 0 dX10_game_68 rfl rfl ?_
              refine gx_getr 10 2 (v := 16) dX10_game_69 fl_X10_65 rfl rfl rfl ?_
              refine gx_geti 1 0 (v := (I 16 0)) dX10_game_72 fl_X10_296 rfl rfl rfl ?_
              refine gx_isub dX10_game_75 ?_
              refine gx_bipush (v := 24) dX10_game_76 (by decide) ?_
              refine gx_icmp_lt 84 dX10_game_78 (by decide) ⟨fun z => ?_, fun z => ?_⟩
              · replace h := h.1 z
                refine gx_aload_n 0 dX10_game_84 rfl rfl ?_
                refine gx_getr 10 8 (v := 23) dX10_game_85 fl_X10_71 rfl rfl rfl ?_
                refine gx_iconst (v := 0) dX10_game_88 (by decide) ?_
                refine gx_iconst (v := 0) dX10_game_89 (by decide) ?_
                refine gx_callV 7 (As := [.int 0, .int 0]) (st := []) dX10_game_90 ml_X10_319 mm_X7_lay rfl rfl rfl rfl rfl rfl ⟨rfl, rfl⟩ h (fun v h2 hq => ?_)
                clear h
                obtain ⟨I13, L14, c15, rfl, rfl, h⟩ := hq
                show Z_J_game g Q 93 [(0, .ref 0), (1, .int x1), (2, .int x2), (3, .int 1), (4, .int 1)] [] I13 L14 c15
                refine gx_aload_n 0 dX10_game_93 rfl rfl ?_
                refine gx_getr 10 9 (v := 29) dX10_game_94 fl_X10_80 rfl rfl rfl ?_
                refine gx_iconst (v := 0) dX10_game_97 (by decide) ?_
                refine gx_iload_n 1 dX10_game_98 rfl rfl ?_
                exact False.elim h
              · replace h := h.2 z
                refine gx_bipush (v := (-4)) dX10_game_81 (by decide) ?_
                exact gx_iret dX10_game_83 rfl rfl rfl ⟨_, _, _, _, rfl, rfl, h⟩
    · replace h := h.2 z
      refine gx_bipush (v := (-3)) dX10_game_10 (by decide) ?_
      exact gx_iret dX10_game_12 rfl rfl rfl ⟨_, _, _, _, rfl, rfl, h⟩
abbrev Z_J_game_1 (g : gm_G) (Q : Int32 → mI → mL → gm_cfg → Prop) (pc : Nat) (lv : List (Nat × Value)) (st : List Value) (I : mI) (L : mL) (c : gm_cfg) : Prop := gm_X g RX10 "game" cX10_game 5 (some .int) 7 0 0 (qI Q) 0 0 pc lv st (SH, I, L, RR c)
abbrev C_J_game_1 (g : gm_G) (x2 : Int32) (I : mI) (L : mL) (c : gm_cfg) (Q : Int32 → mI → mL → gm_cfg → Prop) : Prop := gm_Met g yX10_game cX10_game 5 (some .int) 7 0 0 [.ref 0, .int 1, .int x2] (SH, I, L, RR c) (qI Q)
set_option maxRecDepth 100000 in
theorem e_J_game_1 {g : gm_G} {Q : Int32 → mI → mL → gm_cfg → Prop} {x2 : Int32} {I : mI} {L : mL} {c : gm_cfg} (h : ((x2 < 0 → ((x2 < 10 → Q (-2) I L c) ∧ (¬ x2 < 10 → ((11 ≤ x2 → Q (-2) I L c) ∧ (¬ 11 ≤ x2 → ((((I 16 1) - (I 16 0)) < 24 → (C_Sr_lay g 0 0 I L c (fun I1 L2 c3 => (C_Wr_play_0_1 g I1 L2 c3 (fun I4 L5 c6 => (C_Wr_shareOf g (x2 - 10) 1 I4 L5 c6 (fun r10 I7 L8 c9 => Q (Int64.toInt32 r10) I7 L8 c9))))))) ∧ (¬ ((I 16 1) - (I 16 0)) < 24 → Q (-4) I L c))))))) ∧ (¬ x2 < 0 → ((1 ≤ x2 → ((x2 < 10 → Q (-2) I L c) ∧ (¬ x2 < 10 → ((11 ≤ x2 → Q (-2) I L c) ∧ (¬ 11 ≤ x2 → ((((I 16 1) - (I 16 0)) < 24 → (C_Sr_lay g 0 0 I L c (fun I11 L12 c13 => (C_Wr_play_0_1 g I11 L12 c13 (fun I14 L15 c16 => (C_Wr_shareOf g (x2 - 10) 1 I14 L15 c16 (fun r20 I17 L18 c19 => Q (Int64.toInt32 r20) I17 L18 c19))))))) ∧ (¬ ((I 16 1) - (I 16 0)) < 24 → Q (-4) I L c))))))) ∧ (¬ 1 ≤ x2 → ((x2 < 10 → ((((I 16 1) - (I 16 0)) < 24 → (C_Sr_lay g 0 0 I L c (fun I21 L22 c23 => (C_Wr_play_0_1 g I21 L22 c23 (fun I24 L25 c26 => (vp_in x2 3 ∧ Q (I24 30 (Int32.toNatClampNeg x2)) I24 L25 c26)))))) ∧ (¬ ((I 16 1) - (I 16 0)) < 24 → Q (-4) I L c))) ∧ (¬ x2 < 10 → ((11 ≤ x2 → ((((I 16 1) - (I 16 0)) < 24 → (C_Sr_lay g 0 0 I L c (fun I27 L28 c29 => (C_Wr_play_0_1 g I27 L28 c29 (fun I30 L31 c32 => (vp_in x2 3 ∧ Q (I30 30 (Int32.toNatClampNeg x2)) I30 L31 c32)))))) ∧ (¬ ((I 16 1) - (I 16 0)) < 24 → Q (-4) I L c))) ∧ (¬ 11 ≤ x2 → ((((I 16 1) - (I 16 0)) < 24 → (C_Sr_lay g 0 0 I L c (fun I33 L34 c35 => (C_Wr_play_0_1 g I33 L34 c35 (fun I36 L37 c38 => (vp_in x2 3 ∧ Q (I36 30 (Int32.toNatClampNeg x2)) I36 L37 c38)))))) ∧ (¬ ((I 16 1) - (I 16 0)) < 24 → Q (-4) I L c))))))))))) : C_J_game_1 g x2 I L c Q := by
  refine gm_enter (lv := [(0, .ref 0), (1, .int 1), (2, .int x2)]) (by decide) rfl rfl rfl rfl ?_
  show Z_J_game_1 g Q 0 [(0, .ref 0), (1, .int 1), (2, .int x2)] [] I L c
  refine gx_iload_n 1 dX10_game_0 rfl rfl ?_
  refine gx_iconst (v := 1) dX10_game_1 (by decide) ?_
  refine gx_icmp_lt 10 dX10_game_2 (by decide) (br_f (by decide) ?_)
  refine gx_iload_n 1 dX10_game_5 rfl rfl ?_
  refine gx_iconst (v := 3) dX10_game_6 (by decide) ?_
  refine gx_icmp_le 13 dX10_game_7 (by decide) (br_t (by decide) ?_)
  refine gx_iload_n 2 dX10_game_13 rfl rfl ?_
  refine gx_if_lt 26 dX10_game_14 (by decide) ⟨fun z => ?_, fun z => ?_⟩
  · replace h := h.1 z
    refine gx_iconst (v := 0) dX10_game_26 (by decide) ?_
    refine gx_istore_n (lv' := [(0, .ref 0), (1, .int 1), (2, .int x2), (3, .int 0)]) dX10_game_27 rfl rfl rfl ?_
    refine gx_iload_n 2 dX10_game_28 rfl rfl ?_
    refine gx_bipush (v := 10) dX10_game_29 (by decide) ?_
    refine gx_icmp_lt 46 dX10_game_31 (by decide) ⟨fun z => ?_, fun z => ?_⟩
    · replace h := h.1 z
      refine gx_iconst (v := 0) dX10_game_46 (by decide) ?_
      refine gx_istore (lv' := [(0, .ref 0), (1, .int 1), (2, .int x2), (3, .int 0), (4, .int 0)]) dX10_game_47 rfl rfl ?_
      refine gx_iload_n 3 dX10_game_49 rfl rfl ?_
      refine gx_if_ne 61 dX10_game_50 (by decide) (br_t (by decide) ?_)
      refine gx_iload 4 dX10_game_53 rfl ?_
      refine gx_if_ne 61 dX10_game_55 (by decide) (br_t (by decide) ?_)
      refine gx_bipush (v := (-2)) dX10_game_58 (by decide) ?_
      exact gx_iret dX10_game_60 rfl rfl rfl ⟨_, _, _, _, rfl, rfl, h⟩
    · replace h := h.2 z
      refine gx_iload_n 2 dX10_game_34 rfl rfl ?_
      refine gx_bipush (v := 10) dX10_game_35 (by decide) ?_
      refine gx_iload_n 1 dX10_game_37 rfl rfl ?_
      refine gx_iadd dX10_game_38 ?_
      show Z_J_game_1 g Q 39 [(0, .ref 0), (1, .int 1), (2, .int x2), (3, .int 0)] [.int 11, .int x2] I L c
      refine gx_icmp_ge 46 dX10_game_39 (by decide) ⟨fun z => ?_, fun z => ?_⟩
      · replace h := h.1 z
        refine gx_iconst (v := 0) dX10_game_46 (by decide) ?_
        refine gx_istore (lv' := [(0, .ref 0), (1, .int 1), (2, .int x2), (3, .int 0), (4, .int 0)]) dX10_game_47 rfl rfl ?_
        refine gx_iload_n 3 dX10_game_49 rfl rfl ?_
        refine gx_if_ne 61 dX10_game_50 (by decide) (br_t (by decide) ?_)
        refine gx_iload 4 dX10_game_53 rfl ?_
        refine gx_if_ne 61 dX10_game_55 (by decide) (br_t (by decide) ?_)
        refine gx_bipush (v := (-2)) dX10_game_58 (by decide) ?_
        exact gx_iret dX10_game_60 rfl rfl rfl ⟨_, _, _, _, rfl, rfl, h⟩
      · replace h := h.2 z
        refine gx_iconst (v := 1) dX10_game_42 (by decide) ?_
        refine gx_goto 47 dX10_game_43 (by decide) ?_
        refine gx_istore (lv' := [(0, .ref 0), (1, .int 1), (2, .int x2), (3, .int 0), (4, .int 1)]) dX10_game_47 rfl rfl ?_
        refine gx_iload_n 3 dX10_game_49 rfl rfl ?_
        refine gx_if_ne 61 dX10_game_50 (by decide) (br_t (by decide) ?_)
        refine gx_iload 4 dX10_game_53 rfl ?_
        refine gx_if_ne 61 dX10_game_55 (by decide) (br_f (by decide) ?_)
        refine gx_aload_n 0 dX10_game_61 rfl rfl ?_
        refine gx_getr 10 2 (v := 16) dX10_game_62 fl_X10_65 rfl rfl rfl ?_
        refine gx_geti 1 1 (v := (I 16 1)) dX10_game_65 fl_X10_299 rfl rfl rfl ?_
        refine gx_aload_n 0 dX10_game_68 rfl rfl ?_
        refine gx_getr 10 2 (v := 16) dX10_game_69 fl_X10_65 rfl rfl rfl ?_
        refine gx_geti 1 0 (v := (I 16 0)) dX10_game_72 fl_X10_296 rfl rfl rfl ?_
        refine gx_isub dX10_game_75 ?_
        refine gx_bipush (v := 24) dX10_game_76 (by decide) ?_
        refine gx_icmp_lt 84 dX10_game_78 (by decide) ⟨fun z => ?_, fun z => ?_⟩
        · replace h := h.1 z
          refine gx_aload_n 0 dX10_game_84 rfl rfl ?_
          refine gx_getr 10 8 (v := 23) dX10_game_85 fl_X10_71 rfl rfl rfl ?_
          refine gx_iconst (v := 0) dX10_game_88 (by decide) ?_
          refine gx_iconst (v := 0) dX10_game_89 (by decide) ?_
          refine gx_callV 7 (As := [.int 0, .int 0]) (st := []) dX10_game_90 ml_X10_319 mm_X7_lay rfl rfl rfl rfl rfl rfl ⟨rfl, rfl⟩ h (fun v h2 hq => ?_)
          clear h
          obtain ⟨I1, L2, c3, rfl, rfl, h⟩ := hq
          show Z_J_game_1 g Q 93 [(0, .ref 0), (1, .int 1), (2, .int x2), (3, .int 0), (4, .int 1)] [] I1 L2 c3
          refine gx_aload_n 0 dX10_game_93 rfl rfl ?_
          refine gx_getr 10 9 (v := 29) dX10_game_94 fl_X10_80 rfl rfl rfl ?_
          refine gx_iconst (v := 0) dX10_game_97 (by decide) ?_
          refine gx_iload_n 1 dX10_game_98 rfl rfl ?_
          refine gx_callV 9 (As := [.int 0, .int 1]) (st := []) dX10_game_99 ml_X10_322 mm_X9_play rfl rfl rfl rfl rfl rfl ⟨rfl, rfl⟩ h (fun v h2 hq => ?_)
          clear h
          obtain ⟨I4, L5, c6, rfl, rfl, h⟩ := hq
          show Z_J_game_1 g Q 102 [(0, .ref 0), (1, .int 1), (2, .int x2), (3, .int 0), (4, .int 1)] [] I4 L5 c6
          refine gx_iload_n 3 dX10_game_102 rfl rfl ?_
          refine gx_if_eq 118 dX10_game_103 (by decide) (br_t (by decide) ?_)
          refine gx_aload_n 0 dX10_game_118 rfl rfl ?_
          refine gx_getr 10 9 (v := 29) dX10_game_119 fl_X10_80 rfl rfl rfl ?_
          refine gx_iload_n 2 dX10_game_122 rfl rfl ?_
          refine gx_bipush (v := 10) dX10_game_123 (by decide) ?_
          refine gx_isub dX10_game_125 ?_
          refine gx_iload_n 1 dX10_game_126 rfl rfl ?_
          refine gx_callV 9 (As := [.int (x2 - 10), .int 1]) (st := []) dX10_game_127 ml_X10_328 mm_X9_shareOf rfl rfl rfl rfl rfl rfl ⟨rfl, rfl⟩ h (fun v h2 hq => ?_)
          clear h
          obtain ⟨r10, I7, L8, c9, rfl, rfl, h⟩ := hq
          show Z_J_game_1 g Q 130 [(0, .ref 0), (1, .int 1), (2, .int x2), (3, .int 0), (4, .int 1)] [.long r10] I7 L8 c9
          refine gx_l2i dX10_game_130 ?_
          exact gx_iret dX10_game_131 rfl rfl rfl ⟨_, _, _, _, rfl, rfl, h⟩
        · replace h := h.2 z
          refine gx_bipush (v := (-4)) dX10_game_81 (by decide) ?_
          exact gx_iret dX10_game_83 rfl rfl rfl ⟨_, _, _, _, rfl, rfl, h⟩
  · replace h := h.2 z
    refine gx_iload_n 2 dX10_game_17 rfl rfl ?_
    refine gx_iload_n 1 dX10_game_18 rfl rfl ?_
    refine gx_icmp_ge 26 dX10_game_19 (by decide) ⟨fun z => ?_, fun z => ?_⟩
    · replace h := h.1 z
      refine gx_iconst (v := 0) dX10_game_26 (by decide) ?_
      refine gx_istore_n (lv' := [(0, .ref 0), (1, .int 1), (2, .int x2), (3, .int 0)]) dX10_game_27 rfl rfl rfl ?_
      refine gx_iload_n 2 dX10_game_28 rfl rfl ?_
      refine gx_bipush (v := 10) dX10_game_29 (by decide) ?_
      refine gx_icmp_lt 46 dX10_game_31 (by decide) ⟨fun z => ?_, fun z => ?_⟩
      · replace h := h.1 z
        refine gx_iconst (v := 0) dX10_game_46 (by decide) ?_
        refine gx_istore (lv' := [(0, .ref 0), (1, .int 1), (2, .int x2), (3, .int 0), (4, .int 0)]) dX10_game_47 rfl rfl ?_
        refine gx_iload_n 3 dX10_game_49 rfl rfl ?_
        refine gx_if_ne 61 dX10_game_50 (by decide) (br_t (by decide) ?_)
        refine gx_iload 4 dX10_game_53 rfl ?_
        refine gx_if_ne 61 dX10_game_55 (by decide) (br_t (by decide) ?_)
        refine gx_bipush (v := (-2)) dX10_game_58 (by decide) ?_
        exact gx_iret dX10_game_60 rfl rfl rfl ⟨_, _, _, _, rfl, rfl, h⟩
      · replace h := h.2 z
        refine gx_iload_n 2 dX10_game_34 rfl rfl ?_
        refine gx_bipush (v := 10) dX10_game_35 (by decide) ?_
        refine gx_iload_n 1 dX10_game_37 rfl rfl ?_
        refine gx_iadd dX10_game_38 ?_
        show Z_J_game_1 g Q 39 [(0, .ref 0), (1, .int 1), (2, .int x2), (3, .int 0)] [.int 11, .int x2] I L c
        refine gx_icmp_ge 46 dX10_game_39 (by decide) ⟨fun z => ?_, fun z => ?_⟩
        · replace h := h.1 z
          refine gx_iconst (v := 0) dX10_game_46 (by decide) ?_
          refine gx_istore (lv' := [(0, .ref 0), (1, .int 1), (2, .int x2), (3, .int 0), (4, .int 0)]) dX10_game_47 rfl rfl ?_
          refine gx_iload_n 3 dX10_game_49 rfl rfl ?_
          refine gx_if_ne 61 dX10_game_50 (by decide) (br_t (by decide) ?_)
          refine gx_iload 4 dX10_game_53 rfl ?_
          refine gx_if_ne 61 dX10_game_55 (by decide) (br_t (by decide) ?_)
          refine gx_bipush (v := (-2)) dX10_game_58 (by decide) ?_
          exact gx_iret dX10_game_60 rfl rfl rfl ⟨_, _, _, _, rfl, rfl, h⟩
        · replace h := h.2 z
          refine gx_iconst (v := 1) dX10_game_42 (by decide) ?_
          refine gx_goto 47 dX10_game_43 (by decide) ?_
          refine gx_istore (lv' := [(0, .ref 0), (1, .int 1), (2, .int x2), (3, .int 0), (4, .int 1)]) dX10_game_47 rfl rfl ?_
          refine gx_iload_n 3 dX10_game_49 rfl rfl ?_
          refine gx_if_ne 61 dX10_game_50 (by decide) (br_t (by decide) ?_)
          refine gx_iload 4 dX10_game_53 rfl ?_
          refine gx_if_ne 61 dX10_game_55 (by decide) (br_f (by decide) ?_)
          refine gx_aload_n 0 dX10_game_61 rfl rfl ?_
          refine gx_getr 10 2 (v := 16) dX10_game_62 fl_X10_65 rfl rfl rfl ?_
          refine gx_geti 1 1 (v := (I 16 1)) dX10_game_65 fl_X10_299 rfl rfl rfl ?_
          refine gx_aload_n 0 dX10_game_68 rfl rfl ?_
          refine gx_getr 10 2 (v := 16) dX10_game_69 fl_X10_65 rfl rfl rfl ?_
          refine gx_geti 1 0 (v := (I 16 0)) dX10_game_72 fl_X10_296 rfl rfl rfl ?_
          refine gx_isub dX10_game_75 ?_
          refine gx_bipush (v := 24) dX10_game_76 (by decide) ?_
          refine gx_icmp_lt 84 dX10_game_78 (by decide) ⟨fun z => ?_, fun z => ?_⟩
          · replace h := h.1 z
            refine gx_aload_n 0 dX10_game_84 rfl rfl ?_
            refine gx_getr 10 8 (v := 23) dX10_game_85 fl_X10_71 rfl rfl rfl ?_
            refine gx_iconst (v := 0) dX10_game_88 (by decide) ?_
            refine gx_iconst (v := 0) dX10_game_89 (by decide) ?_
            refine gx_callV 7 (As := [.int 0, .int 0]) (st := []) dX10_game_90 ml_X10_319 mm_X7_lay rfl rfl rfl rfl rfl rfl ⟨rfl, rfl⟩ h (fun v h2 hq => ?_)
            clear h
            obtain ⟨I11, L12, c13, rfl, rfl, h⟩ := hq
            show Z_J_game_1 g Q 93 [(0, .ref 0), (1, .int 1), (2, .int x2), (3, .int 0), (4, .int 1)] [] I11 L12 c13
            refine gx_aload_n 0 dX10_game_93 rfl rfl ?_
            refine gx_getr 10 9 (v := 29) dX10_game_94 fl_X10_80 rfl rfl rfl ?_
            refine gx_iconst (v := 0) dX10_game_97 (by decide) ?_
            refine gx_iload_n 1 dX10_game_98 rfl rfl ?_
            refine gx_callV 9 (As := [.int 0, .int 1]) (st := []) dX10_game_99 ml_X10_322 mm_X9_play rfl rfl rfl rfl rfl rfl ⟨rfl, rfl⟩ h (fun v h2 hq => ?_)
            clear h
            obtain ⟨I14, L15, c16, rfl, rfl, h⟩ := hq
            show Z_J_game_1 g Q 102 [(0, .ref 0), (1, .int 1), (2, .int x2), (3, .int 0), (4, .int 1)] [] I14 L15 c16
            refine gx_iload_n 3 dX10_game_102 rfl rfl ?_
            refine gx_if_eq 118 dX10_game_103 (by decide) (br_t (by decide) ?_)
            refine gx_aload_n 0 dX10_game_118 rfl rfl ?_
            refine gx_getr 10 9 (v := 29) dX10_game_119 fl_X10_80 rfl rfl rfl ?_
            refine gx_iload_n 2 dX10_game_122 rfl rfl ?_
            refine gx_bipush (v := 10) dX10_game_123 (by decide) ?_
            refine gx_isub dX10_game_125 ?_
            refine gx_iload_n 1 dX10_game_126 rfl rfl ?_
            refine gx_callV 9 (As := [.int (x2 - 10), .int 1]) (st := []) dX10_game_127 ml_X10_328 mm_X9_shareOf rfl rfl rfl rfl rfl rfl ⟨rfl, rfl⟩ h (fun v h2 hq => ?_)
            clear h
            obtain ⟨r20, I17, L18, c19, rfl, rfl, h⟩ := hq
            show Z_J_game_1 g Q 130 [(0, .ref 0), (1, .int 1), (2, .int x2), (3, .int 0), (4, .int 1)] [.long r20] I17 L18 c19
            refine gx_l2i dX10_game_130 ?_
            exact gx_iret dX10_game_131 rfl rfl rfl ⟨_, _, _, _, rfl, rfl, h⟩
          · replace h := h.2 z
            refine gx_bipush (v := (-4)) dX10_game_81 (by decide) ?_
            exact gx_iret dX10_game_83 rfl rfl rfl ⟨_, _, _, _, rfl, rfl, h⟩
    · replace h := h.2 z
      refine gx_iconst (v := 1) dX10_game_22 (by decide) ?_
      refine gx_goto 27 dX10_game_23 (by decide) ?_
      refine gx_istore_n (lv' := [(0, .ref 0), (1, .int 1), (2, .int x2), (3, .int 1)]) dX10_game_27 rfl rfl rfl ?_
      refine gx_iload_n 2 dX10_game_28 rfl rfl ?_
      refine gx_bipush (v := 10) dX10_game_29 (by decide) ?_
      refine gx_icmp_lt 46 dX10_game_31 (by decide) ⟨fun z => ?_, fun z => ?_⟩
      · replace h := h.1 z
        refine gx_iconst (v := 0) dX10_game_46 (by decide) ?_
        refine gx_istore (lv' := [(0, .ref 0), (1, .int 1), (2, .int x2), (3, .int 1), (4, .int 0)]) dX10_game_47 rfl rfl ?_
        refine gx_iload_n 3 dX10_game_49 rfl rfl ?_
        refine gx_if_ne 61 dX10_game_50 (by decide) (br_f (by decide) ?_)
        refine gx_aload_n 0 dX10_game_61 rfl rfl ?_
        refine gx_getr 10 2 (v := 16) dX10_game_62 fl_X10_65 rfl rfl rfl ?_
        refine gx_geti 1 1 (v := (I 16 1)) dX10_game_65 fl_X10_299 rfl rfl rfl ?_
        refine gx_aload_n 0 dX10_game_68 rfl rfl ?_
        refine gx_getr 10 2 (v := 16) dX10_game_69 fl_X10_65 rfl rfl rfl ?_
        refine gx_geti 1 0 (v := (I 16 0)) dX10_game_72 fl_X10_296 rfl rfl rfl ?_
        refine gx_isub dX10_game_75 ?_
        refine gx_bipush (v := 24) dX10_game_76 (by decide) ?_
        refine gx_icmp_lt 84 dX10_game_78 (by decide) ⟨fun z => ?_, fun z => ?_⟩
        · replace h := h.1 z
          refine gx_aload_n 0 dX10_game_84 rfl rfl ?_
          refine gx_getr 10 8 (v := 23) dX10_game_85 fl_X10_71 rfl rfl rfl ?_
          refine gx_iconst (v := 0) dX10_game_88 (by decide) ?_
          refine gx_iconst (v := 0) dX10_game_89 (by decide) ?_
          refine gx_callV 7 (As := [.int 0, .int 0]) (st := []) dX10_game_90 ml_X10_319 mm_X7_lay rfl rfl rfl rfl rfl rfl ⟨rfl, rfl⟩ h (fun v h2 hq => ?_)
          clear h
          obtain ⟨I21, L22, c23, rfl, rfl, h⟩ := hq
          show Z_J_game_1 g Q 93 [(0, .ref 0), (1, .int 1), (2, .int x2), (3, .int 1), (4, .int 0)] [] I21 L22 c23
          refine gx_aload_n 0 dX10_game_93 rfl rfl ?_
          refine gx_getr 10 9 (v := 29) dX10_game_94 fl_X10_80 rfl rfl rfl ?_
          refine gx_iconst (v := 0) dX10_game_97 (by decide) ?_
          refine gx_iload_n 1 dX10_game_98 rfl rfl ?_
          refine gx_callV 9 (As := [.int 0, .int 1]) (st := []) dX10_game_99 ml_X10_322 mm_X9_play rfl rfl rfl rfl rfl rfl ⟨rfl, rfl⟩ h (fun v h2 hq => ?_)
          clear h
          obtain ⟨I24, L25, c26, rfl, rfl, h⟩ := hq
          show Z_J_game_1 g Q 102 [(0, .ref 0), (1, .int 1), (2, .int x2), (3, .int 1), (4, .int 0)] [] I24 L25 c26
          refine gx_iload_n 3 dX10_game_102 rfl rfl ?_
          refine gx_if_eq 118 dX10_game_103 (by decide) (br_f (by decide) ?_)
          refine gx_aload_n 0 dX10_game_106 rfl rfl ?_
          refine gx_getr 10 9 (v := 29) dX10_game_107 fl_X10_80 rfl rfl rfl ?_
          refine gx_getr 9 0 (v := 30) dX10_game_110 fl_X10_325 rfl rfl rfl ?_
          refine gx_iload_n 2 dX10_game_113 rfl rfl ?_
          obtain ⟨hi, h⟩ := h
          refine gx_iald (v := (I24 30 (Int32.toNatClampNeg x2))) dX10_game_114 rfl rfl hi (k := (Int32.toNatClampNeg x2)) rfl rfl ?_
          refine gx_goto 131 dX10_game_115 (by decide) ?_
          exact gx_iret dX10_game_131 rfl rfl rfl ⟨_, _, _, _, rfl, rfl, h⟩
        · replace h := h.2 z
          refine gx_bipush (v := (-4)) dX10_game_81 (by decide) ?_
          exact gx_iret dX10_game_83 rfl rfl rfl ⟨_, _, _, _, rfl, rfl, h⟩
      · replace h := h.2 z
        refine gx_iload_n 2 dX10_game_34 rfl rfl ?_
        refine gx_bipush (v := 10) dX10_game_35 (by decide) ?_
        refine gx_iload_n 1 dX10_game_37 rfl rfl ?_
        refine gx_iadd dX10_game_38 ?_
        show Z_J_game_1 g Q 39 [(0, .ref 0), (1, .int 1), (2, .int x2), (3, .int 1)] [.int 11, .int x2] I L c
        refine gx_icmp_ge 46 dX10_game_39 (by decide) ⟨fun z => ?_, fun z => ?_⟩
        · replace h := h.1 z
          refine gx_iconst (v := 0) dX10_game_46 (by decide) ?_
          refine gx_istore (lv' := [(0, .ref 0), (1, .int 1), (2, .int x2), (3, .int 1), (4, .int 0)]) dX10_game_47 rfl rfl ?_
          refine gx_iload_n 3 dX10_game_49 rfl rfl ?_
          refine gx_if_ne 61 dX10_game_50 (by decide) (br_f (by decide) ?_)
          refine gx_aload_n 0 dX10_game_61 rfl rfl ?_
          refine gx_getr 10 2 (v := 16) dX10_game_62 fl_X10_65 rfl rfl rfl ?_
          refine gx_geti 1 1 (v := (I 16 1)) dX10_game_65 fl_X10_299 rfl rfl rfl ?_
          refine gx_aload_n 0 dX10_game_68 rfl rfl ?_
          refine gx_getr 10 2 (v := 16) dX10_game_69 fl_X10_65 rfl rfl rfl ?_
          refine gx_geti 1 0 (v := (I 16 0)) dX10_game_72 fl_X10_296 rfl rfl rfl ?_
          refine gx_isub dX10_game_75 ?_
          refine gx_bipush (v := 24) dX10_game_76 (by decide) ?_
          refine gx_icmp_lt 84 dX10_game_78 (by decide) ⟨fun z => ?_, fun z => ?_⟩
          · replace h := h.1 z
            refine gx_aload_n 0 dX10_game_84 rfl rfl ?_
            refine gx_getr 10 8 (v := 23) dX10_game_85 fl_X10_71 rfl rfl rfl ?_
            refine gx_iconst (v := 0) dX10_game_88 (by decide) ?_
            refine gx_iconst (v := 0) dX10_game_89 (by decide) ?_
            refine gx_callV 7 (As := [.int 0, .int 0]) (st := []) dX10_game_90 ml_X10_319 mm_X7_lay rfl rfl rfl rfl rfl rfl ⟨rfl, rfl⟩ h (fun v h2 hq => ?_)
            clear h
            obtain ⟨I27, L28, c29, rfl, rfl, h⟩ := hq
            show Z_J_game_1 g Q 93 [(0, .ref 0), (1, .int 1), (2, .int x2), (3, .int 1), (4, .int 0)] [] I27 L28 c29
            refine gx_aload_n 0 dX10_game_93 rfl rfl ?_
            refine gx_getr 10 9 (v := 29) dX10_game_94 fl_X10_80 rfl rfl rfl ?_
            refine gx_iconst (v := 0) dX10_game_97 (by decide) ?_
            refine gx_iload_n 1 dX10_game_98 rfl rfl ?_
            refine gx_callV 9 (As := [.int 0, .int 1]) (st := []) dX10_game_99 ml_X10_322 mm_X9_play rfl rfl rfl rfl rfl rfl ⟨rfl, rfl⟩ h (fun v h2 hq => ?_)
            clear h
            obtain ⟨I30, L31, c32, rfl, rfl, h⟩ := hq
            show Z_J_game_1 g Q 102 [(0, .ref 0), (1, .int 1), (2, .int x2), (3, .int 1), (4, .int 0)] [] I30 L31 c32
            refine gx_iload_n 3 dX10_game_102 rfl rfl ?_
            refine gx_if_eq 118 dX10_game_103 (by decide) (br_f (by decide) ?_)
            refine gx_aload_n 0 dX10_game_106 rfl rfl ?_
            refine gx_getr 10 9 (v := 29) dX10_game_107 fl_X10_80 rfl rfl rfl ?_
            refine gx_getr 9 0 (v := 30) dX10_game_110 fl_X10_325 rfl rfl rfl ?_
            refine gx_iload_n 2 dX10_game_113 rfl rfl ?_
            obtain ⟨hi, h⟩ := h
            refine gx_iald (v := (I30 30 (Int32.toNatClampNeg x2))) dX10_game_114 rfl rfl hi (k := (Int32.toNatClampNeg x2)) rfl rfl ?_
            refine gx_goto 131 dX10_game_115 (by decide) ?_
            exact gx_iret dX10_game_131 rfl rfl rfl ⟨_, _, _, _, rfl, rfl, h⟩
          · replace h := h.2 z
            refine gx_bipush (v := (-4)) dX10_game_81 (by decide) ?_
            exact gx_iret dX10_game_83 rfl rfl rfl ⟨_, _, _, _, rfl, rfl, h⟩
        · replace h := h.2 z
          refine gx_iconst (v := 1) dX10_game_42 (by decide) ?_
          refine gx_goto 47 dX10_game_43 (by decide) ?_
          refine gx_istore (lv' := [(0, .ref 0), (1, .int 1), (2, .int x2), (3, .int 1), (4, .int 1)]) dX10_game_47 rfl rfl ?_
          refine gx_iload_n 3 dX10_game_49 rfl rfl ?_
          refine gx_if_ne 61 dX10_game_50 (by decide) (br_f (by decide) ?_)
          refine gx_aload_n 0 dX10_game_61 rfl rfl ?_
          refine gx_getr 10 2 (v := 16) dX10_game_62 fl_X10_65 rfl rfl rfl ?_
          refine gx_geti 1 1 (v := (I 16 1)) dX10_game_65 fl_X10_299 rfl rfl rfl ?_
          refine gx_aload_n 0 dX10_game_68 rfl rfl ?_
          refine gx_getr 10 2 (v := 16) dX10_game_69 fl_X10_65 rfl rfl rfl ?_
          refine gx_geti 1 0 (v := (I 16 0)) dX10_game_72 fl_X10_296 rfl rfl rfl ?_
          refine gx_isub dX10_game_75 ?_
          refine gx_bipush (v := 24) dX10_game_76 (by decide) ?_
          refine gx_icmp_lt 84 dX10_game_78 (by decide) ⟨fun z => ?_, fun z => ?_⟩
          · replace h := h.1 z
            refine gx_aload_n 0 dX10_game_84 rfl rfl ?_
            refine gx_getr 10 8 (v := 23) dX10_game_85 fl_X10_71 rfl rfl rfl ?_
            refine gx_iconst (v := 0) dX10_game_88 (by decide) ?_
            refine gx_iconst (v := 0) dX10_game_89 (by decide) ?_
            refine gx_callV 7 (As := [.int 0, .int 0]) (st := []) dX10_game_90 ml_X10_319 mm_X7_lay rfl rfl rfl rfl rfl rfl ⟨rfl, rfl⟩ h (fun v h2 hq => ?_)
            clear h
            obtain ⟨I33, L34, c35, rfl, rfl, h⟩ := hq
            show Z_J_game_1 g Q 93 [(0, .ref 0), (1, .int 1), (2, .int x2), (3, .int 1), (4, .int 1)] [] I33 L34 c35
            refine gx_aload_n 0 dX10_game_93 rfl rfl ?_
            refine gx_getr 10 9 (v := 29) dX10_game_94 fl_X10_80 rfl rfl rfl ?_
            refine gx_iconst (v := 0) dX10_game_97 (by decide) ?_
            refine gx_iload_n 1 dX10_game_98 rfl rfl ?_
            refine gx_callV 9 (As := [.int 0, .int 1]) (st := []) dX10_game_99 ml_X10_322 mm_X9_play rfl rfl rfl rfl rfl rfl ⟨rfl, rfl⟩ h (fun v h2 hq => ?_)
            clear h
            obtain ⟨I36, L37, c38, rfl, rfl, h⟩ := hq
            show Z_J_game_1 g Q 102 [(0, .ref 0), (1, .int 1), (2, .int x2), (3, .int 1), (4, .int 1)] [] I36 L37 c38
            refine gx_iload_n 3 dX10_game_102 rfl rfl ?_
            refine gx_if_eq 118 dX10_game_103 (by decide) (br_f (by decide) ?_)
            refine gx_aload_n 0 dX10_game_106 rfl rfl ?_
            refine gx_getr 10 9 (v := 29) dX10_game_107 fl_X10_80 rfl rfl rfl ?_
            refine gx_getr 9 0 (v := 30) dX10_game_110 fl_X10_325 rfl rfl rfl ?_
            refine gx_iload_n 2 dX10_game_113 rfl rfl ?_
            obtain ⟨hi, h⟩ := h
            refine gx_iald (v := (I36 30 (Int32.toNatClampNeg x2))) dX10_game_114 rfl rfl hi (k := (Int32.toNatClampNeg x2)) rfl rfl ?_
            refine gx_goto 131 dX10_game_115 (by decide) ?_
            exact gx_iret dX10_game_131 rfl rfl rfl ⟨_, _, _, _, rfl, rfl, h⟩
          · replace h := h.2 z
            refine gx_bipush (v := (-4)) dX10_game_81 (by decide) ?_
            exact gx_iret dX10_game_83 rfl rfl rfl ⟨_, _, _, _, rfl, rfl, h⟩
abbrev Z_J_game_2 (g : gm_G) (Q : Int32 → mI → mL → gm_cfg → Prop) (pc : Nat) (lv : List (Nat × Value)) (st : List Value) (I : mI) (L : mL) (c : gm_cfg) : Prop := gm_X g RX10 "game" cX10_game 5 (some .int) 7 0 0 (qI Q) 0 0 pc lv st (SH, I, L, RR c)
abbrev C_J_game_2 (g : gm_G) (x2 : Int32) (I : mI) (L : mL) (c : gm_cfg) (Q : Int32 → mI → mL → gm_cfg → Prop) : Prop := gm_Met g yX10_game cX10_game 5 (some .int) 7 0 0 [.ref 0, .int 2, .int x2] (SH, I, L, RR c) (qI Q)
set_option maxRecDepth 100000 in
theorem e_J_game_2 {g : gm_G} {Q : Int32 → mI → mL → gm_cfg → Prop} {x2 : Int32} {I : mI} {L : mL} {c : gm_cfg} (h : ((x2 < 0 → ((x2 < 10 → Q (-2) I L c) ∧ (¬ x2 < 10 → ((12 ≤ x2 → Q (-2) I L c) ∧ (¬ 12 ≤ x2 → ((((I 16 1) - (I 16 0)) < 24 → (C_Sr_lay g 0 0 I L c (fun I1 L2 c3 => (C_Wr_play_0_2 g I1 L2 c3 (fun I4 L5 c6 => (C_Wr_shareOf g (x2 - 10) 2 I4 L5 c6 (fun r10 I7 L8 c9 => Q (Int64.toInt32 r10) I7 L8 c9))))))) ∧ (¬ ((I 16 1) - (I 16 0)) < 24 → Q (-4) I L c))))))) ∧ (¬ x2 < 0 → ((2 ≤ x2 → ((x2 < 10 → Q (-2) I L c) ∧ (¬ x2 < 10 → ((12 ≤ x2 → Q (-2) I L c) ∧ (¬ 12 ≤ x2 → ((((I 16 1) - (I 16 0)) < 24 → (C_Sr_lay g 0 0 I L c (fun I11 L12 c13 => (C_Wr_play_0_2 g I11 L12 c13 (fun I14 L15 c16 => (C_Wr_shareOf g (x2 - 10) 2 I14 L15 c16 (fun r20 I17 L18 c19 => Q (Int64.toInt32 r20) I17 L18 c19))))))) ∧ (¬ ((I 16 1) - (I 16 0)) < 24 → Q (-4) I L c))))))) ∧ (¬ 2 ≤ x2 → ((x2 < 10 → ((((I 16 1) - (I 16 0)) < 24 → (C_Sr_lay g 0 0 I L c (fun I21 L22 c23 => (C_Wr_play_0_2 g I21 L22 c23 (fun I24 L25 c26 => (vp_in x2 3 ∧ Q (I24 30 (Int32.toNatClampNeg x2)) I24 L25 c26)))))) ∧ (¬ ((I 16 1) - (I 16 0)) < 24 → Q (-4) I L c))) ∧ (¬ x2 < 10 → ((12 ≤ x2 → ((((I 16 1) - (I 16 0)) < 24 → (C_Sr_lay g 0 0 I L c (fun I27 L28 c29 => (C_Wr_play_0_2 g I27 L28 c29 (fun I30 L31 c32 => (vp_in x2 3 ∧ Q (I30 30 (Int32.toNatClampNeg x2)) I30 L31 c32)))))) ∧ (¬ ((I 16 1) - (I 16 0)) < 24 → Q (-4) I L c))) ∧ (¬ 12 ≤ x2 → ((((I 16 1) - (I 16 0)) < 24 → (C_Sr_lay g 0 0 I L c (fun I33 L34 c35 => (C_Wr_play_0_2 g I33 L34 c35 (fun I36 L37 c38 => (vp_in x2 3 ∧ Q (I36 30 (Int32.toNatClampNeg x2)) I36 L37 c38)))))) ∧ (¬ ((I 16 1) - (I 16 0)) < 24 → Q (-4) I L c))))))))))) : C_J_game_2 g x2 I L c Q := by
  refine gm_enter (lv := [(0, .ref 0), (1, .int 2), (2, .int x2)]) (by decide) rfl rfl rfl rfl ?_
  show Z_J_game_2 g Q 0 [(0, .ref 0), (1, .int 2), (2, .int x2)] [] I L c
  refine gx_iload_n 1 dX10_game_0 rfl rfl ?_
  refine gx_iconst (v := 1) dX10_game_1 (by decide) ?_
  refine gx_icmp_lt 10 dX10_game_2 (by decide) (br_f (by decide) ?_)
  refine gx_iload_n 1 dX10_game_5 rfl rfl ?_
  refine gx_iconst (v := 3) dX10_game_6 (by decide) ?_
  refine gx_icmp_le 13 dX10_game_7 (by decide) (br_t (by decide) ?_)
  refine gx_iload_n 2 dX10_game_13 rfl rfl ?_
  refine gx_if_lt 26 dX10_game_14 (by decide) ⟨fun z => ?_, fun z => ?_⟩
  · replace h := h.1 z
    refine gx_iconst (v := 0) dX10_game_26 (by decide) ?_
    refine gx_istore_n (lv' := [(0, .ref 0), (1, .int 2), (2, .int x2), (3, .int 0)]) dX10_game_27 rfl rfl rfl ?_
    refine gx_iload_n 2 dX10_game_28 rfl rfl ?_
    refine gx_bipush (v := 10) dX10_game_29 (by decide) ?_
    refine gx_icmp_lt 46 dX10_game_31 (by decide) ⟨fun z => ?_, fun z => ?_⟩
    · replace h := h.1 z
      refine gx_iconst (v := 0) dX10_game_46 (by decide) ?_
      refine gx_istore (lv' := [(0, .ref 0), (1, .int 2), (2, .int x2), (3, .int 0), (4, .int 0)]) dX10_game_47 rfl rfl ?_
      refine gx_iload_n 3 dX10_game_49 rfl rfl ?_
      refine gx_if_ne 61 dX10_game_50 (by decide) (br_t (by decide) ?_)
      refine gx_iload 4 dX10_game_53 rfl ?_
      refine gx_if_ne 61 dX10_game_55 (by decide) (br_t (by decide) ?_)
      refine gx_bipush (v := (-2)) dX10_game_58 (by decide) ?_
      exact gx_iret dX10_game_60 rfl rfl rfl ⟨_, _, _, _, rfl, rfl, h⟩
    · replace h := h.2 z
      refine gx_iload_n 2 dX10_game_34 rfl rfl ?_
      refine gx_bipush (v := 10) dX10_game_35 (by decide) ?_
      refine gx_iload_n 1 dX10_game_37 rfl rfl ?_
      refine gx_iadd dX10_game_38 ?_
      show Z_J_game_2 g Q 39 [(0, .ref 0), (1, .int 2), (2, .int x2), (3, .int 0)] [.int 12, .int x2] I L c
      refine gx_icmp_ge 46 dX10_game_39 (by decide) ⟨fun z => ?_, fun z => ?_⟩
      · replace h := h.1 z
        refine gx_iconst (v := 0) dX10_game_46 (by decide) ?_
        refine gx_istore (lv' := [(0, .ref 0), (1, .int 2), (2, .int x2), (3, .int 0), (4, .int 0)]) dX10_game_47 rfl rfl ?_
        refine gx_iload_n 3 dX10_game_49 rfl rfl ?_
        refine gx_if_ne 61 dX10_game_50 (by decide) (br_t (by decide) ?_)
        refine gx_iload 4 dX10_game_53 rfl ?_
        refine gx_if_ne 61 dX10_game_55 (by decide) (br_t (by decide) ?_)
        refine gx_bipush (v := (-2)) dX10_game_58 (by decide) ?_
        exact gx_iret dX10_game_60 rfl rfl rfl ⟨_, _, _, _, rfl, rfl, h⟩
      · replace h := h.2 z
        refine gx_iconst (v := 1) dX10_game_42 (by decide) ?_
        refine gx_goto 47 dX10_game_43 (by decide) ?_
        refine gx_istore (lv' := [(0, .ref 0), (1, .int 2), (2, .int x2), (3, .int 0), (4, .int 1)]) dX10_game_47 rfl rfl ?_
        refine gx_iload_n 3 dX10_game_49 rfl rfl ?_
        refine gx_if_ne 61 dX10_game_50 (by decide) (br_t (by decide) ?_)
        refine gx_iload 4 dX10_game_53 rfl ?_
        refine gx_if_ne 61 dX10_game_55 (by decide) (br_f (by decide) ?_)
        refine gx_aload_n 0 dX10_game_61 rfl rfl ?_
        refine gx_getr 10 2 (v := 16) dX10_game_62 fl_X10_65 rfl rfl rfl ?_
        refine gx_geti 1 1 (v := (I 16 1)) dX10_game_65 fl_X10_299 rfl rfl rfl ?_
        refine gx_aload_n 0 dX10_game_68 rfl rfl ?_
        refine gx_getr 10 2 (v := 16) dX10_game_69 fl_X10_65 rfl rfl rfl ?_
        refine gx_geti 1 0 (v := (I 16 0)) dX10_game_72 fl_X10_296 rfl rfl rfl ?_
        refine gx_isub dX10_game_75 ?_
        refine gx_bipush (v := 24) dX10_game_76 (by decide) ?_
        refine gx_icmp_lt 84 dX10_game_78 (by decide) ⟨fun z => ?_, fun z => ?_⟩
        · replace h := h.1 z
          refine gx_aload_n 0 dX10_game_84 rfl rfl ?_
          refine gx_getr 10 8 (v := 23) dX10_game_85 fl_X10_71 rfl rfl rfl ?_
          refine gx_iconst (v := 0) dX10_game_88 (by decide) ?_
          refine gx_iconst (v := 0) dX10_game_89 (by decide) ?_
          refine gx_callV 7 (As := [.int 0, .int 0]) (st := []) dX10_game_90 ml_X10_319 mm_X7_lay rfl rfl rfl rfl rfl rfl ⟨rfl, rfl⟩ h (fun v h2 hq => ?_)
          clear h
          obtain ⟨I1, L2, c3, rfl, rfl, h⟩ := hq
          show Z_J_game_2 g Q 93 [(0, .ref 0), (1, .int 2), (2, .int x2), (3, .int 0), (4, .int 1)] [] I1 L2 c3
          refine gx_aload_n 0 dX10_game_93 rfl rfl ?_
          refine gx_getr 10 9 (v := 29) dX10_game_94 fl_X10_80 rfl rfl rfl ?_
          refine gx_iconst (v := 0) dX10_game_97 (by decide) ?_
          refine gx_iload_n 1 dX10_game_98 rfl rfl ?_
          refine gx_callV 9 (As := [.int 0, .int 2]) (st := []) dX10_game_99 ml_X10_322 mm_X9_play rfl rfl rfl rfl rfl rfl ⟨rfl, rfl⟩ h (fun v h2 hq => ?_)
          clear h
          obtain ⟨I4, L5, c6, rfl, rfl, h⟩ := hq
          show Z_J_game_2 g Q 102 [(0, .ref 0), (1, .int 2), (2, .int x2), (3, .int 0), (4, .int 1)] [] I4 L5 c6
          refine gx_iload_n 3 dX10_game_102 rfl rfl ?_
          refine gx_if_eq 118 dX10_game_103 (by decide) (br_t (by decide) ?_)
          refine gx_aload_n 0 dX10_game_118 rfl rfl ?_
          refine gx_getr 10 9 (v := 29) dX10_game_119 fl_X10_80 rfl rfl rfl ?_
          refine gx_iload_n 2 dX10_game_122 rfl rfl ?_
          refine gx_bipush (v := 10) dX10_game_123 (by decide) ?_
          refine gx_isub dX10_game_125 ?_
          refine gx_iload_n 1 dX10_game_126 rfl rfl ?_
          refine gx_callV 9 (As := [.int (x2 - 10), .int 2]) (st := []) dX10_game_127 ml_X10_328 mm_X9_shareOf rfl rfl rfl rfl rfl rfl ⟨rfl, rfl⟩ h (fun v h2 hq => ?_)
          clear h
          obtain ⟨r10, I7, L8, c9, rfl, rfl, h⟩ := hq
          show Z_J_game_2 g Q 130 [(0, .ref 0), (1, .int 2), (2, .int x2), (3, .int 0), (4, .int 1)] [.long r10] I7 L8 c9
          refine gx_l2i dX10_game_130 ?_
          exact gx_iret dX10_game_131 rfl rfl rfl ⟨_, _, _, _, rfl, rfl, h⟩
        · replace h := h.2 z
          refine gx_bipush (v := (-4)) dX10_game_81 (by decide) ?_
          exact gx_iret dX10_game_83 rfl rfl rfl ⟨_, _, _, _, rfl, rfl, h⟩
  · replace h := h.2 z
    refine gx_iload_n 2 dX10_game_17 rfl rfl ?_
    refine gx_iload_n 1 dX10_game_18 rfl rfl ?_
    refine gx_icmp_ge 26 dX10_game_19 (by decide) ⟨fun z => ?_, fun z => ?_⟩
    · replace h := h.1 z
      refine gx_iconst (v := 0) dX10_game_26 (by decide) ?_
      refine gx_istore_n (lv' := [(0, .ref 0), (1, .int 2), (2, .int x2), (3, .int 0)]) dX10_game_27 rfl rfl rfl ?_
      refine gx_iload_n 2 dX10_game_28 rfl rfl ?_
      refine gx_bipush (v := 10) dX10_game_29 (by decide) ?_
      refine gx_icmp_lt 46 dX10_game_31 (by decide) ⟨fun z => ?_, fun z => ?_⟩
      · replace h := h.1 z
        refine gx_iconst (v := 0) dX10_game_46 (by decide) ?_
        refine gx_istore (lv' := [(0, .ref 0), (1, .int 2), (2, .int x2), (3, .int 0), (4, .int 0)]) dX10_game_47 rfl rfl ?_
        refine gx_iload_n 3 dX10_game_49 rfl rfl ?_
        refine gx_if_ne 61 dX10_game_50 (by decide) (br_t (by decide) ?_)
        refine gx_iload 4 dX10_game_53 rfl ?_
        refine gx_if_ne 61 dX10_game_55 (by decide) (br_t (by decide) ?_)
        refine gx_bipush (v := (-2)) dX10_game_58 (by decide) ?_
        exact gx_iret dX10_game_60 rfl rfl rfl ⟨_, _, _, _, rfl, rfl, h⟩
      · replace h := h.2 z
        refine gx_iload_n 2 dX10_game_34 rfl rfl ?_
        refine gx_bipush (v := 10) dX10_game_35 (by decide) ?_
        refine gx_iload_n 1 dX10_game_37 rfl rfl ?_
        refine gx_iadd dX10_game_38 ?_
        show Z_J_game_2 g Q 39 [(0, .ref 0), (1, .int 2), (2, .int x2), (3, .int 0)] [.int 12, .int x2] I L c
        refine gx_icmp_ge 46 dX10_game_39 (by decide) ⟨fun z => ?_, fun z => ?_⟩
        · replace h := h.1 z
          refine gx_iconst (v := 0) dX10_game_46 (by decide) ?_
          refine gx_istore (lv' := [(0, .ref 0), (1, .int 2), (2, .int x2), (3, .int 0), (4, .int 0)]) dX10_game_47 rfl rfl ?_
          refine gx_iload_n 3 dX10_game_49 rfl rfl ?_
          refine gx_if_ne 61 dX10_game_50 (by decide) (br_t (by decide) ?_)
          refine gx_iload 4 dX10_game_53 rfl ?_
          refine gx_if_ne 61 dX10_game_55 (by decide) (br_t (by decide) ?_)
          refine gx_bipush (v := (-2)) dX10_game_58 (by decide) ?_
          exact gx_iret dX10_game_60 rfl rfl rfl ⟨_, _, _, _, rfl, rfl, h⟩
        · replace h := h.2 z
          refine gx_iconst (v := 1) dX10_game_42 (by decide) ?_
          refine gx_goto 47 dX10_game_43 (by decide) ?_
          refine gx_istore (lv' := [(0, .ref 0), (1, .int 2), (2, .int x2), (3, .int 0), (4, .int 1)]) dX10_game_47 rfl rfl ?_
          refine gx_iload_n 3 dX10_game_49 rfl rfl ?_
          refine gx_if_ne 61 dX10_game_50 (by decide) (br_t (by decide) ?_)
          refine gx_iload 4 dX10_game_53 rfl ?_
          refine gx_if_ne 61 dX10_game_55 (by decide) (br_f (by decide) ?_)
          refine gx_aload_n 0 dX10_game_61 rfl rfl ?_
          refine gx_getr 10 2 (v := 16) dX10_game_62 fl_X10_65 rfl rfl rfl ?_
          refine gx_geti 1 1 (v := (I 16 1)) dX10_game_65 fl_X10_299 rfl rfl rfl ?_
          refine gx_aload_n 0 dX10_game_68 rfl rfl ?_
          refine gx_getr 10 2 (v := 16) dX10_game_69 fl_X10_65 rfl rfl rfl ?_
          refine gx_geti 1 0 (v := (I 16 0)) dX10_game_72 fl_X10_296 rfl rfl rfl ?_
          refine gx_isub dX10_game_75 ?_
          refine gx_bipush (v := 24) dX10_game_76 (by decide) ?_
          refine gx_icmp_lt 84 dX10_game_78 (by decide) ⟨fun z => ?_, fun z => ?_⟩
          · replace h := h.1 z
            refine gx_aload_n 0 dX10_game_84 rfl rfl ?_
            refine gx_getr 10 8 (v := 23) dX10_game_85 fl_X10_71 rfl rfl rfl ?_
            refine gx_iconst (v := 0) dX10_game_88 (by decide) ?_
            refine gx_iconst (v := 0) dX10_game_89 (by decide) ?_
            refine gx_callV 7 (As := [.int 0, .int 0]) (st := []) dX10_game_90 ml_X10_319 mm_X7_lay rfl rfl rfl rfl rfl rfl ⟨rfl, rfl⟩ h (fun v h2 hq => ?_)
            clear h
            obtain ⟨I11, L12, c13, rfl, rfl, h⟩ := hq
            show Z_J_game_2 g Q 93 [(0, .ref 0), (1, .int 2), (2, .int x2), (3, .int 0), (4, .int 1)] [] I11 L12 c13
            refine gx_aload_n 0 dX10_game_93 rfl rfl ?_
            refine gx_getr 10 9 (v := 29) dX10_game_94 fl_X10_80 rfl rfl rfl ?_
            refine gx_iconst (v := 0) dX10_game_97 (by decide) ?_
            refine gx_iload_n 1 dX10_game_98 rfl rfl ?_
            refine gx_callV 9 (As := [.int 0, .int 2]) (st := []) dX10_game_99 ml_X10_322 mm_X9_play rfl rfl rfl rfl rfl rfl ⟨rfl, rfl⟩ h (fun v h2 hq => ?_)
            clear h
            obtain ⟨I14, L15, c16, rfl, rfl, h⟩ := hq
            show Z_J_game_2 g Q 102 [(0, .ref 0), (1, .int 2), (2, .int x2), (3, .int 0), (4, .int 1)] [] I14 L15 c16
            refine gx_iload_n 3 dX10_game_102 rfl rfl ?_
            refine gx_if_eq 118 dX10_game_103 (by decide) (br_t (by decide) ?_)
            refine gx_aload_n 0 dX10_game_118 rfl rfl ?_
            refine gx_getr 10 9 (v := 29) dX10_game_119 fl_X10_80 rfl rfl rfl ?_
            refine gx_iload_n 2 dX10_game_122 rfl rfl ?_
            refine gx_bipush (v := 10) dX10_game_123 (by decide) ?_
            refine gx_isub dX10_game_125 ?_
            refine gx_iload_n 1 dX10_game_126 rfl rfl ?_
            refine gx_callV 9 (As := [.int (x2 - 10), .int 2]) (st := []) dX10_game_127 ml_X10_328 mm_X9_shareOf rfl rfl rfl rfl rfl rfl ⟨rfl, rfl⟩ h (fun v h2 hq => ?_)
            clear h
            obtain ⟨r20, I17, L18, c19, rfl, rfl, h⟩ := hq
            show Z_J_game_2 g Q 130 [(0, .ref 0), (1, .int 2), (2, .int x2), (3, .int 0), (4, .int 1)] [.long r20] I17 L18 c19
            refine gx_l2i dX10_game_130 ?_
            exact gx_iret dX10_game_131 rfl rfl rfl ⟨_, _, _, _, rfl, rfl, h⟩
          · replace h := h.2 z
            refine gx_bipush (v := (-4)) dX10_game_81 (by decide) ?_
            exact gx_iret dX10_game_83 rfl rfl rfl ⟨_, _, _, _, rfl, rfl, h⟩
    · replace h := h.2 z
      refine gx_iconst (v := 1) dX10_game_22 (by decide) ?_
      refine gx_goto 27 dX10_game_23 (by decide) ?_
      refine gx_istore_n (lv' := [(0, .ref 0), (1, .int 2), (2, .int x2), (3, .int 1)]) dX10_game_27 rfl rfl rfl ?_
      refine gx_iload_n 2 dX10_game_28 rfl rfl ?_
      refine gx_bipush (v := 10) dX10_game_29 (by decide) ?_
      refine gx_icmp_lt 46 dX10_game_31 (by decide) ⟨fun z => ?_, fun z => ?_⟩
      · replace h := h.1 z
        refine gx_iconst (v := 0) dX10_game_46 (by decide) ?_
        refine gx_istore (lv' := [(0, .ref 0), (1, .int 2), (2, .int x2), (3, .int 1), (4, .int 0)]) dX10_game_47 rfl rfl ?_
        refine gx_iload_n 3 dX10_game_49 rfl rfl ?_
        refine gx_if_ne 61 dX10_game_50 (by decide) (br_f (by decide) ?_)
        refine gx_aload_n 0 dX10_game_61 rfl rfl ?_
        refine gx_getr 10 2 (v := 16) dX10_game_62 fl_X10_65 rfl rfl rfl ?_
        refine gx_geti 1 1 (v := (I 16 1)) dX10_game_65 fl_X10_299 rfl rfl rfl ?_
        refine gx_aload_n 0 dX10_game_68 rfl rfl ?_
        refine gx_getr 10 2 (v := 16) dX10_game_69 fl_X10_65 rfl rfl rfl ?_
        refine gx_geti 1 0 (v := (I 16 0)) dX10_game_72 fl_X10_296 rfl rfl rfl ?_
        refine gx_isub dX10_game_75 ?_
        refine gx_bipush (v := 24) dX10_game_76 (by decide) ?_
        refine gx_icmp_lt 84 dX10_game_78 (by decide) ⟨fun z => ?_, fun z => ?_⟩
        · replace h := h.1 z
          refine gx_aload_n 0 dX10_game_84 rfl rfl ?_
          refine gx_getr 10 8 (v := 23) dX10_game_85 fl_X10_71 rfl rfl rfl ?_
          refine gx_iconst (v := 0) dX10_game_88 (by decide) ?_
          refine gx_iconst (v := 0) dX10_game_89 (by decide) ?_
          refine gx_callV 7 (As := [.int 0, .int 0]) (st := []) dX10_game_90 ml_X10_319 mm_X7_lay rfl rfl rfl rfl rfl rfl ⟨rfl, rfl⟩ h (fun v h2 hq => ?_)
          clear h
          obtain ⟨I21, L22, c23, rfl, rfl, h⟩ := hq
          show Z_J_game_2 g Q 93 [(0, .ref 0), (1, .int 2), (2, .int x2), (3, .int 1), (4, .int 0)] [] I21 L22 c23
          refine gx_aload_n 0 dX10_game_93 rfl rfl ?_
          refine gx_getr 10 9 (v := 29) dX10_game_94 fl_X10_80 rfl rfl rfl ?_
          refine gx_iconst (v := 0) dX10_game_97 (by decide) ?_
          refine gx_iload_n 1 dX10_game_98 rfl rfl ?_
          refine gx_callV 9 (As := [.int 0, .int 2]) (st := []) dX10_game_99 ml_X10_322 mm_X9_play rfl rfl rfl rfl rfl rfl ⟨rfl, rfl⟩ h (fun v h2 hq => ?_)
          clear h
          obtain ⟨I24, L25, c26, rfl, rfl, h⟩ := hq
          show Z_J_game_2 g Q 102 [(0, .ref 0), (1, .int 2), (2, .int x2), (3, .int 1), (4, .int 0)] [] I24 L25 c26
          refine gx_iload_n 3 dX10_game_102 rfl rfl ?_
          refine gx_if_eq 118 dX10_game_103 (by decide) (br_f (by decide) ?_)
          refine gx_aload_n 0 dX10_game_106 rfl rfl ?_
          refine gx_getr 10 9 (v := 29) dX10_game_107 fl_X10_80 rfl rfl rfl ?_
          refine gx_getr 9 0 (v := 30) dX10_game_110 fl_X10_325 rfl rfl rfl ?_
          refine gx_iload_n 2 dX10_game_113 rfl rfl ?_
          obtain ⟨hi, h⟩ := h
          refine gx_iald (v := (I24 30 (Int32.toNatClampNeg x2))) dX10_game_114 rfl rfl hi (k := (Int32.toNatClampNeg x2)) rfl rfl ?_
          refine gx_goto 131 dX10_game_115 (by decide) ?_
          exact gx_iret dX10_game_131 rfl rfl rfl ⟨_, _, _, _, rfl, rfl, h⟩
        · replace h := h.2 z
          refine gx_bipush (v := (-4)) dX10_game_81 (by decide) ?_
          exact gx_iret dX10_game_83 rfl rfl rfl ⟨_, _, _, _, rfl, rfl, h⟩
      · replace h := h.2 z
        refine gx_iload_n 2 dX10_game_34 rfl rfl ?_
        refine gx_bipush (v := 10) dX10_game_35 (by decide) ?_
        refine gx_iload_n 1 dX10_game_37 rfl rfl ?_
        refine gx_iadd dX10_game_38 ?_
        show Z_J_game_2 g Q 39 [(0, .ref 0), (1, .int 2), (2, .int x2), (3, .int 1)] [.int 12, .int x2] I L c
        refine gx_icmp_ge 46 dX10_game_39 (by decide) ⟨fun z => ?_, fun z => ?_⟩
        · replace h := h.1 z
          refine gx_iconst (v := 0) dX10_game_46 (by decide) ?_
          refine gx_istore (lv' := [(0, .ref 0), (1, .int 2), (2, .int x2), (3, .int 1), (4, .int 0)]) dX10_game_47 rfl rfl ?_
          refine gx_iload_n 3 dX10_game_49 rfl rfl ?_
          refine gx_if_ne 61 dX10_game_50 (by decide) (br_f (by decide) ?_)
          refine gx_aload_n 0 dX10_game_61 rfl rfl ?_
          refine gx_getr 10 2 (v := 16) dX10_game_62 fl_X10_65 rfl rfl rfl ?_
          refine gx_geti 1 1 (v := (I 16 1)) dX10_game_65 fl_X10_299 rfl rfl rfl ?_
          refine gx_aload_n 0 dX10_game_68 rfl rfl ?_
          refine gx_getr 10 2 (v := 16) dX10_game_69 fl_X10_65 rfl rfl rfl ?_
          refine gx_geti 1 0 (v := (I 16 0)) dX10_game_72 fl_X10_296 rfl rfl rfl ?_
          refine gx_isub dX10_game_75 ?_
          refine gx_bipush (v := 24) dX10_game_76 (by decide) ?_
          refine gx_icmp_lt 84 dX10_game_78 (by decide) ⟨fun z => ?_, fun z => ?_⟩
          · replace h := h.1 z
            refine gx_aload_n 0 dX10_game_84 rfl rfl ?_
            refine gx_getr 10 8 (v := 23) dX10_game_85 fl_X10_71 rfl rfl rfl ?_
            refine gx_iconst (v := 0) dX10_game_88 (by decide) ?_
            refine gx_iconst (v := 0) dX10_game_89 (by decide) ?_
            refine gx_callV 7 (As := [.int 0, .int 0]) (st := []) dX10_game_90 ml_X10_319 mm_X7_lay rfl rfl rfl rfl rfl rfl ⟨rfl, rfl⟩ h (fun v h2 hq => ?_)
            clear h
            obtain ⟨I27, L28, c29, rfl, rfl, h⟩ := hq
            show Z_J_game_2 g Q 93 [(0, .ref 0), (1, .int 2), (2, .int x2), (3, .int 1), (4, .int 0)] [] I27 L28 c29
            refine gx_aload_n 0 dX10_game_93 rfl rfl ?_
            refine gx_getr 10 9 (v := 29) dX10_game_94 fl_X10_80 rfl rfl rfl ?_
            refine gx_iconst (v := 0) dX10_game_97 (by decide) ?_
            refine gx_iload_n 1 dX10_game_98 rfl rfl ?_
            refine gx_callV 9 (As := [.int 0, .int 2]) (st := []) dX10_game_99 ml_X10_322 mm_X9_play rfl rfl rfl rfl rfl rfl ⟨rfl, rfl⟩ h (fun v h2 hq => ?_)
            clear h
            obtain ⟨I30, L31, c32, rfl, rfl, h⟩ := hq
            show Z_J_game_2 g Q 102 [(0, .ref 0), (1, .int 2), (2, .int x2), (3, .int 1), (4, .int 0)] [] I30 L31 c32
            refine gx_iload_n 3 dX10_game_102 rfl rfl ?_
            refine gx_if_eq 118 dX10_game_103 (by decide) (br_f (by decide) ?_)
            refine gx_aload_n 0 dX10_game_106 rfl rfl ?_
            refine gx_getr 10 9 (v := 29) dX10_game_107 fl_X10_80 rfl rfl rfl ?_
            refine gx_getr 9 0 (v := 30) dX10_game_110 fl_X10_325 rfl rfl rfl ?_
            refine gx_iload_n 2 dX10_game_113 rfl rfl ?_
            obtain ⟨hi, h⟩ := h
            refine gx_iald (v := (I30 30 (Int32.toNatClampNeg x2))) dX10_game_114 rfl rfl hi (k := (Int32.toNatClampNeg x2)) rfl rfl ?_
            refine gx_goto 131 dX10_game_115 (by decide) ?_
            exact gx_iret dX10_game_131 rfl rfl rfl ⟨_, _, _, _, rfl, rfl, h⟩
          · replace h := h.2 z
            refine gx_bipush (v := (-4)) dX10_game_81 (by decide) ?_
            exact gx_iret dX10_game_83 rfl rfl rfl ⟨_, _, _, _, rfl, rfl, h⟩
        · replace h := h.2 z
          refine gx_iconst (v := 1) dX10_game_42 (by decide) ?_
          refine gx_goto 47 dX10_game_43 (by decide) ?_
          refine gx_istore (lv' := [(0, .ref 0), (1, .int 2), (2, .int x2), (3, .int 1), (4, .int 1)]) dX10_game_47 rfl rfl ?_
          refine gx_iload_n 3 dX10_game_49 rfl rfl ?_
          refine gx_if_ne 61 dX10_game_50 (by decide) (br_f (by decide) ?_)
          refine gx_aload_n 0 dX10_game_61 rfl rfl ?_
          refine gx_getr 10 2 (v := 16) dX10_game_62 fl_X10_65 rfl rfl rfl ?_
          refine gx_geti 1 1 (v := (I 16 1)) dX10_game_65 fl_X10_299 rfl rfl rfl ?_
          refine gx_aload_n 0 dX10_game_68 rfl rfl ?_
          refine gx_getr 10 2 (v := 16) dX10_game_69 fl_X10_65 rfl rfl rfl ?_
          refine gx_geti 1 0 (v := (I 16 0)) dX10_game_72 fl_X10_296 rfl rfl rfl ?_
          refine gx_isub dX10_game_75 ?_
          refine gx_bipush (v := 24) dX10_game_76 (by decide) ?_
          refine gx_icmp_lt 84 dX10_game_78 (by decide) ⟨fun z => ?_, fun z => ?_⟩
          · replace h := h.1 z
            refine gx_aload_n 0 dX10_game_84 rfl rfl ?_
            refine gx_getr 10 8 (v := 23) dX10_game_85 fl_X10_71 rfl rfl rfl ?_
            refine gx_iconst (v := 0) dX10_game_88 (by decide) ?_
            refine gx_iconst (v := 0) dX10_game_89 (by decide) ?_
            refine gx_callV 7 (As := [.int 0, .int 0]) (st := []) dX10_game_90 ml_X10_319 mm_X7_lay rfl rfl rfl rfl rfl rfl ⟨rfl, rfl⟩ h (fun v h2 hq => ?_)
            clear h
            obtain ⟨I33, L34, c35, rfl, rfl, h⟩ := hq
            show Z_J_game_2 g Q 93 [(0, .ref 0), (1, .int 2), (2, .int x2), (3, .int 1), (4, .int 1)] [] I33 L34 c35
            refine gx_aload_n 0 dX10_game_93 rfl rfl ?_
            refine gx_getr 10 9 (v := 29) dX10_game_94 fl_X10_80 rfl rfl rfl ?_
            refine gx_iconst (v := 0) dX10_game_97 (by decide) ?_
            refine gx_iload_n 1 dX10_game_98 rfl rfl ?_
            refine gx_callV 9 (As := [.int 0, .int 2]) (st := []) dX10_game_99 ml_X10_322 mm_X9_play rfl rfl rfl rfl rfl rfl ⟨rfl, rfl⟩ h (fun v h2 hq => ?_)
            clear h
            obtain ⟨I36, L37, c38, rfl, rfl, h⟩ := hq
            show Z_J_game_2 g Q 102 [(0, .ref 0), (1, .int 2), (2, .int x2), (3, .int 1), (4, .int 1)] [] I36 L37 c38
            refine gx_iload_n 3 dX10_game_102 rfl rfl ?_
            refine gx_if_eq 118 dX10_game_103 (by decide) (br_f (by decide) ?_)
            refine gx_aload_n 0 dX10_game_106 rfl rfl ?_
            refine gx_getr 10 9 (v := 29) dX10_game_107 fl_X10_80 rfl rfl rfl ?_
            refine gx_getr 9 0 (v := 30) dX10_game_110 fl_X10_325 rfl rfl rfl ?_
            refine gx_iload_n 2 dX10_game_113 rfl rfl ?_
            obtain ⟨hi, h⟩ := h
            refine gx_iald (v := (I36 30 (Int32.toNatClampNeg x2))) dX10_game_114 rfl rfl hi (k := (Int32.toNatClampNeg x2)) rfl rfl ?_
            refine gx_goto 131 dX10_game_115 (by decide) ?_
            exact gx_iret dX10_game_131 rfl rfl rfl ⟨_, _, _, _, rfl, rfl, h⟩
          · replace h := h.2 z
            refine gx_bipush (v := (-4)) dX10_game_81 (by decide) ?_
            exact gx_iret dX10_game_83 rfl rfl rfl ⟨_, _, _, _, rfl, rfl, h⟩
abbrev Z_J_game_3 (g : gm_G) (Q : Int32 → mI → mL → gm_cfg → Prop) (pc : Nat) (lv : List (Nat × Value)) (st : List Value) (I : mI) (L : mL) (c : gm_cfg) : Prop := gm_X g RX10 "game" cX10_game 5 (some .int) 8 0 0 (qI Q) 0 0 pc lv st (SH, I, L, RR c)
abbrev C_J_game_3 (g : gm_G) (x2 : Int32) (I : mI) (L : mL) (c : gm_cfg) (Q : Int32 → mI → mL → gm_cfg → Prop) : Prop := gm_Met g yX10_game cX10_game 5 (some .int) 8 0 0 [.ref 0, .int 3, .int x2] (SH, I, L, RR c) (qI Q)
set_option maxRecDepth 100000 in
theorem e_J_game_3 {g : gm_G} {Q : Int32 → mI → mL → gm_cfg → Prop} {x2 : Int32} {I : mI} {L : mL} {c : gm_cfg} (h : ((x2 < 0 → ((x2 < 10 → Q (-2) I L c) ∧ (¬ x2 < 10 → ((13 ≤ x2 → Q (-2) I L c) ∧ (¬ 13 ≤ x2 → ((((I 16 1) - (I 16 0)) < 24 → (C_Sr_lay g 0 0 I L c (fun I1 L2 c3 => (C_Wr_play_0_3 g I1 L2 c3 (fun I4 L5 c6 => (C_Wr_shareOf g (x2 - 10) 3 I4 L5 c6 (fun r10 I7 L8 c9 => Q (Int64.toInt32 r10) I7 L8 c9))))))) ∧ (¬ ((I 16 1) - (I 16 0)) < 24 → Q (-4) I L c))))))) ∧ (¬ x2 < 0 → ((3 ≤ x2 → ((x2 < 10 → Q (-2) I L c) ∧ (¬ x2 < 10 → ((13 ≤ x2 → Q (-2) I L c) ∧ (¬ 13 ≤ x2 → ((((I 16 1) - (I 16 0)) < 24 → (C_Sr_lay g 0 0 I L c (fun I11 L12 c13 => (C_Wr_play_0_3 g I11 L12 c13 (fun I14 L15 c16 => (C_Wr_shareOf g (x2 - 10) 3 I14 L15 c16 (fun r20 I17 L18 c19 => Q (Int64.toInt32 r20) I17 L18 c19))))))) ∧ (¬ ((I 16 1) - (I 16 0)) < 24 → Q (-4) I L c))))))) ∧ (¬ 3 ≤ x2 → ((x2 < 10 → ((((I 16 1) - (I 16 0)) < 24 → (C_Sr_lay g 0 0 I L c (fun I21 L22 c23 => (C_Wr_play_0_3 g I21 L22 c23 (fun I24 L25 c26 => (vp_in x2 3 ∧ Q (I24 30 (Int32.toNatClampNeg x2)) I24 L25 c26)))))) ∧ (¬ ((I 16 1) - (I 16 0)) < 24 → Q (-4) I L c))) ∧ (¬ x2 < 10 → ((13 ≤ x2 → ((((I 16 1) - (I 16 0)) < 24 → (C_Sr_lay g 0 0 I L c (fun I27 L28 c29 => (C_Wr_play_0_3 g I27 L28 c29 (fun I30 L31 c32 => (vp_in x2 3 ∧ Q (I30 30 (Int32.toNatClampNeg x2)) I30 L31 c32)))))) ∧ (¬ ((I 16 1) - (I 16 0)) < 24 → Q (-4) I L c))) ∧ (¬ 13 ≤ x2 → ((((I 16 1) - (I 16 0)) < 24 → (C_Sr_lay g 0 0 I L c (fun I33 L34 c35 => (C_Wr_play_0_3 g I33 L34 c35 (fun I36 L37 c38 => (vp_in x2 3 ∧ Q (I36 30 (Int32.toNatClampNeg x2)) I36 L37 c38)))))) ∧ (¬ ((I 16 1) - (I 16 0)) < 24 → Q (-4) I L c))))))))))) : C_J_game_3 g x2 I L c Q := by
  refine gm_enter (lv := [(0, .ref 0), (1, .int 3), (2, .int x2)]) (by decide) rfl rfl rfl rfl ?_
  show Z_J_game_3 g Q 0 [(0, .ref 0), (1, .int 3), (2, .int x2)] [] I L c
  refine gx_iload_n 1 dX10_game_0 rfl rfl ?_
  refine gx_iconst (v := 1) dX10_game_1 (by decide) ?_
  refine gx_icmp_lt 10 dX10_game_2 (by decide) (br_f (by decide) ?_)
  refine gx_iload_n 1 dX10_game_5 rfl rfl ?_
  refine gx_iconst (v := 3) dX10_game_6 (by decide) ?_
  refine gx_icmp_le 13 dX10_game_7 (by decide) (br_t (by decide) ?_)
  refine gx_iload_n 2 dX10_game_13 rfl rfl ?_
  refine gx_if_lt 26 dX10_game_14 (by decide) ⟨fun z => ?_, fun z => ?_⟩
  · replace h := h.1 z
    refine gx_iconst (v := 0) dX10_game_26 (by decide) ?_
    refine gx_istore_n (lv' := [(0, .ref 0), (1, .int 3), (2, .int x2), (3, .int 0)]) dX10_game_27 rfl rfl rfl ?_
    refine gx_iload_n 2 dX10_game_28 rfl rfl ?_
    refine gx_bipush (v := 10) dX10_game_29 (by decide) ?_
    refine gx_icmp_lt 46 dX10_game_31 (by decide) ⟨fun z => ?_, fun z => ?_⟩
    · replace h := h.1 z
      refine gx_iconst (v := 0) dX10_game_46 (by decide) ?_
      refine gx_istore (lv' := [(0, .ref 0), (1, .int 3), (2, .int x2), (3, .int 0), (4, .int 0)]) dX10_game_47 rfl rfl ?_
      refine gx_iload_n 3 dX10_game_49 rfl rfl ?_
      refine gx_if_ne 61 dX10_game_50 (by decide) (br_t (by decide) ?_)
      refine gx_iload 4 dX10_game_53 rfl ?_
      refine gx_if_ne 61 dX10_game_55 (by decide) (br_t (by decide) ?_)
      refine gx_bipush (v := (-2)) dX10_game_58 (by decide) ?_
      exact gx_iret dX10_game_60 rfl rfl rfl ⟨_, _, _, _, rfl, rfl, h⟩
    · replace h := h.2 z
      refine gx_iload_n 2 dX10_game_34 rfl rfl ?_
      refine gx_bipush (v := 10) dX10_game_35 (by decide) ?_
      refine gx_iload_n 1 dX10_game_37 rfl rfl ?_
      refine gx_iadd dX10_game_38 ?_
      show Z_J_game_3 g Q 39 [(0, .ref 0), (1, .int 3), (2, .int x2), (3, .int 0)] [.int 13, .int x2] I L c
      refine gx_icmp_ge 46 dX10_game_39 (by decide) ⟨fun z => ?_, fun z => ?_⟩
      · replace h := h.1 z
        refine gx_iconst (v := 0) dX10_game_46 (by decide) ?_
        refine gx_istore (lv' := [(0, .ref 0), (1, .int 3), (2, .int x2), (3, .int 0), (4, .int 0)]) dX10_game_47 rfl rfl ?_
        refine gx_iload_n 3 dX10_game_49 rfl rfl ?_
        refine gx_if_ne 61 dX10_game_50 (by decide) (br_t (by decide) ?_)
        refine gx_iload 4 dX10_game_53 rfl ?_
        refine gx_if_ne 61 dX10_game_55 (by decide) (br_t (by decide) ?_)
        refine gx_bipush (v := (-2)) dX10_game_58 (by decide) ?_
        exact gx_iret dX10_game_60 rfl rfl rfl ⟨_, _, _, _, rfl, rfl, h⟩
      · replace h := h.2 z
        refine gx_iconst (v := 1) dX10_game_42 (by decide) ?_
        refine gx_goto 47 dX10_game_43 (by decide) ?_
        refine gx_istore (lv' := [(0, .ref 0), (1, .int 3), (2, .int x2), (3, .int 0), (4, .int 1)]) dX10_game_47 rfl rfl ?_
        refine gx_iload_n 3 dX10_game_49 rfl rfl ?_
        refine gx_if_ne 61 dX10_game_50 (by decide) (br_t (by decide) ?_)
        refine gx_iload 4 dX10_game_53 rfl ?_
        refine gx_if_ne 61 dX10_game_55 (by decide) (br_f (by decide) ?_)
        refine gx_aload_n 0 dX10_game_61 rfl rfl ?_
        refine gx_getr 10 2 (v := 16) dX10_game_62 fl_X10_65 rfl rfl rfl ?_
        refine gx_geti 1 1 (v := (I 16 1)) dX10_game_65 fl_X10_299 rfl rfl rfl ?_
        refine gx_aload_n 0 dX10_game_68 rfl rfl ?_
        refine gx_getr 10 2 (v := 16) dX10_game_69 fl_X10_65 rfl rfl rfl ?_
        refine gx_geti 1 0 (v := (I 16 0)) dX10_game_72 fl_X10_296 rfl rfl rfl ?_
        refine gx_isub dX10_game_75 ?_
        refine gx_bipush (v := 24) dX10_game_76 (by decide) ?_
        refine gx_icmp_lt 84 dX10_game_78 (by decide) ⟨fun z => ?_, fun z => ?_⟩
        · replace h := h.1 z
          refine gx_aload_n 0 dX10_game_84 rfl rfl ?_
          refine gx_getr 10 8 (v := 23) dX10_game_85 fl_X10_71 rfl rfl rfl ?_
          refine gx_iconst (v := 0) dX10_game_88 (by decide) ?_
          refine gx_iconst (v := 0) dX10_game_89 (by decide) ?_
          refine gx_callV 7 (As := [.int 0, .int 0]) (st := []) dX10_game_90 ml_X10_319 mm_X7_lay rfl rfl rfl rfl rfl rfl ⟨rfl, rfl⟩ h (fun v h2 hq => ?_)
          clear h
          obtain ⟨I1, L2, c3, rfl, rfl, h⟩ := hq
          show Z_J_game_3 g Q 93 [(0, .ref 0), (1, .int 3), (2, .int x2), (3, .int 0), (4, .int 1)] [] I1 L2 c3
          refine gx_aload_n 0 dX10_game_93 rfl rfl ?_
          refine gx_getr 10 9 (v := 29) dX10_game_94 fl_X10_80 rfl rfl rfl ?_
          refine gx_iconst (v := 0) dX10_game_97 (by decide) ?_
          refine gx_iload_n 1 dX10_game_98 rfl rfl ?_
          refine gx_callV 9 (As := [.int 0, .int 3]) (st := []) dX10_game_99 ml_X10_322 mm_X9_play rfl rfl rfl rfl rfl rfl ⟨rfl, rfl⟩ h (fun v h2 hq => ?_)
          clear h
          obtain ⟨I4, L5, c6, rfl, rfl, h⟩ := hq
          show Z_J_game_3 g Q 102 [(0, .ref 0), (1, .int 3), (2, .int x2), (3, .int 0), (4, .int 1)] [] I4 L5 c6
          refine gx_iload_n 3 dX10_game_102 rfl rfl ?_
          refine gx_if_eq 118 dX10_game_103 (by decide) (br_t (by decide) ?_)
          refine gx_aload_n 0 dX10_game_118 rfl rfl ?_
          refine gx_getr 10 9 (v := 29) dX10_game_119 fl_X10_80 rfl rfl rfl ?_
          refine gx_iload_n 2 dX10_game_122 rfl rfl ?_
          refine gx_bipush (v := 10) dX10_game_123 (by decide) ?_
          refine gx_isub dX10_game_125 ?_
          refine gx_iload_n 1 dX10_game_126 rfl rfl ?_
          refine gx_callV 9 (As := [.int (x2 - 10), .int 3]) (st := []) dX10_game_127 ml_X10_328 mm_X9_shareOf rfl rfl rfl rfl rfl rfl ⟨rfl, rfl⟩ h (fun v h2 hq => ?_)
          clear h
          obtain ⟨r10, I7, L8, c9, rfl, rfl, h⟩ := hq
          show Z_J_game_3 g Q 130 [(0, .ref 0), (1, .int 3), (2, .int x2), (3, .int 0), (4, .int 1)] [.long r10] I7 L8 c9
          refine gx_l2i dX10_game_130 ?_
          exact gx_iret dX10_game_131 rfl rfl rfl ⟨_, _, _, _, rfl, rfl, h⟩
        · replace h := h.2 z
          refine gx_bipush (v := (-4)) dX10_game_81 (by decide) ?_
          exact gx_iret dX10_game_83 rfl rfl rfl ⟨_, _, _, _, rfl, rfl, h⟩
  · replace h := h.2 z
    refine gx_iload_n 2 dX10_game_17 rfl rfl ?_
    refine gx_iload_n 1 dX10_game_18 rfl rfl ?_
    refine gx_icmp_ge 26 dX10_game_19 (by decide) ⟨fun z => ?_, fun z => ?_⟩
    · replace h := h.1 z
      refine gx_iconst (v := 0) dX10_game_26 (by decide) ?_
      refine gx_istore_n (lv' := [(0, .ref 0), (1, .int 3), (2, .int x2), (3, .int 0)]) dX10_game_27 rfl rfl rfl ?_
      refine gx_iload_n 2 dX10_game_28 rfl rfl ?_
      refine gx_bipush (v := 10) dX10_game_29 (by decide) ?_
      refine gx_icmp_lt 46 dX10_game_31 (by decide) ⟨fun z => ?_, fun z => ?_⟩
      · replace h := h.1 z
        refine gx_iconst (v := 0) dX10_game_46 (by decide) ?_
        refine gx_istore (lv' := [(0, .ref 0), (1, .int 3), (2, .int x2), (3, .int 0), (4, .int 0)]) dX10_game_47 rfl rfl ?_
        refine gx_iload_n 3 dX10_game_49 rfl rfl ?_
        refine gx_if_ne 61 dX10_game_50 (by decide) (br_t (by decide) ?_)
        refine gx_iload 4 dX10_game_53 rfl ?_
        refine gx_if_ne 61 dX10_game_55 (by decide) (br_t (by decide) ?_)
        refine gx_bipush (v := (-2)) dX10_game_58 (by decide) ?_
        exact gx_iret dX10_game_60 rfl rfl rfl ⟨_, _, _, _, rfl, rfl, h⟩
      · replace h := h.2 z
        refine gx_iload_n 2 dX10_game_34 rfl rfl ?_
        refine gx_bipush (v := 10) dX10_game_35 (by decide) ?_
        refine gx_iload_n 1 dX10_game_37 rfl rfl ?_
        refine gx_iadd dX10_game_38 ?_
        show Z_J_game_3 g Q 39 [(0, .ref 0), (1, .int 3), (2, .int x2), (3, .int 0)] [.int 13, .int x2] I L c
        refine gx_icmp_ge 46 dX10_game_39 (by decide) ⟨fun z => ?_, fun z => ?_⟩
        · replace h := h.1 z
          refine gx_iconst (v := 0) dX10_game_46 (by decide) ?_
          refine gx_istore (lv' := [(0, .ref 0), (1, .int 3), (2, .int x2), (3, .int 0), (4, .int 0)]) dX10_game_47 rfl rfl ?_
          refine gx_iload_n 3 dX10_game_49 rfl rfl ?_
          refine gx_if_ne 61 dX10_game_50 (by decide) (br_t (by decide) ?_)
          refine gx_iload 4 dX10_game_53 rfl ?_
          refine gx_if_ne 61 dX10_game_55 (by decide) (br_t (by decide) ?_)
          refine gx_bipush (v := (-2)) dX10_game_58 (by decide) ?_
          exact gx_iret dX10_game_60 rfl rfl rfl ⟨_, _, _, _, rfl, rfl, h⟩
        · replace h := h.2 z
          refine gx_iconst (v := 1) dX10_game_42 (by decide) ?_
          refine gx_goto 47 dX10_game_43 (by decide) ?_
          refine gx_istore (lv' := [(0, .ref 0), (1, .int 3), (2, .int x2), (3, .int 0), (4, .int 1)]) dX10_game_47 rfl rfl ?_
          refine gx_iload_n 3 dX10_game_49 rfl rfl ?_
          refine gx_if_ne 61 dX10_game_50 (by decide) (br_t (by decide) ?_)
          refine gx_iload 4 dX10_game_53 rfl ?_
          refine gx_if_ne 61 dX10_game_55 (by decide) (br_f (by decide) ?_)
          refine gx_aload_n 0 dX10_game_61 rfl rfl ?_
          refine gx_getr 10 2 (v := 16) dX10_game_62 fl_X10_65 rfl rfl rfl ?_
          refine gx_geti 1 1 (v := (I 16 1)) dX10_game_65 fl_X10_299 rfl rfl rfl ?_
          refine gx_aload_n 0 dX10_game_68 rfl rfl ?_
          refine gx_getr 10 2 (v := 16) dX10_game_69 fl_X10_65 rfl rfl rfl ?_
          refine gx_geti 1 0 (v := (I 16 0)) dX10_game_72 fl_X10_296 rfl rfl rfl ?_
          refine gx_isub dX10_game_75 ?_
          refine gx_bipush (v := 24) dX10_game_76 (by decide) ?_
          refine gx_icmp_lt 84 dX10_game_78 (by decide) ⟨fun z => ?_, fun z => ?_⟩
          · replace h := h.1 z
            refine gx_aload_n 0 dX10_game_84 rfl rfl ?_
            refine gx_getr 10 8 (v := 23) dX10_game_85 fl_X10_71 rfl rfl rfl ?_
            refine gx_iconst (v := 0) dX10_game_88 (by decide) ?_
            refine gx_iconst (v := 0) dX10_game_89 (by decide) ?_
            refine gx_callV 7 (As := [.int 0, .int 0]) (st := []) dX10_game_90 ml_X10_319 mm_X7_lay rfl rfl rfl rfl rfl rfl ⟨rfl, rfl⟩ h (fun v h2 hq => ?_)
            clear h
            obtain ⟨I11, L12, c13, rfl, rfl, h⟩ := hq
            show Z_J_game_3 g Q 93 [(0, .ref 0), (1, .int 3), (2, .int x2), (3, .int 0), (4, .int 1)] [] I11 L12 c13
            refine gx_aload_n 0 dX10_game_93 rfl rfl ?_
            refine gx_getr 10 9 (v := 29) dX10_game_94 fl_X10_80 rfl rfl rfl ?_
            refine gx_iconst (v := 0) dX10_game_97 (by decide) ?_
            refine gx_iload_n 1 dX10_game_98 rfl rfl ?_
            refine gx_callV 9 (As := [.int 0, .int 3]) (st := []) dX10_game_99 ml_X10_322 mm_X9_play rfl rfl rfl rfl rfl rfl ⟨rfl, rfl⟩ h (fun v h2 hq => ?_)
            clear h
            obtain ⟨I14, L15, c16, rfl, rfl, h⟩ := hq
            show Z_J_game_3 g Q 102 [(0, .ref 0), (1, .int 3), (2, .int x2), (3, .int 0), (4, .int 1)] [] I14 L15 c16
            refine gx_iload_n 3 dX10_game_102 rfl rfl ?_
            refine gx_if_eq 118 dX10_game_103 (by decide) (br_t (by decide) ?_)
            refine gx_aload_n 0 dX10_game_118 rfl rfl ?_
            refine gx_getr 10 9 (v := 29) dX10_game_119 fl_X10_80 rfl rfl rfl ?_
            refine gx_iload_n 2 dX10_game_122 rfl rfl ?_
            refine gx_bipush (v := 10) dX10_game_123 (by decide) ?_
            refine gx_isub dX10_game_125 ?_
            refine gx_iload_n 1 dX10_game_126 rfl rfl ?_
            refine gx_callV 9 (As := [.int (x2 - 10), .int 3]) (st := []) dX10_game_127 ml_X10_328 mm_X9_shareOf rfl rfl rfl rfl rfl rfl ⟨rfl, rfl⟩ h (fun v h2 hq => ?_)
            clear h
            obtain ⟨r20, I17, L18, c19, rfl, rfl, h⟩ := hq
            show Z_J_game_3 g Q 130 [(0, .ref 0), (1, .int 3), (2, .int x2), (3, .int 0), (4, .int 1)] [.long r20] I17 L18 c19
            refine gx_l2i dX10_game_130 ?_
            exact gx_iret dX10_game_131 rfl rfl rfl ⟨_, _, _, _, rfl, rfl, h⟩
          · replace h := h.2 z
            refine gx_bipush (v := (-4)) dX10_game_81 (by decide) ?_
            exact gx_iret dX10_game_83 rfl rfl rfl ⟨_, _, _, _, rfl, rfl, h⟩
    · replace h := h.2 z
      refine gx_iconst (v := 1) dX10_game_22 (by decide) ?_
      refine gx_goto 27 dX10_game_23 (by decide) ?_
      refine gx_istore_n (lv' := [(0, .ref 0), (1, .int 3), (2, .int x2), (3, .int 1)]) dX10_game_27 rfl rfl rfl ?_
      refine gx_iload_n 2 dX10_game_28 rfl rfl ?_
      refine gx_bipush (v := 10) dX10_game_29 (by decide) ?_
      refine gx_icmp_lt 46 dX10_game_31 (by decide) ⟨fun z => ?_, fun z => ?_⟩
      · replace h := h.1 z
        refine gx_iconst (v := 0) dX10_game_46 (by decide) ?_
        refine gx_istore (lv' := [(0, .ref 0), (1, .int 3), (2, .int x2), (3, .int 1), (4, .int 0)]) dX10_game_47 rfl rfl ?_
        refine gx_iload_n 3 dX10_game_49 rfl rfl ?_
        refine gx_if_ne 61 dX10_game_50 (by decide) (br_f (by decide) ?_)
        refine gx_aload_n 0 dX10_game_61 rfl rfl ?_
        refine gx_getr 10 2 (v := 16) dX10_game_62 fl_X10_65 rfl rfl rfl ?_
        refine gx_geti 1 1 (v := (I 16 1)) dX10_game_65 fl_X10_299 rfl rfl rfl ?_
        refine gx_aload_n 0 dX10_game_68 rfl rfl ?_
        refine gx_getr 10 2 (v := 16) dX10_game_69 fl_X10_65 rfl rfl rfl ?_
        refine gx_geti 1 0 (v := (I 16 0)) dX10_game_72 fl_X10_296 rfl rfl rfl ?_
        refine gx_isub dX10_game_75 ?_
        refine gx_bipush (v := 24) dX10_game_76 (by decide) ?_
        refine gx_icmp_lt 84 dX10_game_78 (by decide) ⟨fun z => ?_, fun z => ?_⟩
        · replace h := h.1 z
          refine gx_aload_n 0 dX10_game_84 rfl rfl ?_
          refine gx_getr 10 8 (v := 23) dX10_game_85 fl_X10_71 rfl rfl rfl ?_
          refine gx_iconst (v := 0) dX10_game_88 (by decide) ?_
          refine gx_iconst (v := 0) dX10_game_89 (by decide) ?_
          refine gx_callV 7 (As := [.int 0, .int 0]) (st := []) dX10_game_90 ml_X10_319 mm_X7_lay rfl rfl rfl rfl rfl rfl ⟨rfl, rfl⟩ h (fun v h2 hq => ?_)
          clear h
          obtain ⟨I21, L22, c23, rfl, rfl, h⟩ := hq
          show Z_J_game_3 g Q 93 [(0, .ref 0), (1, .int 3), (2, .int x2), (3, .int 1), (4, .int 0)] [] I21 L22 c23
          refine gx_aload_n 0 dX10_game_93 rfl rfl ?_
          refine gx_getr 10 9 (v := 29) dX10_game_94 fl_X10_80 rfl rfl rfl ?_
          refine gx_iconst (v := 0) dX10_game_97 (by decide) ?_
          refine gx_iload_n 1 dX10_game_98 rfl rfl ?_
          refine gx_callV 9 (As := [.int 0, .int 3]) (st := []) dX10_game_99 ml_X10_322 mm_X9_play rfl rfl rfl rfl rfl rfl ⟨rfl, rfl⟩ h (fun v h2 hq => ?_)
          clear h
          obtain ⟨I24, L25, c26, rfl, rfl, h⟩ := hq
          show Z_J_game_3 g Q 102 [(0, .ref 0), (1, .int 3), (2, .int x2), (3, .int 1), (4, .int 0)] [] I24 L25 c26
          refine gx_iload_n 3 dX10_game_102 rfl rfl ?_
          refine gx_if_eq 118 dX10_game_103 (by decide) (br_f (by decide) ?_)
          refine gx_aload_n 0 dX10_game_106 rfl rfl ?_
          refine gx_getr 10 9 (v := 29) dX10_game_107 fl_X10_80 rfl rfl rfl ?_
          refine gx_getr 9 0 (v := 30) dX10_game_110 fl_X10_325 rfl rfl rfl ?_
          refine gx_iload_n 2 dX10_game_113 rfl rfl ?_
          obtain ⟨hi, h⟩ := h
          refine gx_iald (v := (I24 30 (Int32.toNatClampNeg x2))) dX10_game_114 rfl rfl hi (k := (Int32.toNatClampNeg x2)) rfl rfl ?_
          refine gx_goto 131 dX10_game_115 (by decide) ?_
          exact gx_iret dX10_game_131 rfl rfl rfl ⟨_, _, _, _, rfl, rfl, h⟩
        · replace h := h.2 z
          refine gx_bipush (v := (-4)) dX10_game_81 (by decide) ?_
          exact gx_iret dX10_game_83 rfl rfl rfl ⟨_, _, _, _, rfl, rfl, h⟩
      · replace h := h.2 z
        refine gx_iload_n 2 dX10_game_34 rfl rfl ?_
        refine gx_bipush (v := 10) dX10_game_35 (by decide) ?_
        refine gx_iload_n 1 dX10_game_37 rfl rfl ?_
        refine gx_iadd dX10_game_38 ?_
        show Z_J_game_3 g Q 39 [(0, .ref 0), (1, .int 3), (2, .int x2), (3, .int 1)] [.int 13, .int x2] I L c
        refine gx_icmp_ge 46 dX10_game_39 (by decide) ⟨fun z => ?_, fun z => ?_⟩
        · replace h := h.1 z
          refine gx_iconst (v := 0) dX10_game_46 (by decide) ?_
          refine gx_istore (lv' := [(0, .ref 0), (1, .int 3), (2, .int x2), (3, .int 1), (4, .int 0)]) dX10_game_47 rfl rfl ?_
          refine gx_iload_n 3 dX10_game_49 rfl rfl ?_
          refine gx_if_ne 61 dX10_game_50 (by decide) (br_f (by decide) ?_)
          refine gx_aload_n 0 dX10_game_61 rfl rfl ?_
          refine gx_getr 10 2 (v := 16) dX10_game_62 fl_X10_65 rfl rfl rfl ?_
          refine gx_geti 1 1 (v := (I 16 1)) dX10_game_65 fl_X10_299 rfl rfl rfl ?_
          refine gx_aload_n 0 dX10_game_68 rfl rfl ?_
          refine gx_getr 10 2 (v := 16) dX10_game_69 fl_X10_65 rfl rfl rfl ?_
          refine gx_geti 1 0 (v := (I 16 0)) dX10_game_72 fl_X10_296 rfl rfl rfl ?_
          refine gx_isub dX10_game_75 ?_
          refine gx_bipush (v := 24) dX10_game_76 (by decide) ?_
          refine gx_icmp_lt 84 dX10_game_78 (by decide) ⟨fun z => ?_, fun z => ?_⟩
          · replace h := h.1 z
            refine gx_aload_n 0 dX10_game_84 rfl rfl ?_
            refine gx_getr 10 8 (v := 23) dX10_game_85 fl_X10_71 rfl rfl rfl ?_
            refine gx_iconst (v := 0) dX10_game_88 (by decide) ?_
            refine gx_iconst (v := 0) dX10_game_89 (by decide) ?_
            refine gx_callV 7 (As := [.int 0, .int 0]) (st := []) dX10_game_90 ml_X10_319 mm_X7_lay rfl rfl rfl rfl rfl rfl ⟨rfl, rfl⟩ h (fun v h2 hq => ?_)
            clear h
            obtain ⟨I27, L28, c29, rfl, rfl, h⟩ := hq
            show Z_J_game_3 g Q 93 [(0, .ref 0), (1, .int 3), (2, .int x2), (3, .int 1), (4, .int 0)] [] I27 L28 c29
            refine gx_aload_n 0 dX10_game_93 rfl rfl ?_
            refine gx_getr 10 9 (v := 29) dX10_game_94 fl_X10_80 rfl rfl rfl ?_
            refine gx_iconst (v := 0) dX10_game_97 (by decide) ?_
            refine gx_iload_n 1 dX10_game_98 rfl rfl ?_
            refine gx_callV 9 (As := [.int 0, .int 3]) (st := []) dX10_game_99 ml_X10_322 mm_X9_play rfl rfl rfl rfl rfl rfl ⟨rfl, rfl⟩ h (fun v h2 hq => ?_)
            clear h
            obtain ⟨I30, L31, c32, rfl, rfl, h⟩ := hq
            show Z_J_game_3 g Q 102 [(0, .ref 0), (1, .int 3), (2, .int x2), (3, .int 1), (4, .int 0)] [] I30 L31 c32
            refine gx_iload_n 3 dX10_game_102 rfl rfl ?_
            refine gx_if_eq 118 dX10_game_103 (by decide) (br_f (by decide) ?_)
            refine gx_aload_n 0 dX10_game_106 rfl rfl ?_
            refine gx_getr 10 9 (v := 29) dX10_game_107 fl_X10_80 rfl rfl rfl ?_
            refine gx_getr 9 0 (v := 30) dX10_game_110 fl_X10_325 rfl rfl rfl ?_
            refine gx_iload_n 2 dX10_game_113 rfl rfl ?_
            obtain ⟨hi, h⟩ := h
            refine gx_iald (v := (I30 30 (Int32.toNatClampNeg x2))) dX10_game_114 rfl rfl hi (k := (Int32.toNatClampNeg x2)) rfl rfl ?_
            refine gx_goto 131 dX10_game_115 (by decide) ?_
            exact gx_iret dX10_game_131 rfl rfl rfl ⟨_, _, _, _, rfl, rfl, h⟩
          · replace h := h.2 z
            refine gx_bipush (v := (-4)) dX10_game_81 (by decide) ?_
            exact gx_iret dX10_game_83 rfl rfl rfl ⟨_, _, _, _, rfl, rfl, h⟩
        · replace h := h.2 z
          refine gx_iconst (v := 1) dX10_game_42 (by decide) ?_
          refine gx_goto 47 dX10_game_43 (by decide) ?_
          refine gx_istore (lv' := [(0, .ref 0), (1, .int 3), (2, .int x2), (3, .int 1), (4, .int 1)]) dX10_game_47 rfl rfl ?_
          refine gx_iload_n 3 dX10_game_49 rfl rfl ?_
          refine gx_if_ne 61 dX10_game_50 (by decide) (br_f (by decide) ?_)
          refine gx_aload_n 0 dX10_game_61 rfl rfl ?_
          refine gx_getr 10 2 (v := 16) dX10_game_62 fl_X10_65 rfl rfl rfl ?_
          refine gx_geti 1 1 (v := (I 16 1)) dX10_game_65 fl_X10_299 rfl rfl rfl ?_
          refine gx_aload_n 0 dX10_game_68 rfl rfl ?_
          refine gx_getr 10 2 (v := 16) dX10_game_69 fl_X10_65 rfl rfl rfl ?_
          refine gx_geti 1 0 (v := (I 16 0)) dX10_game_72 fl_X10_296 rfl rfl rfl ?_
          refine gx_isub dX10_game_75 ?_
          refine gx_bipush (v := 24) dX10_game_76 (by decide) ?_
          refine gx_icmp_lt 84 dX10_game_78 (by decide) ⟨fun z => ?_, fun z => ?_⟩
          · replace h := h.1 z
            refine gx_aload_n 0 dX10_game_84 rfl rfl ?_
            refine gx_getr 10 8 (v := 23) dX10_game_85 fl_X10_71 rfl rfl rfl ?_
            refine gx_iconst (v := 0) dX10_game_88 (by decide) ?_
            refine gx_iconst (v := 0) dX10_game_89 (by decide) ?_
            refine gx_callV 7 (As := [.int 0, .int 0]) (st := []) dX10_game_90 ml_X10_319 mm_X7_lay rfl rfl rfl rfl rfl rfl ⟨rfl, rfl⟩ h (fun v h2 hq => ?_)
            clear h
            obtain ⟨I33, L34, c35, rfl, rfl, h⟩ := hq
            show Z_J_game_3 g Q 93 [(0, .ref 0), (1, .int 3), (2, .int x2), (3, .int 1), (4, .int 1)] [] I33 L34 c35
            refine gx_aload_n 0 dX10_game_93 rfl rfl ?_
            refine gx_getr 10 9 (v := 29) dX10_game_94 fl_X10_80 rfl rfl rfl ?_
            refine gx_iconst (v := 0) dX10_game_97 (by decide) ?_
            refine gx_iload_n 1 dX10_game_98 rfl rfl ?_
            refine gx_callV 9 (As := [.int 0, .int 3]) (st := []) dX10_game_99 ml_X10_322 mm_X9_play rfl rfl rfl rfl rfl rfl ⟨rfl, rfl⟩ h (fun v h2 hq => ?_)
            clear h
            obtain ⟨I36, L37, c38, rfl, rfl, h⟩ := hq
            show Z_J_game_3 g Q 102 [(0, .ref 0), (1, .int 3), (2, .int x2), (3, .int 1), (4, .int 1)] [] I36 L37 c38
            refine gx_iload_n 3 dX10_game_102 rfl rfl ?_
            refine gx_if_eq 118 dX10_game_103 (by decide) (br_f (by decide) ?_)
            refine gx_aload_n 0 dX10_game_106 rfl rfl ?_
            refine gx_getr 10 9 (v := 29) dX10_game_107 fl_X10_80 rfl rfl rfl ?_
            refine gx_getr 9 0 (v := 30) dX10_game_110 fl_X10_325 rfl rfl rfl ?_
            refine gx_iload_n 2 dX10_game_113 rfl rfl ?_
            obtain ⟨hi, h⟩ := h
            refine gx_iald (v := (I36 30 (Int32.toNatClampNeg x2))) dX10_game_114 rfl rfl hi (k := (Int32.toNatClampNeg x2)) rfl rfl ?_
            refine gx_goto 131 dX10_game_115 (by decide) ?_
            exact gx_iret dX10_game_131 rfl rfl rfl ⟨_, _, _, _, rfl, rfl, h⟩
          · replace h := h.2 z
            refine gx_bipush (v := (-4)) dX10_game_81 (by decide) ?_
            exact gx_iret dX10_game_83 rfl rfl rfl ⟨_, _, _, _, rfl, rfl, h⟩
abbrev Z_J_alone (g : gm_G) (Q : Int64 → mI → mL → gm_cfg → Prop) (pc : Nat) (lv : List (Nat × Value)) (st : List Value) (I : mI) (L : mL) (c : gm_cfg) : Prop := gm_X g RX10 "alone" cX10_alone 5 (some .long) 2 0 0 (qL Q) 0 0 pc lv st (SH, I, L, RR c)
abbrev C_J_alone (g : gm_G) (x1 : Int32) (x2 : Int32) (x3 : Int32) (I : mI) (L : mL) (c : gm_cfg) (Q : Int64 → mI → mL → gm_cfg → Prop) : Prop := gm_Met g yX10_alone cX10_alone 5 (some .long) 2 0 0 [.ref 0, .int x1, .int x2, .int x3] (SH, I, L, RR c) (qL Q)
set_option maxRecDepth 100000 in
theorem e_J_alone_ab {g : gm_G} {Q : Int64 → mI → mL → gm_cfg → Prop} {x1 x2 x3 : Int32} {I : mI} {L : mL} {t : Option Nat} (h : (C_Fe16_has g x1 I L ((some 12), (some 13), t) (fun b4 I1 L2 c3 => c3 = ((some 12), (some 13), t) ∧ ((b4 = false → Q (-2) I1 L2 ((some 12), (some 13), t)) ∧ (b4 = true → ((x2 < 1 → Q (-3) I1 L2 ((some 12), (some 13), t)) ∧ (¬ x2 < 1 → ((8 < x2 → Q (-3) I1 L2 ((some 12), (some 13), t)) ∧ (¬ 8 < x2 → ((x3 < 0 → Q (-3) I1 L2 ((some 12), (some 13), t)) ∧ (¬ x3 < 0 → ((x3 ≤ 20 → (vp_in x1 6 ∧ (C_Of_start g (I1 18 (Int32.toNatClampNeg x1)) I1 L2 ((some 12), (some 13), t) (fun I5 L6 c7 => c7 = ((some 12), (some 13), t) ∧ Z_J_alone g Q 59 [(0, .ref 0), (1, .int x1), (2, .int x2), (3, .int x3), (4, .int 0)] [] I5 L6 ((some 12), (some 13), t))))) ∧ (¬ x3 ≤ 20 → Q (-3) I1 L2 ((some 12), (some 13), t)))))))))))))) : C_J_alone g x1 x2 x3 I L ((some 12), (some 13), t) Q := by
  refine gm_enter (lv := [(0, .ref 0), (1, .int x1), (2, .int x2), (3, .int x3)]) (by decide) rfl rfl rfl rfl ?_
  show Z_J_alone g Q 0 [(0, .ref 0), (1, .int x1), (2, .int x2), (3, .int x3)] [] I L ((some 12), (some 13), t)
  refine gx_aload_n 0 dX10_alone_0 rfl rfl ?_
  refine gx_getr 10 2 (v := 16) dX10_alone_1 fl_X10_65 rfl rfl rfl ?_
  refine gx_iload_n 1 dX10_alone_4 rfl rfl ?_
  refine gx_callV 1 (As := [.int x1]) (st := []) dX10_alone_5 ml_X10_114 mm_X1_has rfl rfl rfl rfl rfl rfl ⟨rfl, rfl⟩ h (fun v h2 hq => ?_)
  clear h
  obtain ⟨b4, I1, L2, c3, rfl, rfl, h⟩ := hq
  obtain ⟨rfl, h⟩ := h
  show Z_J_alone g Q 8 [(0, .ref 0), (1, .int x1), (2, .int x2), (3, .int x3)] [.int (gm_b b4)] I1 L2 ((some 12), (some 13), t)
  refine gx_if_ne 15 dX10_alone_8 (by decide) ⟨fun z => ?_, fun z => ?_⟩
  · replace h := h.1 (gm_b0.mp z)
    refine gx_ldc2 dX10_alone_11 kl_X10_302 ?_
    exact gx_lret dX10_alone_14 rfl rfl rfl ⟨_, _, _, _, rfl, rfl, h⟩
  · replace h := h.2 (gm_bn0 z)
    refine gx_iload_n 2 dX10_alone_15 rfl rfl ?_
    refine gx_iconst (v := 1) dX10_alone_16 (by decide) ?_
    refine gx_icmp_lt 36 dX10_alone_17 (by decide) ⟨fun z => ?_, fun z => ?_⟩
    · replace h := h.1 z
      refine gx_ldc2 dX10_alone_36 kl_X10_290 ?_
      exact gx_lret dX10_alone_39 rfl rfl rfl ⟨_, _, _, _, rfl, rfl, h⟩
    · replace h := h.2 z
      refine gx_iload_n 2 dX10_alone_20 rfl rfl ?_
      refine gx_bipush (v := 8) dX10_alone_21 (by decide) ?_
      refine gx_icmp_gt 36 dX10_alone_23 (by decide) ⟨fun z => ?_, fun z => ?_⟩
      · replace h := h.1 z
        refine gx_ldc2 dX10_alone_36 kl_X10_290 ?_
        exact gx_lret dX10_alone_39 rfl rfl rfl ⟨_, _, _, _, rfl, rfl, h⟩
      · replace h := h.2 z
        refine gx_iload_n 3 dX10_alone_26 rfl rfl ?_
        refine gx_if_lt 36 dX10_alone_27 (by decide) ⟨fun z => ?_, fun z => ?_⟩
        · replace h := h.1 z
          refine gx_ldc2 dX10_alone_36 kl_X10_290 ?_
          exact gx_lret dX10_alone_39 rfl rfl rfl ⟨_, _, _, _, rfl, rfl, h⟩
        · replace h := h.2 z
          refine gx_iload_n 3 dX10_alone_30 rfl rfl ?_
          refine gx_bipush (v := 20) dX10_alone_31 (by decide) ?_
          refine gx_icmp_le 40 dX10_alone_33 (by decide) ⟨fun z => ?_, fun z => ?_⟩
          · replace h := h.1 z
            refine gx_aload_n 0 dX10_alone_40 rfl rfl ?_
            refine gx_getr 10 10 (v := 11) dX10_alone_41 fl_X10_44 rfl rfl rfl ?_
            refine gx_aload_n 0 dX10_alone_44 rfl rfl ?_
            refine gx_getr 10 2 (v := 16) dX10_alone_45 fl_X10_65 rfl rfl rfl ?_
            refine gx_getr 1 7 (v := 18) dX10_alone_48 fl_X10_122 rfl rfl rfl ?_
            refine gx_iload_n 1 dX10_alone_51 rfl rfl ?_
            obtain ⟨hi, h⟩ := h
            refine gx_iald (v := (I1 18 (Int32.toNatClampNeg x1))) dX10_alone_52 rfl rfl hi (k := (Int32.toNatClampNeg x1)) rfl rfl ?_
            refine gx_callV 3 (As := [.int (I1 18 (Int32.toNatClampNeg x1))]) (st := []) dX10_alone_53 ml_X10_356 mm_X3_start rfl rfl rfl rfl rfl rfl ⟨rfl, rfl⟩ h (fun v h2 hq => ?_)
            clear h
            obtain ⟨I5, L6, c7, rfl, rfl, h⟩ := hq
            obtain ⟨rfl, h⟩ := h
            show Z_J_alone g Q 56 [(0, .ref 0), (1, .int x1), (2, .int x2), (3, .int x3)] [] I5 L6 ((some 12), (some 13), t)
            refine gx_iconst (v := 0) dX10_alone_56 (by decide) ?_
            refine gx_istore (lv' := [(0, .ref 0), (1, .int x1), (2, .int x2), (3, .int x3), (4, .int 0)]) dX10_alone_57 rfl rfl ?_
            exact h
          · replace h := h.2 z
            refine gx_ldc2 dX10_alone_36 kl_X10_290 ?_
            exact gx_lret dX10_alone_39 rfl rfl rfl ⟨_, _, _, _, rfl, rfl, h⟩
set_option maxRecDepth 100000 in
theorem e_J_alone_ba {g : gm_G} {Q : Int64 → mI → mL → gm_cfg → Prop} {x1 x2 x3 : Int32} {I : mI} {L : mL} {t : Option Nat} (h : (C_Fe16_has g x1 I L ((some 13), (some 12), t) (fun b4 I1 L2 c3 => c3 = ((some 13), (some 12), t) ∧ ((b4 = false → Q (-2) I1 L2 ((some 13), (some 12), t)) ∧ (b4 = true → ((x2 < 1 → Q (-3) I1 L2 ((some 13), (some 12), t)) ∧ (¬ x2 < 1 → ((8 < x2 → Q (-3) I1 L2 ((some 13), (some 12), t)) ∧ (¬ 8 < x2 → ((x3 < 0 → Q (-3) I1 L2 ((some 13), (some 12), t)) ∧ (¬ x3 < 0 → ((x3 ≤ 20 → (vp_in x1 6 ∧ (C_Of_start g (I1 18 (Int32.toNatClampNeg x1)) I1 L2 ((some 13), (some 12), t) (fun I5 L6 c7 => c7 = ((some 13), (some 12), t) ∧ Z_J_alone g Q 59 [(0, .ref 0), (1, .int x1), (2, .int x2), (3, .int x3), (4, .int 0)] [] I5 L6 ((some 13), (some 12), t))))) ∧ (¬ x3 ≤ 20 → Q (-3) I1 L2 ((some 13), (some 12), t)))))))))))))) : C_J_alone g x1 x2 x3 I L ((some 13), (some 12), t) Q := by
  refine gm_enter (lv := [(0, .ref 0), (1, .int x1), (2, .int x2), (3, .int x3)]) (by decide) rfl rfl rfl rfl ?_
  show Z_J_alone g Q 0 [(0, .ref 0), (1, .int x1), (2, .int x2), (3, .int x3)] [] I L ((some 13), (some 12), t)
  refine gx_aload_n 0 dX10_alone_0 rfl rfl ?_
  refine gx_getr 10 2 (v := 16) dX10_alone_1 fl_X10_65 rfl rfl rfl ?_
  refine gx_iload_n 1 dX10_alone_4 rfl rfl ?_
  refine gx_callV 1 (As := [.int x1]) (st := []) dX10_alone_5 ml_X10_114 mm_X1_has rfl rfl rfl rfl rfl rfl ⟨rfl, rfl⟩ h (fun v h2 hq => ?_)
  clear h
  obtain ⟨b4, I1, L2, c3, rfl, rfl, h⟩ := hq
  obtain ⟨rfl, h⟩ := h
  show Z_J_alone g Q 8 [(0, .ref 0), (1, .int x1), (2, .int x2), (3, .int x3)] [.int (gm_b b4)] I1 L2 ((some 13), (some 12), t)
  refine gx_if_ne 15 dX10_alone_8 (by decide) ⟨fun z => ?_, fun z => ?_⟩
  · replace h := h.1 (gm_b0.mp z)
    refine gx_ldc2 dX10_alone_11 kl_X10_302 ?_
    exact gx_lret dX10_alone_14 rfl rfl rfl ⟨_, _, _, _, rfl, rfl, h⟩
  · replace h := h.2 (gm_bn0 z)
    refine gx_iload_n 2 dX10_alone_15 rfl rfl ?_
    refine gx_iconst (v := 1) dX10_alone_16 (by decide) ?_
    refine gx_icmp_lt 36 dX10_alone_17 (by decide) ⟨fun z => ?_, fun z => ?_⟩
    · replace h := h.1 z
      refine gx_ldc2 dX10_alone_36 kl_X10_290 ?_
      exact gx_lret dX10_alone_39 rfl rfl rfl ⟨_, _, _, _, rfl, rfl, h⟩
    · replace h := h.2 z
      refine gx_iload_n 2 dX10_alone_20 rfl rfl ?_
      refine gx_bipush (v := 8) dX10_alone_21 (by decide) ?_
      refine gx_icmp_gt 36 dX10_alone_23 (by decide) ⟨fun z => ?_, fun z => ?_⟩
      · replace h := h.1 z
        refine gx_ldc2 dX10_alone_36 kl_X10_290 ?_
        exact gx_lret dX10_alone_39 rfl rfl rfl ⟨_, _, _, _, rfl, rfl, h⟩
      · replace h := h.2 z
        refine gx_iload_n 3 dX10_alone_26 rfl rfl ?_
        refine gx_if_lt 36 dX10_alone_27 (by decide) ⟨fun z => ?_, fun z => ?_⟩
        · replace h := h.1 z
          refine gx_ldc2 dX10_alone_36 kl_X10_290 ?_
          exact gx_lret dX10_alone_39 rfl rfl rfl ⟨_, _, _, _, rfl, rfl, h⟩
        · replace h := h.2 z
          refine gx_iload_n 3 dX10_alone_30 rfl rfl ?_
          refine gx_bipush (v := 20) dX10_alone_31 (by decide) ?_
          refine gx_icmp_le 40 dX10_alone_33 (by decide) ⟨fun z => ?_, fun z => ?_⟩
          · replace h := h.1 z
            refine gx_aload_n 0 dX10_alone_40 rfl rfl ?_
            refine gx_getr 10 10 (v := 11) dX10_alone_41 fl_X10_44 rfl rfl rfl ?_
            refine gx_aload_n 0 dX10_alone_44 rfl rfl ?_
            refine gx_getr 10 2 (v := 16) dX10_alone_45 fl_X10_65 rfl rfl rfl ?_
            refine gx_getr 1 7 (v := 18) dX10_alone_48 fl_X10_122 rfl rfl rfl ?_
            refine gx_iload_n 1 dX10_alone_51 rfl rfl ?_
            obtain ⟨hi, h⟩ := h
            refine gx_iald (v := (I1 18 (Int32.toNatClampNeg x1))) dX10_alone_52 rfl rfl hi (k := (Int32.toNatClampNeg x1)) rfl rfl ?_
            refine gx_callV 3 (As := [.int (I1 18 (Int32.toNatClampNeg x1))]) (st := []) dX10_alone_53 ml_X10_356 mm_X3_start rfl rfl rfl rfl rfl rfl ⟨rfl, rfl⟩ h (fun v h2 hq => ?_)
            clear h
            obtain ⟨I5, L6, c7, rfl, rfl, h⟩ := hq
            obtain ⟨rfl, h⟩ := h
            show Z_J_alone g Q 56 [(0, .ref 0), (1, .int x1), (2, .int x2), (3, .int x3)] [] I5 L6 ((some 13), (some 12), t)
            refine gx_iconst (v := 0) dX10_alone_56 (by decide) ?_
            refine gx_istore (lv' := [(0, .ref 0), (1, .int x1), (2, .int x2), (3, .int x3), (4, .int 0)]) dX10_alone_57 rfl rfl ?_
            exact h
          · replace h := h.2 z
            refine gx_ldc2 dX10_alone_36 kl_X10_290 ?_
            exact gx_lret dX10_alone_39 rfl rfl rfl ⟨_, _, _, _, rfl, rfl, h⟩
set_option maxRecDepth 100000 in
theorem r_J_alone_59_ab {g : gm_G} {Q : Int64 → mI → mL → gm_cfg → Prop} {x1 x2 x3 x4 : Int32} {I : mI} {L : mL} {t : Option Nat} (h : ((x2 ≤ x4 → (C_Of_within g (x2 * x3) I L ((some 12), (some 13), t) (fun r4 I1 L2 c3 => c3 = ((some 12), (some 13), t) ∧ Q r4 I1 L2 ((some 12), (some 13), t)))) ∧ (¬ x2 ≤ x4 → (C_Of_addOne g I L ((some 12), (some 13), t) (fun I5 L6 c7 => c7 = ((some 13), (some 12), t) ∧ Z_J_alone g Q 59 [(0, .ref 0), (1, .int x1), (2, .int x2), (3, .int x3), (4, .int (x4 + 1))] [] I5 L6 ((some 13), (some 12), t)))))) : Z_J_alone g Q 59 [(0, .ref 0), (1, .int x1), (2, .int x2), (3, .int x3), (4, .int x4)] [] I L ((some 12), (some 13), t) := by
  refine gx_iload 4 dX10_alone_59 rfl ?_
  refine gx_iload_n 2 dX10_alone_61 rfl rfl ?_
  refine gx_icmp_ge 78 dX10_alone_62 (by decide) ⟨fun z => ?_, fun z => ?_⟩
  · replace h := h.1 z
    refine gx_aload_n 0 dX10_alone_78 rfl rfl ?_
    refine gx_getr 10 10 (v := 11) dX10_alone_79 fl_X10_44 rfl rfl rfl ?_
    refine gx_iload_n 2 dX10_alone_82 rfl rfl ?_
    refine gx_iload_n 3 dX10_alone_83 rfl rfl ?_
    refine gx_imul dX10_alone_84 ?_
    refine gx_callV 3 (As := [.int (x2 * x3)]) (st := []) dX10_alone_85 ml_X10_360 mm_X3_within rfl rfl rfl rfl rfl rfl ⟨rfl, rfl⟩ h (fun v h2 hq => ?_)
    clear h
    obtain ⟨r4, I1, L2, c3, rfl, rfl, h⟩ := hq
    obtain ⟨rfl, h⟩ := h
    show Z_J_alone g Q 88 [(0, .ref 0), (1, .int x1), (2, .int x2), (3, .int x3), (4, .int x4)] [.long r4] I1 L2 ((some 12), (some 13), t)
    exact gx_lret dX10_alone_88 rfl rfl rfl ⟨_, _, _, _, rfl, rfl, h⟩
  · replace h := h.2 z
    refine gx_aload_n 0 dX10_alone_65 rfl rfl ?_
    refine gx_getr 10 10 (v := 11) dX10_alone_66 fl_X10_44 rfl rfl rfl ?_
    refine gx_callV 3 (As := []) (st := []) dX10_alone_69 ml_X10_357 mm_X3_addOne rfl rfl rfl rfl rfl rfl ⟨rfl, rfl⟩ h (fun v h2 hq => ?_)
    clear h
    obtain ⟨I5, L6, c7, rfl, rfl, h⟩ := hq
    obtain ⟨rfl, h⟩ := h
    show Z_J_alone g Q 72 [(0, .ref 0), (1, .int x1), (2, .int x2), (3, .int x3), (4, .int x4)] [] I5 L6 ((some 13), (some 12), t)
    refine gx_iinc (v := (x4 + 1)) (lv' := [(0, .ref 0), (1, .int x1), (2, .int x2), (3, .int x3), (4, .int (x4 + 1))]) 4 dX10_alone_72 rfl rfl rfl rfl ?_
    refine gx_goto 59 dX10_alone_75 (by decide) ?_
    exact h
set_option maxRecDepth 100000 in
theorem r_J_alone_59_ba {g : gm_G} {Q : Int64 → mI → mL → gm_cfg → Prop} {x1 x2 x3 x4 : Int32} {I : mI} {L : mL} {t : Option Nat} (h : ((x2 ≤ x4 → (C_Of_within g (x2 * x3) I L ((some 13), (some 12), t) (fun r4 I1 L2 c3 => c3 = ((some 13), (some 12), t) ∧ Q r4 I1 L2 ((some 13), (some 12), t)))) ∧ (¬ x2 ≤ x4 → (C_Of_addOne g I L ((some 13), (some 12), t) (fun I5 L6 c7 => c7 = ((some 12), (some 13), t) ∧ Z_J_alone g Q 59 [(0, .ref 0), (1, .int x1), (2, .int x2), (3, .int x3), (4, .int (x4 + 1))] [] I5 L6 ((some 12), (some 13), t)))))) : Z_J_alone g Q 59 [(0, .ref 0), (1, .int x1), (2, .int x2), (3, .int x3), (4, .int x4)] [] I L ((some 13), (some 12), t) := by
  refine gx_iload 4 dX10_alone_59 rfl ?_
  refine gx_iload_n 2 dX10_alone_61 rfl rfl ?_
  refine gx_icmp_ge 78 dX10_alone_62 (by decide) ⟨fun z => ?_, fun z => ?_⟩
  · replace h := h.1 z
    refine gx_aload_n 0 dX10_alone_78 rfl rfl ?_
    refine gx_getr 10 10 (v := 11) dX10_alone_79 fl_X10_44 rfl rfl rfl ?_
    refine gx_iload_n 2 dX10_alone_82 rfl rfl ?_
    refine gx_iload_n 3 dX10_alone_83 rfl rfl ?_
    refine gx_imul dX10_alone_84 ?_
    refine gx_callV 3 (As := [.int (x2 * x3)]) (st := []) dX10_alone_85 ml_X10_360 mm_X3_within rfl rfl rfl rfl rfl rfl ⟨rfl, rfl⟩ h (fun v h2 hq => ?_)
    clear h
    obtain ⟨r4, I1, L2, c3, rfl, rfl, h⟩ := hq
    obtain ⟨rfl, h⟩ := h
    show Z_J_alone g Q 88 [(0, .ref 0), (1, .int x1), (2, .int x2), (3, .int x3), (4, .int x4)] [.long r4] I1 L2 ((some 13), (some 12), t)
    exact gx_lret dX10_alone_88 rfl rfl rfl ⟨_, _, _, _, rfl, rfl, h⟩
  · replace h := h.2 z
    refine gx_aload_n 0 dX10_alone_65 rfl rfl ?_
    refine gx_getr 10 10 (v := 11) dX10_alone_66 fl_X10_44 rfl rfl rfl ?_
    refine gx_callV 3 (As := []) (st := []) dX10_alone_69 ml_X10_357 mm_X3_addOne rfl rfl rfl rfl rfl rfl ⟨rfl, rfl⟩ h (fun v h2 hq => ?_)
    clear h
    obtain ⟨I5, L6, c7, rfl, rfl, h⟩ := hq
    obtain ⟨rfl, h⟩ := h
    show Z_J_alone g Q 72 [(0, .ref 0), (1, .int x1), (2, .int x2), (3, .int x3), (4, .int x4)] [] I5 L6 ((some 12), (some 13), t)
    refine gx_iinc (v := (x4 + 1)) (lv' := [(0, .ref 0), (1, .int x1), (2, .int x2), (3, .int x3), (4, .int (x4 + 1))]) 4 dX10_alone_72 rfl rfl rfl rfl ?_
    refine gx_goto 59 dX10_alone_75 (by decide) ?_
    exact h
abbrev Z_J_fewest (g : gm_G) (Q : Int32 → mI → mL → gm_cfg → Prop) (pc : Nat) (lv : List (Nat × Value)) (st : List Value) (I : mI) (L : mL) (c : gm_cfg) : Prop := gm_X g RX10 "fewest" cX10_fewest 5 (some .int) 2 0 0 (qI Q) 0 0 pc lv st (SH, I, L, RR c)
abbrev C_J_fewest (g : gm_G) (x1 : Int32) (x2 : Int32) (x3 : Int32) (I : mI) (L : mL) (c : gm_cfg) (Q : Int32 → mI → mL → gm_cfg → Prop) : Prop := gm_Met g yX10_fewest cX10_fewest 5 (some .int) 2 0 0 [.ref 0, .int x1, .int x2, .int x3] (SH, I, L, RR c) (qI Q)
set_option maxRecDepth 100000 in
theorem e_J_fewest_ab {g : gm_G} {Q : Int32 → mI → mL → gm_cfg → Prop} {x1 x2 x3 : Int32} {I : mI} {L : mL} {t : Option Nat} (h : (C_Fe16_has g x1 I L ((some 12), (some 13), t) (fun b4 I1 L2 c3 => c3 = ((some 12), (some 13), t) ∧ ((b4 = false → Q (-2) I1 L2 ((some 12), (some 13), t)) ∧ (b4 = true → ((x2 < 0 → Q (-3) I1 L2 ((some 12), (some 13), t)) ∧ (¬ x2 < 0 → ((20 < x2 → Q (-3) I1 L2 ((some 12), (some 13), t)) ∧ (¬ 20 < x2 → ((x3 < 0 → Q (-3) I1 L2 ((some 12), (some 13), t)) ∧ (¬ x3 < 0 → ((x3 ≤ 100 → (vp_in x1 6 ∧ (C_Of_start g (I1 18 (Int32.toNatClampNeg x1)) I1 L2 ((some 12), (some 13), t) (fun I5 L6 c7 => c7 = ((some 12), (some 13), t) ∧ Z_J_fewest g Q 56 [(0, .ref 0), (1, .int x1), (2, .int x2), (3, .int x3), (4, .int 1)] [] I5 L6 ((some 12), (some 13), t))))) ∧ (¬ x3 ≤ 100 → Q (-3) I1 L2 ((some 12), (some 13), t)))))))))))))) : C_J_fewest g x1 x2 x3 I L ((some 12), (some 13), t) Q := by
  refine gm_enter (lv := [(0, .ref 0), (1, .int x1), (2, .int x2), (3, .int x3)]) (by decide) rfl rfl rfl rfl ?_
  show Z_J_fewest g Q 0 [(0, .ref 0), (1, .int x1), (2, .int x2), (3, .int x3)] [] I L ((some 12), (some 13), t)
  refine gx_aload_n 0 dX10_fewest_0 rfl rfl ?_
  refine gx_getr 10 2 (v := 16) dX10_fewest_1 fl_X10_65 rfl rfl rfl ?_
  refine gx_iload_n 1 dX10_fewest_4 rfl rfl ?_
  refine gx_callV 1 (As := [.int x1]) (st := []) dX10_fewest_5 ml_X10_114 mm_X1_has rfl rfl rfl rfl rfl rfl ⟨rfl, rfl⟩ h (fun v h2 hq => ?_)
  clear h
  obtain ⟨b4, I1, L2, c3, rfl, rfl, h⟩ := hq
  obtain ⟨rfl, h⟩ := h
  show Z_J_fewest g Q 8 [(0, .ref 0), (1, .int x1), (2, .int x2), (3, .int x3)] [.int (gm_b b4)] I1 L2 ((some 12), (some 13), t)
  refine gx_if_ne 14 dX10_fewest_8 (by decide) ⟨fun z => ?_, fun z => ?_⟩
  · replace h := h.1 (gm_b0.mp z)
    refine gx_bipush (v := (-2)) dX10_fewest_11 (by decide) ?_
    exact gx_iret dX10_fewest_13 rfl rfl rfl ⟨_, _, _, _, rfl, rfl, h⟩
  · replace h := h.2 (gm_bn0 z)
    refine gx_iload_n 2 dX10_fewest_14 rfl rfl ?_
    refine gx_if_lt 34 dX10_fewest_15 (by decide) ⟨fun z => ?_, fun z => ?_⟩
    · replace h := h.1 z
      refine gx_bipush (v := (-3)) dX10_fewest_34 (by decide) ?_
      exact gx_iret dX10_fewest_36 rfl rfl rfl ⟨_, _, _, _, rfl, rfl, h⟩
    · replace h := h.2 z
      refine gx_iload_n 2 dX10_fewest_18 rfl rfl ?_
      refine gx_bipush (v := 20) dX10_fewest_19 (by decide) ?_
      refine gx_icmp_gt 34 dX10_fewest_21 (by decide) ⟨fun z => ?_, fun z => ?_⟩
      · replace h := h.1 z
        refine gx_bipush (v := (-3)) dX10_fewest_34 (by decide) ?_
        exact gx_iret dX10_fewest_36 rfl rfl rfl ⟨_, _, _, _, rfl, rfl, h⟩
      · replace h := h.2 z
        refine gx_iload_n 3 dX10_fewest_24 rfl rfl ?_
        refine gx_if_lt 34 dX10_fewest_25 (by decide) ⟨fun z => ?_, fun z => ?_⟩
        · replace h := h.1 z
          refine gx_bipush (v := (-3)) dX10_fewest_34 (by decide) ?_
          exact gx_iret dX10_fewest_36 rfl rfl rfl ⟨_, _, _, _, rfl, rfl, h⟩
        · replace h := h.2 z
          refine gx_iload_n 3 dX10_fewest_28 rfl rfl ?_
          refine gx_bipush (v := 100) dX10_fewest_29 (by decide) ?_
          refine gx_icmp_le 37 dX10_fewest_31 (by decide) ⟨fun z => ?_, fun z => ?_⟩
          · replace h := h.1 z
            refine gx_aload_n 0 dX10_fewest_37 rfl rfl ?_
            refine gx_getr 10 10 (v := 11) dX10_fewest_38 fl_X10_44 rfl rfl rfl ?_
            refine gx_aload_n 0 dX10_fewest_41 rfl rfl ?_
            refine gx_getr 10 2 (v := 16) dX10_fewest_42 fl_X10_65 rfl rfl rfl ?_
            refine gx_getr 1 7 (v := 18) dX10_fewest_45 fl_X10_122 rfl rfl rfl ?_
            refine gx_iload_n 1 dX10_fewest_48 rfl rfl ?_
            obtain ⟨hi, h⟩ := h
            refine gx_iald (v := (I1 18 (Int32.toNatClampNeg x1))) dX10_fewest_49 rfl rfl hi (k := (Int32.toNatClampNeg x1)) rfl rfl ?_
            refine gx_callV 3 (As := [.int (I1 18 (Int32.toNatClampNeg x1))]) (st := []) dX10_fewest_50 ml_X10_356 mm_X3_start rfl rfl rfl rfl rfl rfl ⟨rfl, rfl⟩ h (fun v h2 hq => ?_)
            clear h
            obtain ⟨I5, L6, c7, rfl, rfl, h⟩ := hq
            obtain ⟨rfl, h⟩ := h
            show Z_J_fewest g Q 53 [(0, .ref 0), (1, .int x1), (2, .int x2), (3, .int x3)] [] I5 L6 ((some 12), (some 13), t)
            refine gx_iconst (v := 1) dX10_fewest_53 (by decide) ?_
            refine gx_istore (lv' := [(0, .ref 0), (1, .int x1), (2, .int x2), (3, .int x3), (4, .int 1)]) dX10_fewest_54 rfl rfl ?_
            exact h
          · replace h := h.2 z
            refine gx_bipush (v := (-3)) dX10_fewest_34 (by decide) ?_
            exact gx_iret dX10_fewest_36 rfl rfl rfl ⟨_, _, _, _, rfl, rfl, h⟩
set_option maxRecDepth 100000 in
theorem e_J_fewest_ba {g : gm_G} {Q : Int32 → mI → mL → gm_cfg → Prop} {x1 x2 x3 : Int32} {I : mI} {L : mL} {t : Option Nat} (h : (C_Fe16_has g x1 I L ((some 13), (some 12), t) (fun b4 I1 L2 c3 => c3 = ((some 13), (some 12), t) ∧ ((b4 = false → Q (-2) I1 L2 ((some 13), (some 12), t)) ∧ (b4 = true → ((x2 < 0 → Q (-3) I1 L2 ((some 13), (some 12), t)) ∧ (¬ x2 < 0 → ((20 < x2 → Q (-3) I1 L2 ((some 13), (some 12), t)) ∧ (¬ 20 < x2 → ((x3 < 0 → Q (-3) I1 L2 ((some 13), (some 12), t)) ∧ (¬ x3 < 0 → ((x3 ≤ 100 → (vp_in x1 6 ∧ (C_Of_start g (I1 18 (Int32.toNatClampNeg x1)) I1 L2 ((some 13), (some 12), t) (fun I5 L6 c7 => c7 = ((some 13), (some 12), t) ∧ Z_J_fewest g Q 56 [(0, .ref 0), (1, .int x1), (2, .int x2), (3, .int x3), (4, .int 1)] [] I5 L6 ((some 13), (some 12), t))))) ∧ (¬ x3 ≤ 100 → Q (-3) I1 L2 ((some 13), (some 12), t)))))))))))))) : C_J_fewest g x1 x2 x3 I L ((some 13), (some 12), t) Q := by
  refine gm_enter (lv := [(0, .ref 0), (1, .int x1), (2, .int x2), (3, .int x3)]) (by decide) rfl rfl rfl rfl ?_
  show Z_J_fewest g Q 0 [(0, .ref 0), (1, .int x1), (2, .int x2), (3, .int x3)] [] I L ((some 13), (some 12), t)
  refine gx_aload_n 0 dX10_fewest_0 rfl rfl ?_
  refine gx_getr 10 2 (v := 16) dX10_fewest_1 fl_X10_65 rfl rfl rfl ?_
  refine gx_iload_n 1 dX10_fewest_4 rfl rfl ?_
  refine gx_callV 1 (As := [.int x1]) (st := []) dX10_fewest_5 ml_X10_114 mm_X1_has rfl rfl rfl rfl rfl rfl ⟨rfl, rfl⟩ h (fun v h2 hq => ?_)
  clear h
  obtain ⟨b4, I1, L2, c3, rfl, rfl, h⟩ := hq
  obtain ⟨rfl, h⟩ := h
  show Z_J_fewest g Q 8 [(0, .ref 0), (1, .int x1), (2, .int x2), (3, .int x3)] [.int (gm_b b4)] I1 L2 ((some 13), (some 12), t)
  refine gx_if_ne 14 dX10_fewest_8 (by decide) ⟨fun z => ?_, fun z => ?_⟩
  · replace h := h.1 (gm_b0.mp z)
    refine gx_bipush (v := (-2)) dX10_fewest_11 (by decide) ?_
    exact gx_iret dX10_fewest_13 rfl rfl rfl ⟨_, _, _, _, rfl, rfl, h⟩
  · replace h := h.2 (gm_bn0 z)
    refine gx_iload_n 2 dX10_fewest_14 rfl rfl ?_
    refine gx_if_lt 34 dX10_fewest_15 (by decide) ⟨fun z => ?_, fun z => ?_⟩
    · replace h := h.1 z
      refine gx_bipush (v := (-3)) dX10_fewest_34 (by decide) ?_
      exact gx_iret dX10_fewest_36 rfl rfl rfl ⟨_, _, _, _, rfl, rfl, h⟩
    · replace h := h.2 z
      refine gx_iload_n 2 dX10_fewest_18 rfl rfl ?_
      refine gx_bipush (v := 20) dX10_fewest_19 (by decide) ?_
      refine gx_icmp_gt 34 dX10_fewest_21 (by decide) ⟨fun z => ?_, fun z => ?_⟩
      · replace h := h.1 z
        refine gx_bipush (v := (-3)) dX10_fewest_34 (by decide) ?_
        exact gx_iret dX10_fewest_36 rfl rfl rfl ⟨_, _, _, _, rfl, rfl, h⟩
      · replace h := h.2 z
        refine gx_iload_n 3 dX10_fewest_24 rfl rfl ?_
        refine gx_if_lt 34 dX10_fewest_25 (by decide) ⟨fun z => ?_, fun z => ?_⟩
        · replace h := h.1 z
          refine gx_bipush (v := (-3)) dX10_fewest_34 (by decide) ?_
          exact gx_iret dX10_fewest_36 rfl rfl rfl ⟨_, _, _, _, rfl, rfl, h⟩
        · replace h := h.2 z
          refine gx_iload_n 3 dX10_fewest_28 rfl rfl ?_
          refine gx_bipush (v := 100) dX10_fewest_29 (by decide) ?_
          refine gx_icmp_le 37 dX10_fewest_31 (by decide) ⟨fun z => ?_, fun z => ?_⟩
          · replace h := h.1 z
            refine gx_aload_n 0 dX10_fewest_37 rfl rfl ?_
            refine gx_getr 10 10 (v := 11) dX10_fewest_38 fl_X10_44 rfl rfl rfl ?_
            refine gx_aload_n 0 dX10_fewest_41 rfl rfl ?_
            refine gx_getr 10 2 (v := 16) dX10_fewest_42 fl_X10_65 rfl rfl rfl ?_
            refine gx_getr 1 7 (v := 18) dX10_fewest_45 fl_X10_122 rfl rfl rfl ?_
            refine gx_iload_n 1 dX10_fewest_48 rfl rfl ?_
            obtain ⟨hi, h⟩ := h
            refine gx_iald (v := (I1 18 (Int32.toNatClampNeg x1))) dX10_fewest_49 rfl rfl hi (k := (Int32.toNatClampNeg x1)) rfl rfl ?_
            refine gx_callV 3 (As := [.int (I1 18 (Int32.toNatClampNeg x1))]) (st := []) dX10_fewest_50 ml_X10_356 mm_X3_start rfl rfl rfl rfl rfl rfl ⟨rfl, rfl⟩ h (fun v h2 hq => ?_)
            clear h
            obtain ⟨I5, L6, c7, rfl, rfl, h⟩ := hq
            obtain ⟨rfl, h⟩ := h
            show Z_J_fewest g Q 53 [(0, .ref 0), (1, .int x1), (2, .int x2), (3, .int x3)] [] I5 L6 ((some 13), (some 12), t)
            refine gx_iconst (v := 1) dX10_fewest_53 (by decide) ?_
            refine gx_istore (lv' := [(0, .ref 0), (1, .int x1), (2, .int x2), (3, .int x3), (4, .int 1)]) dX10_fewest_54 rfl rfl ?_
            exact h
          · replace h := h.2 z
            refine gx_bipush (v := (-3)) dX10_fewest_34 (by decide) ?_
            exact gx_iret dX10_fewest_36 rfl rfl rfl ⟨_, _, _, _, rfl, rfl, h⟩
set_option maxRecDepth 100000 in
theorem r_J_fewest_56_ab {g : gm_G} {Q : Int32 → mI → mL → gm_cfg → Prop} {x1 x2 x3 x4 : Int32} {I : mI} {L : mL} {t : Option Nat} (h : ((8 < x4 → Q (-1) I L ((some 12), (some 13), t)) ∧ (¬ 8 < x4 → (C_Of_addOne g I L ((some 12), (some 13), t) (fun I1 L2 c3 => c3 = ((some 13), (some 12), t) ∧ (C_Of_within g (x4 * x2) I1 L2 ((some 13), (some 12), t) (fun r7 I4 L5 c6 => c6 = ((some 13), (some 12), t) ∧ (((r7 * 100) < ((Int32.toInt64 x3) * (L5 11 0)) → Z_J_fewest g Q 56 [(0, .ref 0), (1, .int x1), (2, .int x2), (3, .int x3), (4, .int (x4 + 1))] [] I4 L5 ((some 13), (some 12), t)) ∧ (¬ (r7 * 100) < ((Int32.toInt64 x3) * (L5 11 0)) → Q x4 I4 L5 ((some 13), (some 12), t)))))))))) : Z_J_fewest g Q 56 [(0, .ref 0), (1, .int x1), (2, .int x2), (3, .int x3), (4, .int x4)] [] I L ((some 12), (some 13), t) := by
  refine gx_iload 4 dX10_fewest_56 rfl ?_
  refine gx_bipush (v := 8) dX10_fewest_58 (by decide) ?_
  refine gx_icmp_gt 108 dX10_fewest_60 (by decide) ⟨fun z => ?_, fun z => ?_⟩
  · replace h := h.1 z
    refine gx_iconst (v := (-1)) dX10_fewest_108 (by decide) ?_
    exact gx_iret dX10_fewest_109 rfl rfl rfl ⟨_, _, _, _, rfl, rfl, h⟩
  · replace h := h.2 z
    refine gx_aload_n 0 dX10_fewest_63 rfl rfl ?_
    refine gx_getr 10 10 (v := 11) dX10_fewest_64 fl_X10_44 rfl rfl rfl ?_
    refine gx_callV 3 (As := []) (st := []) dX10_fewest_67 ml_X10_357 mm_X3_addOne rfl rfl rfl rfl rfl rfl ⟨rfl, rfl⟩ h (fun v h2 hq => ?_)
    clear h
    obtain ⟨I1, L2, c3, rfl, rfl, h⟩ := hq
    obtain ⟨rfl, h⟩ := h
    show Z_J_fewest g Q 70 [(0, .ref 0), (1, .int x1), (2, .int x2), (3, .int x3), (4, .int x4)] [] I1 L2 ((some 13), (some 12), t)
    refine gx_aload_n 0 dX10_fewest_70 rfl rfl ?_
    refine gx_getr 10 10 (v := 11) dX10_fewest_71 fl_X10_44 rfl rfl rfl ?_
    refine gx_iload 4 dX10_fewest_74 rfl ?_
    refine gx_iload_n 2 dX10_fewest_76 rfl rfl ?_
    refine gx_imul dX10_fewest_77 ?_
    refine gx_callV 3 (As := [.int (x4 * x2)]) (st := []) dX10_fewest_78 ml_X10_360 mm_X3_within rfl rfl rfl rfl rfl rfl ⟨rfl, rfl⟩ h (fun v h2 hq => ?_)
    clear h
    obtain ⟨r7, I4, L5, c6, rfl, rfl, h⟩ := hq
    obtain ⟨rfl, h⟩ := h
    show Z_J_fewest g Q 81 [(0, .ref 0), (1, .int x1), (2, .int x2), (3, .int x3), (4, .int x4)] [.long r7] I4 L5 ((some 13), (some 12), t)
    refine gx_ldc2 dX10_fewest_81 kl_X10_363 ?_
    refine gx_lmul dX10_fewest_84 ?_
    refine gx_iload_n 3 dX10_fewest_85 rfl rfl ?_
    refine gx_i2l dX10_fewest_86 ?_
    refine gx_aload_n 0 dX10_fewest_87 rfl rfl ?_
    refine gx_getr 10 10 (v := 11) dX10_fewest_88 fl_X10_44 rfl rfl rfl ?_
    refine gx_getl 3 0 (v := (L5 11 0)) dX10_fewest_91 fl_X10_365 rfl rfl rfl ?_
    refine gx_lmul dX10_fewest_94 ?_
    refine gx_lcmp_lt 102 dX10_fewest_95 dX10_fewest_96 (by decide) ⟨fun z => ?_, fun z => ?_⟩
    · replace h := h.1 z
      refine gx_iinc (v := (x4 + 1)) (lv' := [(0, .ref 0), (1, .int x1), (2, .int x2), (3, .int x3), (4, .int (x4 + 1))]) 4 dX10_fewest_102 rfl rfl rfl rfl ?_
      refine gx_goto 56 dX10_fewest_105 (by decide) ?_
      exact h
    · replace h := h.2 z
      refine gx_iload 4 dX10_fewest_99 rfl ?_
      exact gx_iret dX10_fewest_101 rfl rfl rfl ⟨_, _, _, _, rfl, rfl, h⟩
set_option maxRecDepth 100000 in
theorem r_J_fewest_56_ba {g : gm_G} {Q : Int32 → mI → mL → gm_cfg → Prop} {x1 x2 x3 x4 : Int32} {I : mI} {L : mL} {t : Option Nat} (h : ((8 < x4 → Q (-1) I L ((some 13), (some 12), t)) ∧ (¬ 8 < x4 → (C_Of_addOne g I L ((some 13), (some 12), t) (fun I1 L2 c3 => c3 = ((some 12), (some 13), t) ∧ (C_Of_within g (x4 * x2) I1 L2 ((some 12), (some 13), t) (fun r7 I4 L5 c6 => c6 = ((some 12), (some 13), t) ∧ (((r7 * 100) < ((Int32.toInt64 x3) * (L5 11 0)) → Z_J_fewest g Q 56 [(0, .ref 0), (1, .int x1), (2, .int x2), (3, .int x3), (4, .int (x4 + 1))] [] I4 L5 ((some 12), (some 13), t)) ∧ (¬ (r7 * 100) < ((Int32.toInt64 x3) * (L5 11 0)) → Q x4 I4 L5 ((some 12), (some 13), t)))))))))) : Z_J_fewest g Q 56 [(0, .ref 0), (1, .int x1), (2, .int x2), (3, .int x3), (4, .int x4)] [] I L ((some 13), (some 12), t) := by
  refine gx_iload 4 dX10_fewest_56 rfl ?_
  refine gx_bipush (v := 8) dX10_fewest_58 (by decide) ?_
  refine gx_icmp_gt 108 dX10_fewest_60 (by decide) ⟨fun z => ?_, fun z => ?_⟩
  · replace h := h.1 z
    refine gx_iconst (v := (-1)) dX10_fewest_108 (by decide) ?_
    exact gx_iret dX10_fewest_109 rfl rfl rfl ⟨_, _, _, _, rfl, rfl, h⟩
  · replace h := h.2 z
    refine gx_aload_n 0 dX10_fewest_63 rfl rfl ?_
    refine gx_getr 10 10 (v := 11) dX10_fewest_64 fl_X10_44 rfl rfl rfl ?_
    refine gx_callV 3 (As := []) (st := []) dX10_fewest_67 ml_X10_357 mm_X3_addOne rfl rfl rfl rfl rfl rfl ⟨rfl, rfl⟩ h (fun v h2 hq => ?_)
    clear h
    obtain ⟨I1, L2, c3, rfl, rfl, h⟩ := hq
    obtain ⟨rfl, h⟩ := h
    show Z_J_fewest g Q 70 [(0, .ref 0), (1, .int x1), (2, .int x2), (3, .int x3), (4, .int x4)] [] I1 L2 ((some 12), (some 13), t)
    refine gx_aload_n 0 dX10_fewest_70 rfl rfl ?_
    refine gx_getr 10 10 (v := 11) dX10_fewest_71 fl_X10_44 rfl rfl rfl ?_
    refine gx_iload 4 dX10_fewest_74 rfl ?_
    refine gx_iload_n 2 dX10_fewest_76 rfl rfl ?_
    refine gx_imul dX10_fewest_77 ?_
    refine gx_callV 3 (As := [.int (x4 * x2)]) (st := []) dX10_fewest_78 ml_X10_360 mm_X3_within rfl rfl rfl rfl rfl rfl ⟨rfl, rfl⟩ h (fun v h2 hq => ?_)
    clear h
    obtain ⟨r7, I4, L5, c6, rfl, rfl, h⟩ := hq
    obtain ⟨rfl, h⟩ := h
    show Z_J_fewest g Q 81 [(0, .ref 0), (1, .int x1), (2, .int x2), (3, .int x3), (4, .int x4)] [.long r7] I4 L5 ((some 12), (some 13), t)
    refine gx_ldc2 dX10_fewest_81 kl_X10_363 ?_
    refine gx_lmul dX10_fewest_84 ?_
    refine gx_iload_n 3 dX10_fewest_85 rfl rfl ?_
    refine gx_i2l dX10_fewest_86 ?_
    refine gx_aload_n 0 dX10_fewest_87 rfl rfl ?_
    refine gx_getr 10 10 (v := 11) dX10_fewest_88 fl_X10_44 rfl rfl rfl ?_
    refine gx_getl 3 0 (v := (L5 11 0)) dX10_fewest_91 fl_X10_365 rfl rfl rfl ?_
    refine gx_lmul dX10_fewest_94 ?_
    refine gx_lcmp_lt 102 dX10_fewest_95 dX10_fewest_96 (by decide) ⟨fun z => ?_, fun z => ?_⟩
    · replace h := h.1 z
      refine gx_iinc (v := (x4 + 1)) (lv' := [(0, .ref 0), (1, .int x1), (2, .int x2), (3, .int x3), (4, .int (x4 + 1))]) 4 dX10_fewest_102 rfl rfl rfl rfl ?_
      refine gx_goto 56 dX10_fewest_105 (by decide) ?_
      exact h
    · replace h := h.2 z
      refine gx_iload 4 dX10_fewest_99 rfl ?_
      exact gx_iret dX10_fewest_101 rfl rfl rfl ⟨_, _, _, _, rfl, rfl, h⟩
abbrev Z_J_toldOfTrial (g : gm_G) (Q : Int32 → mI → mL → gm_cfg → Prop) (pc : Nat) (lv : List (Nat × Value)) (st : List Value) (I : mI) (L : mL) (c : gm_cfg) : Prop := gm_X g RX10 "toldOfTrial" cX10_toldOfTrial 5 (some .int) 3 0 0 (qI Q) 0 0 pc lv st (SH, I, L, RR c)
abbrev C_J_toldOfTrial (g : gm_G) (x1 : Int32) (I : mI) (L : mL) (c : gm_cfg) (Q : Int32 → mI → mL → gm_cfg → Prop) : Prop := gm_Met g yX10_toldOfTrial cX10_toldOfTrial 5 (some .int) 3 0 0 [.ref 0, .int x1] (SH, I, L, RR c) (qI Q)
set_option maxRecDepth 100000 in
theorem e_J_toldOfTrial {g : gm_G} {Q : Int32 → mI → mL → gm_cfg → Prop} {x1 : Int32} {I : mI} {L : mL} {c : gm_cfg} (h : (C_Sh7_nearestTo g (I 16 12) I L c (fun r4 I1 L2 c3 => (C_Sh7_meanOf g (I1 7 2) I1 L2 c3 (fun r8 I5 L6 c7 => (C_J_offJar g r8 I5 L6 c7 (fun r12 I9 L10 c11 => (C_Sh7_has g r4 I9 L10 c11 (fun b16 I13 L14 c15 => ((b16 = false → ((x1 = 0 → Q r12 I13 L14 c15) ∧ (¬ x1 = 0 → ((x1 = 1 → Q 0 I13 L14 c15) ∧ (¬ x1 = 1 → ((0 ≤ r12 → Q 0 I13 L14 c15) ∧ (¬ 0 ≤ r12 → Q 1 I13 L14 c15))))))) ∧ (b16 = true → (vp_in r4 40 ∧ (C_J_offJar g (I13 8 (Int32.toNatClampNeg r4)) I13 L14 c15 (fun r20 I17 L18 c19 => ((x1 = 0 → Q r12 I17 L18 c19) ∧ (¬ x1 = 0 → ((x1 = 1 → Q r20 I17 L18 c19) ∧ (¬ x1 = 1 → ((r20 ≤ r12 → Q 0 I17 L18 c19) ∧ (¬ r20 ≤ r12 → Q 1 I17 L18 c19)))))))))))))))))))) : C_J_toldOfTrial g x1 I L c Q := by
  refine gm_enter (lv := [(0, .ref 0), (1, .int x1)]) (by decide) rfl rfl rfl rfl ?_
  show Z_J_toldOfTrial g Q 0 [(0, .ref 0), (1, .int x1)] [] I L c
  refine gx_aload_n 0 dX10_toldOfTrial_0 rfl rfl ?_
  refine gx_getr 10 6 (v := 7) dX10_toldOfTrial_1 fl_X10_30 rfl rfl rfl ?_
  refine gx_aload_n 0 dX10_toldOfTrial_4 rfl rfl ?_
  refine gx_getr 10 2 (v := 16) dX10_toldOfTrial_5 fl_X10_65 rfl rfl rfl ?_
  refine gx_geti 1 12 (v := (I 16 12)) dX10_toldOfTrial_8 fl_X10_148 rfl rfl rfl ?_
  refine gx_callV 8 (As := [.int (I 16 12)]) (st := []) dX10_toldOfTrial_11 ml_X10_236 mm_X8_nearestTo rfl rfl rfl rfl rfl rfl ⟨rfl, rfl⟩ h (fun v h2 hq => ?_)
  clear h
  obtain ⟨r4, I1, L2, c3, rfl, rfl, h⟩ := hq
  show Z_J_toldOfTrial g Q 14 [(0, .ref 0), (1, .int x1)] [.int r4] I1 L2 c3
  refine gx_istore_n (lv' := [(0, .ref 0), (1, .int x1), (2, .int r4)]) dX10_toldOfTrial_14 rfl rfl rfl ?_
  refine gx_aload_n 0 dX10_toldOfTrial_15 rfl rfl ?_
  refine gx_aload_n 0 dX10_toldOfTrial_16 rfl rfl ?_
  refine gx_getr 10 6 (v := 7) dX10_toldOfTrial_17 fl_X10_30 rfl rfl rfl ?_
  refine gx_aload_n 0 dX10_toldOfTrial_20 rfl rfl ?_
  refine gx_getr 10 6 (v := 7) dX10_toldOfTrial_21 fl_X10_30 rfl rfl rfl ?_
  refine gx_geti 8 2 (v := (I1 7 2)) dX10_toldOfTrial_24 fl_X10_154 rfl rfl rfl ?_
  refine gx_callV 8 (As := [.int (I1 7 2)]) (st := [.ref 0]) dX10_toldOfTrial_27 ml_X10_262 mm_X8_meanOf rfl rfl rfl rfl rfl rfl ⟨rfl, rfl⟩ h (fun v h2 hq => ?_)
  clear h
  obtain ⟨r8, I5, L6, c7, rfl, rfl, h⟩ := hq
  show Z_J_toldOfTrial g Q 30 [(0, .ref 0), (1, .int x1), (2, .int r4)] [.int r8, .ref 0] I5 L6 c7
  refine gx_callV 10 (As := [.int r8]) (st := []) dX10_toldOfTrial_30 ml_X10_176 mm_X10_offJar rfl rfl rfl rfl rfl rfl ⟨rfl, rfl⟩ h (fun v h2 hq => ?_)
  clear h
  obtain ⟨r12, I9, L10, c11, rfl, rfl, h⟩ := hq
  show Z_J_toldOfTrial g Q 33 [(0, .ref 0), (1, .int x1), (2, .int r4)] [.int r12] I9 L10 c11
  refine gx_istore_n (lv' := [(0, .ref 0), (1, .int x1), (2, .int r4), (3, .int r12)]) dX10_toldOfTrial_33 rfl rfl rfl ?_
  refine gx_aload_n 0 dX10_toldOfTrial_34 rfl rfl ?_
  refine gx_getr 10 6 (v := 7) dX10_toldOfTrial_35 fl_X10_30 rfl rfl rfl ?_
  refine gx_iload_n 2 dX10_toldOfTrial_38 rfl rfl ?_
  refine gx_callV 8 (As := [.int r4]) (st := []) dX10_toldOfTrial_39 ml_X10_161 mm_X8_has rfl rfl rfl rfl rfl rfl ⟨rfl, rfl⟩ h (fun v h2 hq => ?_)
  clear h
  obtain ⟨b16, I13, L14, c15, rfl, rfl, h⟩ := hq
  show Z_J_toldOfTrial g Q 42 [(0, .ref 0), (1, .int x1), (2, .int r4), (3, .int r12)] [.int (gm_b b16)] I13 L14 c15
  refine gx_if_eq 61 dX10_toldOfTrial_42 (by decide) ⟨fun z => ?_, fun z => ?_⟩
  · replace h := h.1 (gm_b0.mp z)
    refine gx_iconst (v := 0) dX10_toldOfTrial_61 (by decide) ?_
    refine gx_istore (lv' := [(0, .ref 0), (1, .int x1), (2, .int r4), (3, .int r12), (4, .int 0)]) dX10_toldOfTrial_62 rfl rfl ?_
    refine gx_iload_n 1 dX10_toldOfTrial_64 rfl rfl ?_
    refine gx_lsw [(0, 92), (1, 94)] 97 dX10_toldOfTrial_65 (by decide +kernel) (by decide +kernel) ?_
    refine ⟨fun z => ?_, fun z => ?_⟩
    · replace h := h.1 z
      show Z_J_toldOfTrial g Q 92 [(0, .ref 0), (1, .int x1), (2, .int r4), (3, .int r12), (4, .int 0)] [] I13 L14 c15
      refine gx_iload_n 3 dX10_toldOfTrial_92 rfl rfl ?_
      exact gx_iret dX10_toldOfTrial_93 rfl rfl rfl ⟨_, _, _, _, rfl, rfl, h⟩
    · replace h := h.2 z
      refine ⟨fun z => ?_, fun z => ?_⟩
      · replace h := h.1 z
        show Z_J_toldOfTrial g Q 94 [(0, .ref 0), (1, .int x1), (2, .int r4), (3, .int r12), (4, .int 0)] [] I13 L14 c15
        refine gx_iload 4 dX10_toldOfTrial_94 rfl ?_
        exact gx_iret dX10_toldOfTrial_96 rfl rfl rfl ⟨_, _, _, _, rfl, rfl, h⟩
      · replace h := h.2 z
        show Z_J_toldOfTrial g Q 97 [(0, .ref 0), (1, .int x1), (2, .int r4), (3, .int r12), (4, .int 0)] [] I13 L14 c15
        refine gx_iload_n 3 dX10_toldOfTrial_97 rfl rfl ?_
        refine gx_iload 4 dX10_toldOfTrial_98 rfl ?_
        refine gx_icmp_ge 107 dX10_toldOfTrial_100 (by decide) ⟨fun z => ?_, fun z => ?_⟩
        · replace h := h.1 z
          refine gx_iconst (v := 0) dX10_toldOfTrial_107 (by decide) ?_
          exact gx_iret dX10_toldOfTrial_108 rfl rfl rfl ⟨_, _, _, _, rfl, rfl, h⟩
        · replace h := h.2 z
          refine gx_iconst (v := 1) dX10_toldOfTrial_103 (by decide) ?_
          refine gx_goto 108 dX10_toldOfTrial_104 (by decide) ?_
          exact gx_iret dX10_toldOfTrial_108 rfl rfl rfl ⟨_, _, _, _, rfl, rfl, h⟩
  · replace h := h.2 (gm_bn0 z)
    refine gx_aload_n 0 dX10_toldOfTrial_45 rfl rfl ?_
    refine gx_aload_n 0 dX10_toldOfTrial_46 rfl rfl ?_
    refine gx_getr 10 6 (v := 7) dX10_toldOfTrial_47 fl_X10_30 rfl rfl rfl ?_
    refine gx_getr 8 0 (v := 8) dX10_toldOfTrial_50 fl_X10_162 rfl rfl rfl ?_
    refine gx_iload_n 2 dX10_toldOfTrial_53 rfl rfl ?_
    obtain ⟨hi, h⟩ := h
    refine gx_iald (v := (I13 8 (Int32.toNatClampNeg r4))) dX10_toldOfTrial_54 rfl rfl hi (k := (Int32.toNatClampNeg r4)) rfl rfl ?_
    refine gx_callV 10 (As := [.int (I13 8 (Int32.toNatClampNeg r4))]) (st := []) dX10_toldOfTrial_55 ml_X10_176 mm_X10_offJar rfl rfl rfl rfl rfl rfl ⟨rfl, rfl⟩ h (fun v h2 hq => ?_)
    clear h
    obtain ⟨r20, I17, L18, c19, rfl, rfl, h⟩ := hq
    show Z_J_toldOfTrial g Q 58 [(0, .ref 0), (1, .int x1), (2, .int r4), (3, .int r12)] [.int r20] I17 L18 c19
    refine gx_goto 62 dX10_toldOfTrial_58 (by decide) ?_
    refine gx_istore (lv' := [(0, .ref 0), (1, .int x1), (2, .int r4), (3, .int r12), (4, .int r20)]) dX10_toldOfTrial_62 rfl rfl ?_
    refine gx_iload_n 1 dX10_toldOfTrial_64 rfl rfl ?_
    refine gx_lsw [(0, 92), (1, 94)] 97 dX10_toldOfTrial_65 (by decide +kernel) (by decide +kernel) ?_
    refine ⟨fun z => ?_, fun z => ?_⟩
    · replace h := h.1 z
      show Z_J_toldOfTrial g Q 92 [(0, .ref 0), (1, .int x1), (2, .int r4), (3, .int r12), (4, .int r20)] [] I17 L18 c19
      refine gx_iload_n 3 dX10_toldOfTrial_92 rfl rfl ?_
      exact gx_iret dX10_toldOfTrial_93 rfl rfl rfl ⟨_, _, _, _, rfl, rfl, h⟩
    · replace h := h.2 z
      refine ⟨fun z => ?_, fun z => ?_⟩
      · replace h := h.1 z
        show Z_J_toldOfTrial g Q 94 [(0, .ref 0), (1, .int x1), (2, .int r4), (3, .int r12), (4, .int r20)] [] I17 L18 c19
        refine gx_iload 4 dX10_toldOfTrial_94 rfl ?_
        exact gx_iret dX10_toldOfTrial_96 rfl rfl rfl ⟨_, _, _, _, rfl, rfl, h⟩
      · replace h := h.2 z
        show Z_J_toldOfTrial g Q 97 [(0, .ref 0), (1, .int x1), (2, .int r4), (3, .int r12), (4, .int r20)] [] I17 L18 c19
        refine gx_iload_n 3 dX10_toldOfTrial_97 rfl rfl ?_
        refine gx_iload 4 dX10_toldOfTrial_98 rfl ?_
        refine gx_icmp_ge 107 dX10_toldOfTrial_100 (by decide) ⟨fun z => ?_, fun z => ?_⟩
        · replace h := h.1 z
          refine gx_iconst (v := 0) dX10_toldOfTrial_107 (by decide) ?_
          exact gx_iret dX10_toldOfTrial_108 rfl rfl rfl ⟨_, _, _, _, rfl, rfl, h⟩
        · replace h := h.2 z
          refine gx_iconst (v := 1) dX10_toldOfTrial_103 (by decide) ?_
          refine gx_goto 108 dX10_toldOfTrial_104 (by decide) ?_
          exact gx_iret dX10_toldOfTrial_108 rfl rfl rfl ⟨_, _, _, _, rfl, rfl, h⟩
abbrev Z_J_fetes (g : gm_G) (Q : Int32 → mI → mL → gm_cfg → Prop) (pc : Nat) (lv : List (Nat × Value)) (st : List Value) (I : mI) (L : mL) (c : gm_cfg) : Prop := gm_X g RX10 "fetes" cX10_fetes 8 (some .int) 5 0 0 (qI Q) 0 0 pc lv st (SH, I, L, RR c)
abbrev C_J_fetes (g : gm_G) (x1 : Int32) (x2 : Int32) (x3 : Int32) (x4 : Int32) (x5 : Int32) (I : mI) (L : mL) (c : gm_cfg) (Q : Int32 → mI → mL → gm_cfg → Prop) : Prop := gm_Met g yX10_fetes cX10_fetes 8 (some .int) 5 0 0 [.ref 0, .int x1, .int x2, .int x3, .int x4, .int x5] (SH, I, L, RR c) (qI Q)
set_option maxRecDepth 100000 in
theorem e_J_fetes {g : gm_G} {Q : Int32 → mI → mL → gm_cfg → Prop} {x1 x2 x3 x4 x5 : Int32} {I : mI} {L : mL} {c : gm_cfg} (h : ((x5 < 0 → Q (-2) I L c) ∧ (¬ x5 < 0 → ((x5 ≤ 2 → ((x2 < 1 → Q (-3) I L c) ∧ (¬ x2 < 1 → ((40 < x2 → Q (-3) I L c) ∧ (¬ 40 < x2 → ((x3 < 1 → Q (-3) I L c) ∧ (¬ x3 < 1 → ((x3 ≤ 30 → (C_J_canDraw g I L c (fun b4 I1 L2 c3 => ((b4 = false → Q (-5) I1 L2 c3) ∧ (b4 = true → (C_Dr_start g x1 I1 L2 c3 (fun I5 L6 c7 => Z_J_fetes g Q 63 [(0, .ref 0), (1, .int x1), (2, .int x2), (3, .int x3), (4, .int x4), (5, .int x5), (6, .int 0), (7, .int 0)] [] I5 L6 c7))))))) ∧ (¬ x3 ≤ 30 → Q (-3) I L c))))))))) ∧ (¬ x5 ≤ 2 → Q (-2) I L c))))) : C_J_fetes g x1 x2 x3 x4 x5 I L c Q := by
  refine gm_enter (lv := [(0, .ref 0), (1, .int x1), (2, .int x2), (3, .int x3), (4, .int x4), (5, .int x5)]) (by decide) rfl rfl rfl rfl ?_
  show Z_J_fetes g Q 0 [(0, .ref 0), (1, .int x1), (2, .int x2), (3, .int x3), (4, .int x4), (5, .int x5)] [] I L c
  refine gx_iload 5 dX10_fetes_0 rfl ?_
  refine gx_if_lt 11 dX10_fetes_2 (by decide) ⟨fun z => ?_, fun z => ?_⟩
  · replace h := h.1 z
    refine gx_bipush (v := (-2)) dX10_fetes_11 (by decide) ?_
    exact gx_iret dX10_fetes_13 rfl rfl rfl ⟨_, _, _, _, rfl, rfl, h⟩
  · replace h := h.2 z
    refine gx_iload 5 dX10_fetes_5 rfl ?_
    refine gx_iconst (v := 2) dX10_fetes_7 (by decide) ?_
    refine gx_icmp_le 14 dX10_fetes_8 (by decide) ⟨fun z => ?_, fun z => ?_⟩
    · replace h := h.1 z
      refine gx_iload_n 2 dX10_fetes_14 rfl rfl ?_
      refine gx_iconst (v := 1) dX10_fetes_15 (by decide) ?_
      refine gx_icmp_lt 36 dX10_fetes_16 (by decide) ⟨fun z => ?_, fun z => ?_⟩
      · replace h := h.1 z
        refine gx_bipush (v := (-3)) dX10_fetes_36 (by decide) ?_
        exact gx_iret dX10_fetes_38 rfl rfl rfl ⟨_, _, _, _, rfl, rfl, h⟩
      · replace h := h.2 z
        refine gx_iload_n 2 dX10_fetes_19 rfl rfl ?_
        refine gx_bipush (v := 40) dX10_fetes_20 (by decide) ?_
        refine gx_icmp_gt 36 dX10_fetes_22 (by decide) ⟨fun z => ?_, fun z => ?_⟩
        · replace h := h.1 z
          refine gx_bipush (v := (-3)) dX10_fetes_36 (by decide) ?_
          exact gx_iret dX10_fetes_38 rfl rfl rfl ⟨_, _, _, _, rfl, rfl, h⟩
        · replace h := h.2 z
          refine gx_iload_n 3 dX10_fetes_25 rfl rfl ?_
          refine gx_iconst (v := 1) dX10_fetes_26 (by decide) ?_
          refine gx_icmp_lt 36 dX10_fetes_27 (by decide) ⟨fun z => ?_, fun z => ?_⟩
          · replace h := h.1 z
            refine gx_bipush (v := (-3)) dX10_fetes_36 (by decide) ?_
            exact gx_iret dX10_fetes_38 rfl rfl rfl ⟨_, _, _, _, rfl, rfl, h⟩
          · replace h := h.2 z
            refine gx_iload_n 3 dX10_fetes_30 rfl rfl ?_
            refine gx_bipush (v := 30) dX10_fetes_31 (by decide) ?_
            refine gx_icmp_le 39 dX10_fetes_33 (by decide) ⟨fun z => ?_, fun z => ?_⟩
            · replace h := h.1 z
              refine gx_aload_n 0 dX10_fetes_39 rfl rfl ?_
              refine gx_callV 10 (As := []) (st := []) dX10_fetes_40 ml_X10_226 mm_X10_canDraw rfl rfl rfl rfl rfl rfl ⟨rfl, rfl⟩ h (fun v h2 hq => ?_)
              clear h
              obtain ⟨b4, I1, L2, c3, rfl, rfl, h⟩ := hq
              show Z_J_fetes g Q 43 [(0, .ref 0), (1, .int x1), (2, .int x2), (3, .int x3), (4, .int x4), (5, .int x5)] [.int (gm_b b4)] I1 L2 c3
              refine gx_if_ne 49 dX10_fetes_43 (by decide) ⟨fun z => ?_, fun z => ?_⟩
              · replace h := h.1 (gm_b0.mp z)
                refine gx_bipush (v := (-5)) dX10_fetes_46 (by decide) ?_
                exact gx_iret dX10_fetes_48 rfl rfl rfl ⟨_, _, _, _, rfl, rfl, h⟩
              · replace h := h.2 (gm_bn0 z)
                refine gx_aload_n 0 dX10_fetes_49 rfl rfl ?_
                refine gx_getr 10 7 (v := 10) dX10_fetes_50 fl_X10_37 rfl rfl rfl ?_
                refine gx_iload_n 1 dX10_fetes_53 rfl rfl ?_
                refine gx_callV 0 (As := [.int x1]) (st := []) dX10_fetes_54 ml_X10_229 mm_X0_start rfl rfl rfl rfl rfl rfl ⟨rfl, rfl⟩ h (fun v h2 hq => ?_)
                clear h
                obtain ⟨I5, L6, c7, rfl, rfl, h⟩ := hq
                show Z_J_fetes g Q 57 [(0, .ref 0), (1, .int x1), (2, .int x2), (3, .int x3), (4, .int x4), (5, .int x5)] [] I5 L6 c7
                refine gx_iconst (v := 0) dX10_fetes_57 (by decide) ?_
                refine gx_istore (lv' := [(0, .ref 0), (1, .int x1), (2, .int x2), (3, .int x3), (4, .int x4), (5, .int x5), (6, .int 0)]) dX10_fetes_58 rfl rfl ?_
                refine gx_iconst (v := 0) dX10_fetes_60 (by decide) ?_
                refine gx_istore (lv' := [(0, .ref 0), (1, .int x1), (2, .int x2), (3, .int x3), (4, .int x4), (5, .int x5), (6, .int 0), (7, .int 0)]) dX10_fetes_61 rfl rfl ?_
                exact h
            · replace h := h.2 z
              refine gx_bipush (v := (-3)) dX10_fetes_36 (by decide) ?_
              exact gx_iret dX10_fetes_38 rfl rfl rfl ⟨_, _, _, _, rfl, rfl, h⟩
    · replace h := h.2 z
      refine gx_bipush (v := (-2)) dX10_fetes_11 (by decide) ?_
      exact gx_iret dX10_fetes_13 rfl rfl rfl ⟨_, _, _, _, rfl, rfl, h⟩
set_option maxRecDepth 100000 in
theorem r_J_fetes_63 {g : gm_G} {Q : Int32 → mI → mL → gm_cfg → Prop} {x1 x2 x3 x4 x5 x6 x7 : Int32} {I : mI} {L : mL} {c : gm_cfg} (h : ((x2 ≤ x7 → Q x6 I L c) ∧ (¬ x2 ≤ x7 → (C_Sh7_cutTo g 0 I L c (fun I1 L2 c3 => ((x4 = 0 → (C_Dr_fill_16_7 g x3 1 I1 L2 c3 (fun I4 L5 c6 => (C_J_toldOfTrial g x5 I4 L5 c6 (fun r10 I7 L8 c9 => Z_J_fetes g Q 63 [(0, .ref 0), (1, .int x1), (2, .int x2), (3, .int x3), (4, .int x4), (5, .int x5), (6, .int (x6 + r10)), (7, .int (x7 + 1))] [] I7 L8 c9))))) ∧ (¬ x4 = 0 → (C_Dr_fill_16_7 g x3 0 I1 L2 c3 (fun I11 L12 c13 => (C_J_toldOfTrial g x5 I11 L12 c13 (fun r17 I14 L15 c16 => Z_J_fetes g Q 63 [(0, .ref 0), (1, .int x1), (2, .int x2), (3, .int x3), (4, .int x4), (5, .int x5), (6, .int (x6 + r17)), (7, .int (x7 + 1))] [] I14 L15 c16))))))))))) : Z_J_fetes g Q 63 [(0, .ref 0), (1, .int x1), (2, .int x2), (3, .int x3), (4, .int x4), (5, .int x5), (6, .int x6), (7, .int x7)] [] I L c := by
  refine gx_iload 7 dX10_fetes_63 rfl ?_
  refine gx_iload_n 2 dX10_fetes_65 rfl rfl ?_
  refine gx_icmp_ge 120 dX10_fetes_66 (by decide) ⟨fun z => ?_, fun z => ?_⟩
  · replace h := h.1 z
    refine gx_iload 6 dX10_fetes_120 rfl ?_
    exact gx_iret dX10_fetes_122 rfl rfl rfl ⟨_, _, _, _, rfl, rfl, h⟩
  · replace h := h.2 z
    refine gx_aload_n 0 dX10_fetes_69 rfl rfl ?_
    refine gx_getr 10 6 (v := 7) dX10_fetes_70 fl_X10_30 rfl rfl rfl ?_
    refine gx_iconst (v := 0) dX10_fetes_73 (by decide) ?_
    refine gx_callV 8 (As := [.int 0]) (st := []) dX10_fetes_74 ml_X10_105 mm_X8_cutTo rfl rfl rfl rfl rfl rfl ⟨rfl, rfl⟩ h (fun v h2 hq => ?_)
    clear h
    obtain ⟨I1, L2, c3, rfl, rfl, h⟩ := hq
    show Z_J_fetes g Q 77 [(0, .ref 0), (1, .int x1), (2, .int x2), (3, .int x3), (4, .int x4), (5, .int x5), (6, .int x6), (7, .int x7)] [] I1 L2 c3
    refine gx_aload_n 0 dX10_fetes_77 rfl rfl ?_
    refine gx_getr 10 7 (v := 10) dX10_fetes_78 fl_X10_37 rfl rfl rfl ?_
    refine gx_aload_n 0 dX10_fetes_81 rfl rfl ?_
    refine gx_getr 10 2 (v := 16) dX10_fetes_82 fl_X10_65 rfl rfl rfl ?_
    refine gx_aload_n 0 dX10_fetes_85 rfl rfl ?_
    refine gx_getr 10 6 (v := 7) dX10_fetes_86 fl_X10_30 rfl rfl rfl ?_
    refine gx_iload_n 3 dX10_fetes_89 rfl rfl ?_
    refine gx_iload 4 dX10_fetes_90 rfl ?_
    refine gx_if_ne 99 dX10_fetes_92 (by decide) ⟨fun z => ?_, fun z => ?_⟩
    · replace h := h.1 z
      refine gx_iconst (v := 1) dX10_fetes_95 (by decide) ?_
      refine gx_goto 100 dX10_fetes_96 (by decide) ?_
      refine gx_callV 0 (As := [.ref 16, .ref 7, .int x3, .int 1]) (st := []) dX10_fetes_100 ml_X10_232 mm_X0_fill rfl rfl rfl rfl rfl rfl ⟨rfl, rfl⟩ h (fun v h2 hq => ?_)
      clear h
      obtain ⟨I4, L5, c6, rfl, rfl, h⟩ := hq
      show Z_J_fetes g Q 103 [(0, .ref 0), (1, .int x1), (2, .int x2), (3, .int x3), (4, .int x4), (5, .int x5), (6, .int x6), (7, .int x7)] [] I4 L5 c6
      refine gx_iload 6 dX10_fetes_103 rfl ?_
      refine gx_aload_n 0 dX10_fetes_105 rfl rfl ?_
      refine gx_iload 5 dX10_fetes_106 rfl ?_
      refine gx_callV 10 (As := [.int x5]) (st := [.int x6]) dX10_fetes_108 ml_X10_368 mm_X10_toldOfTrial rfl rfl rfl rfl rfl rfl ⟨rfl, rfl⟩ h (fun v h2 hq => ?_)
      clear h
      obtain ⟨r10, I7, L8, c9, rfl, rfl, h⟩ := hq
      show Z_J_fetes g Q 111 [(0, .ref 0), (1, .int x1), (2, .int x2), (3, .int x3), (4, .int x4), (5, .int x5), (6, .int x6), (7, .int x7)] [.int r10, .int x6] I7 L8 c9
      refine gx_iadd dX10_fetes_111 ?_
      refine gx_istore (lv' := [(0, .ref 0), (1, .int x1), (2, .int x2), (3, .int x3), (4, .int x4), (5, .int x5), (6, .int (x6 + r10)), (7, .int x7)]) dX10_fetes_112 rfl rfl ?_
      refine gx_iinc (v := (x7 + 1)) (lv' := [(0, .ref 0), (1, .int x1), (2, .int x2), (3, .int x3), (4, .int x4), (5, .int x5), (6, .int (x6 + r10)), (7, .int (x7 + 1))]) 7 dX10_fetes_114 rfl rfl rfl rfl ?_
      refine gx_goto 63 dX10_fetes_117 (by decide) ?_
      exact h
    · replace h := h.2 z
      refine gx_iconst (v := 0) dX10_fetes_99 (by decide) ?_
      refine gx_callV 0 (As := [.ref 16, .ref 7, .int x3, .int 0]) (st := []) dX10_fetes_100 ml_X10_232 mm_X0_fill rfl rfl rfl rfl rfl rfl ⟨rfl, rfl⟩ h (fun v h2 hq => ?_)
      clear h
      obtain ⟨I11, L12, c13, rfl, rfl, h⟩ := hq
      show Z_J_fetes g Q 103 [(0, .ref 0), (1, .int x1), (2, .int x2), (3, .int x3), (4, .int x4), (5, .int x5), (6, .int x6), (7, .int x7)] [] I11 L12 c13
      refine gx_iload 6 dX10_fetes_103 rfl ?_
      refine gx_aload_n 0 dX10_fetes_105 rfl rfl ?_
      refine gx_iload 5 dX10_fetes_106 rfl ?_
      refine gx_callV 10 (As := [.int x5]) (st := [.int x6]) dX10_fetes_108 ml_X10_368 mm_X10_toldOfTrial rfl rfl rfl rfl rfl rfl ⟨rfl, rfl⟩ h (fun v h2 hq => ?_)
      clear h
      obtain ⟨r17, I14, L15, c16, rfl, rfl, h⟩ := hq
      show Z_J_fetes g Q 111 [(0, .ref 0), (1, .int x1), (2, .int x2), (3, .int x3), (4, .int x4), (5, .int x5), (6, .int x6), (7, .int x7)] [.int r17, .int x6] I14 L15 c16
      refine gx_iadd dX10_fetes_111 ?_
      refine gx_istore (lv' := [(0, .ref 0), (1, .int x1), (2, .int x2), (3, .int x3), (4, .int x4), (5, .int x5), (6, .int (x6 + r17)), (7, .int x7)]) dX10_fetes_112 rfl rfl ?_
      refine gx_iinc (v := (x7 + 1)) (lv' := [(0, .ref 0), (1, .int x1), (2, .int x2), (3, .int x3), (4, .int x4), (5, .int x5), (6, .int (x6 + r17)), (7, .int (x7 + 1))]) 7 dX10_fetes_114 rfl rfl rfl rfl ?_
      refine gx_goto 63 dX10_fetes_117 (by decide) ?_
      exact h
abbrev Z_J_isGlass (g : gm_G) (Q : Bool → mI → mL → gm_cfg → Prop) (pc : Nat) (lv : List (Nat × Value)) (st : List Value) (I : mI) (L : mL) (c : gm_cfg) : Prop := gm_X g RX10 "isGlass" cX10_isGlass 2 (some .boolean) 1 0 0 (qZ Q) 0 0 pc lv st (SH, I, L, RR c)
abbrev C_J_isGlass (g : gm_G) (x0 : Int32) (x1 : Int32) (I : mI) (L : mL) (c : gm_cfg) (Q : Bool → mI → mL → gm_cfg → Prop) : Prop := gm_Met g yX10_isGlass cX10_isGlass 2 (some .boolean) 1 0 0 [.int x0, .int x1] (SH, I, L, RR c) (qZ Q)
set_option maxRecDepth 100000 in
theorem e_J_isGlass {g : gm_G} {Q : Bool → mI → mL → gm_cfg → Prop} {x0 x1 : Int32} {I : mI} {L : mL} {c : gm_cfg} (h : ((x0 < 1 → Q false I L c) ∧ (¬ x0 < 1 → ((30 < x0 → Q false I L c) ∧ (¬ 30 < x0 → ((x1 < 0 → Q false I L c) ∧ (¬ x1 < 0 → ((99 < x1 → Q false I L c) ∧ (¬ 99 < x1 → Q true I L c))))))))) : C_J_isGlass g x0 x1 I L c Q := by
  refine gm_enter (lv := [(0, .int x0), (1, .int x1)]) (by decide) rfl rfl rfl rfl ?_
  show Z_J_isGlass g Q 0 [(0, .int x0), (1, .int x1)] [] I L c
  refine gx_iload_n 0 dX10_isGlass_0 rfl rfl ?_
  refine gx_iconst (v := 1) dX10_isGlass_1 (by decide) ?_
  refine gx_icmp_lt 25 dX10_isGlass_2 (by decide) ⟨fun z => ?_, fun z => ?_⟩
  · replace h := h.1 z
    refine gx_iconst (v := 0) dX10_isGlass_25 (by decide) ?_
    exact gx_zret .boolean dX10_isGlass_26 rfl rfl rfl rfl ⟨false, _, _, _, rfl, rfl, h⟩
  · replace h := h.2 z
    refine gx_iload_n 0 dX10_isGlass_5 rfl rfl ?_
    refine gx_bipush (v := 30) dX10_isGlass_6 (by decide) ?_
    refine gx_icmp_gt 25 dX10_isGlass_8 (by decide) ⟨fun z => ?_, fun z => ?_⟩
    · replace h := h.1 z
      refine gx_iconst (v := 0) dX10_isGlass_25 (by decide) ?_
      exact gx_zret .boolean dX10_isGlass_26 rfl rfl rfl rfl ⟨false, _, _, _, rfl, rfl, h⟩
    · replace h := h.2 z
      refine gx_iload_n 1 dX10_isGlass_11 rfl rfl ?_
      refine gx_if_lt 25 dX10_isGlass_12 (by decide) ⟨fun z => ?_, fun z => ?_⟩
      · replace h := h.1 z
        refine gx_iconst (v := 0) dX10_isGlass_25 (by decide) ?_
        exact gx_zret .boolean dX10_isGlass_26 rfl rfl rfl rfl ⟨false, _, _, _, rfl, rfl, h⟩
      · replace h := h.2 z
        refine gx_iload_n 1 dX10_isGlass_15 rfl rfl ?_
        refine gx_bipush (v := 99) dX10_isGlass_16 (by decide) ?_
        refine gx_icmp_gt 25 dX10_isGlass_18 (by decide) ⟨fun z => ?_, fun z => ?_⟩
        · replace h := h.1 z
          refine gx_iconst (v := 0) dX10_isGlass_25 (by decide) ?_
          exact gx_zret .boolean dX10_isGlass_26 rfl rfl rfl rfl ⟨false, _, _, _, rfl, rfl, h⟩
        · replace h := h.2 z
          refine gx_iconst (v := 1) dX10_isGlass_21 (by decide) ?_
          refine gx_goto 26 dX10_isGlass_22 (by decide) ?_
          exact gx_zret .boolean dX10_isGlass_26 rfl rfl rfl rfl ⟨true, _, _, _, rfl, rfl, h⟩
abbrev Z_J_filled (g : gm_G) (Q : Int32 → mI → mL → gm_cfg → Prop) (pc : Nat) (lv : List (Nat × Value)) (st : List Value) (I : mI) (L : mL) (c : gm_cfg) : Prop := gm_X g RX10 "filled" cX10_filled 5 (some .int) 1 0 0 (qI Q) 0 0 pc lv st (SH, I, L, RR c)
abbrev C_J_filled (g : gm_G) (x0 : Int32) (x1 : Int32) (x2 : Int32) (I : mI) (L : mL) (c : gm_cfg) (Q : Int32 → mI → mL → gm_cfg → Prop) : Prop := gm_Met g yX10_filled cX10_filled 5 (some .int) 1 0 0 [.int x0, .int x1, .int x2] (SH, I, L, RR c) (qI Q)
set_option maxRecDepth 100000 in
theorem e_J_filled {g : gm_G} {Q : Int32 → mI → mL → gm_cfg → Prop} {x0 x1 x2 : Int32} {I : mI} {L : mL} {c : gm_cfg} (h : Q (((x0 * (1 + ((3 * x1) * (x1 + 1)))) - (((x0 / 2) * 6) * x1)) - ((((x0 * (1 + ((3 * x1) * (x1 + 1)))) - (((x0 / 2) * 6) * x1)) * x2) / 100)) I L c) : C_J_filled g x0 x1 x2 I L c Q := by
  refine gm_enter (lv := [(0, .int x0), (1, .int x1), (2, .int x2)]) (by decide) rfl rfl rfl rfl ?_
  show Z_J_filled g Q 0 [(0, .int x0), (1, .int x1), (2, .int x2)] [] I L c
  refine gx_iconst (v := 1) dX10_filled_0 (by decide) ?_
  refine gx_iconst (v := 3) dX10_filled_1 (by decide) ?_
  refine gx_iload_n 1 dX10_filled_2 rfl rfl ?_
  refine gx_imul dX10_filled_3 ?_
  refine gx_iload_n 1 dX10_filled_4 rfl rfl ?_
  refine gx_iconst (v := 1) dX10_filled_5 (by decide) ?_
  refine gx_iadd dX10_filled_6 ?_
  refine gx_imul dX10_filled_7 ?_
  refine gx_iadd dX10_filled_8 ?_
  refine gx_istore_n (lv' := [(0, .int x0), (1, .int x1), (2, .int x2), (3, .int (1 + ((3 * x1) * (x1 + 1))))]) dX10_filled_9 rfl rfl rfl ?_
  refine gx_iload_n 0 dX10_filled_10 rfl rfl ?_
  refine gx_iload_n 3 dX10_filled_11 rfl rfl ?_
  refine gx_imul dX10_filled_12 ?_
  refine gx_iload_n 0 dX10_filled_13 rfl rfl ?_
  refine gx_iconst (v := 2) dX10_filled_14 (by decide) ?_
  refine gx_idiv dX10_filled_15 (by decide) ?_
  refine gx_bipush (v := 6) dX10_filled_16 (by decide) ?_
  refine gx_imul dX10_filled_18 ?_
  refine gx_iload_n 1 dX10_filled_19 rfl rfl ?_
  refine gx_imul dX10_filled_20 ?_
  refine gx_isub dX10_filled_21 ?_
  refine gx_istore (lv' := [(0, .int x0), (1, .int x1), (2, .int x2), (3, .int (1 + ((3 * x1) * (x1 + 1)))), (4, .int ((x0 * (1 + ((3 * x1) * (x1 + 1)))) - (((x0 / 2) * 6) * x1)))]) dX10_filled_22 rfl rfl ?_
  refine gx_iload 4 dX10_filled_24 rfl ?_
  refine gx_iload 4 dX10_filled_26 rfl ?_
  refine gx_iload_n 2 dX10_filled_28 rfl rfl ?_
  refine gx_imul dX10_filled_29 ?_
  refine gx_bipush (v := 100) dX10_filled_30 (by decide) ?_
  refine gx_idiv dX10_filled_32 (by decide) ?_
  refine gx_isub dX10_filled_33 ?_
  exact gx_iret dX10_filled_34 rfl rfl rfl ⟨_, _, _, _, rfl, rfl, h⟩
abbrev Z_J_holds (g : gm_G) (Q : Int32 → mI → mL → gm_cfg → Prop) (pc : Nat) (lv : List (Nat × Value)) (st : List Value) (I : mI) (L : mL) (c : gm_cfg) : Prop := gm_X g RX10 "holds" cX10_holds 4 (some .int) 2 0 0 (qI Q) 0 0 pc lv st (SH, I, L, RR c)
abbrev C_J_holds (g : gm_G) (x1 : Int32) (x2 : Int32) (x3 : Int32) (I : mI) (L : mL) (c : gm_cfg) (Q : Int32 → mI → mL → gm_cfg → Prop) : Prop := gm_Met g yX10_holds cX10_holds 4 (some .int) 2 0 0 [.ref 0, .int x1, .int x2, .int x3] (SH, I, L, RR c) (qI Q)
set_option maxRecDepth 100000 in
theorem e_J_holds {g : gm_G} {Q : Int32 → mI → mL → gm_cfg → Prop} {x1 x2 x3 : Int32} {I : mI} {L : mL} {c : gm_cfg} (h : ((x1 < 1 → Q (-3) I L c) ∧ (¬ x1 < 1 → ((99 < x1 → Q (-3) I L c) ∧ (¬ 99 < x1 → (C_J_isGlass g x2 x3 I L c (fun b4 I1 L2 c3 => ((b4 = false → Q (-3) I1 L2 c3) ∧ (b4 = true → (C_J_filled g x1 x2 x3 I1 L2 c3 (fun r8 I5 L6 c7 => Q r8 I5 L6 c7))))))))))) : C_J_holds g x1 x2 x3 I L c Q := by
  refine gm_enter (lv := [(0, .ref 0), (1, .int x1), (2, .int x2), (3, .int x3)]) (by decide) rfl rfl rfl rfl ?_
  show Z_J_holds g Q 0 [(0, .ref 0), (1, .int x1), (2, .int x2), (3, .int x3)] [] I L c
  refine gx_iload_n 1 dX10_holds_0 rfl rfl ?_
  refine gx_iconst (v := 1) dX10_holds_1 (by decide) ?_
  refine gx_icmp_lt 19 dX10_holds_2 (by decide) ⟨fun z => ?_, fun z => ?_⟩
  · replace h := h.1 z
    refine gx_bipush (v := (-3)) dX10_holds_19 (by decide) ?_
    exact gx_iret dX10_holds_21 rfl rfl rfl ⟨_, _, _, _, rfl, rfl, h⟩
  · replace h := h.2 z
    refine gx_iload_n 1 dX10_holds_5 rfl rfl ?_
    refine gx_bipush (v := 99) dX10_holds_6 (by decide) ?_
    refine gx_icmp_gt 19 dX10_holds_8 (by decide) ⟨fun z => ?_, fun z => ?_⟩
    · replace h := h.1 z
      refine gx_bipush (v := (-3)) dX10_holds_19 (by decide) ?_
      exact gx_iret dX10_holds_21 rfl rfl rfl ⟨_, _, _, _, rfl, rfl, h⟩
    · replace h := h.2 z
      refine gx_iload_n 2 dX10_holds_11 rfl rfl ?_
      refine gx_iload_n 3 dX10_holds_12 rfl rfl ?_
      refine gx_callS (As := [.int x2, .int x3]) (st := []) dX10_holds_13 ml_X10_371 mm_X10_isGlass rfl rfl rfl rfl ⟨rfl, rfl⟩ h (fun v h2 hq => ?_)
      clear h
      obtain ⟨b4, I1, L2, c3, rfl, rfl, h⟩ := hq
      show Z_J_holds g Q 16 [(0, .ref 0), (1, .int x1), (2, .int x2), (3, .int x3)] [.int (gm_b b4)] I1 L2 c3
      refine gx_if_ne 22 dX10_holds_16 (by decide) ⟨fun z => ?_, fun z => ?_⟩
      · replace h := h.1 (gm_b0.mp z)
        refine gx_bipush (v := (-3)) dX10_holds_19 (by decide) ?_
        exact gx_iret dX10_holds_21 rfl rfl rfl ⟨_, _, _, _, rfl, rfl, h⟩
      · replace h := h.2 (gm_bn0 z)
        refine gx_iload_n 1 dX10_holds_22 rfl rfl ?_
        refine gx_iload_n 2 dX10_holds_23 rfl rfl ?_
        refine gx_iload_n 3 dX10_holds_24 rfl rfl ?_
        refine gx_callS (As := [.int x1, .int x2, .int x3]) (st := []) dX10_holds_25 ml_X10_375 mm_X10_filled rfl rfl rfl rfl ⟨rfl, rfl⟩ h (fun v h2 hq => ?_)
        clear h
        obtain ⟨r8, I5, L6, c7, rfl, rfl, h⟩ := hq
        show Z_J_holds g Q 28 [(0, .ref 0), (1, .int x1), (2, .int x2), (3, .int x3)] [.int r8] I5 L6 c7
        exact gx_iret dX10_holds_28 rfl rfl rfl ⟨_, _, _, _, rfl, rfl, h⟩
abbrev Z_J_layersFor (g : gm_G) (Q : Int32 → mI → mL → gm_cfg → Prop) (pc : Nat) (lv : List (Nat × Value)) (st : List Value) (I : mI) (L : mL) (c : gm_cfg) : Prop := gm_X g RX10 "layersFor" cX10_layersFor 5 (some .int) 2 0 0 (qI Q) 0 0 pc lv st (SH, I, L, RR c)
abbrev C_J_layersFor (g : gm_G) (x1 : Int32) (x2 : Int32) (x3 : Int32) (I : mI) (L : mL) (c : gm_cfg) (Q : Int32 → mI → mL → gm_cfg → Prop) : Prop := gm_Met g yX10_layersFor cX10_layersFor 5 (some .int) 2 0 0 [.ref 0, .int x1, .int x2, .int x3] (SH, I, L, RR c) (qI Q)
set_option maxRecDepth 100000 in
theorem e_J_layersFor {g : gm_G} {Q : Int32 → mI → mL → gm_cfg → Prop} {x1 x2 x3 : Int32} {I : mI} {L : mL} {c : gm_cfg} (h : ((x1 < 1 → Q (-3) I L c) ∧ (¬ x1 < 1 → ((9999 < x1 → Q (-3) I L c) ∧ (¬ 9999 < x1 → (C_J_isGlass g x2 x3 I L c (fun b4 I1 L2 c3 => ((b4 = false → Q (-3) I1 L2 c3) ∧ (b4 = true → Z_J_layersFor g Q 26 [(0, .ref 0), (1, .int x1), (2, .int x2), (3, .int x3), (4, .int 1)] [] I1 L2 c3))))))))) : C_J_layersFor g x1 x2 x3 I L c Q := by
  refine gm_enter (lv := [(0, .ref 0), (1, .int x1), (2, .int x2), (3, .int x3)]) (by decide) rfl rfl rfl rfl ?_
  show Z_J_layersFor g Q 0 [(0, .ref 0), (1, .int x1), (2, .int x2), (3, .int x3)] [] I L c
  refine gx_iload_n 1 dX10_layersFor_0 rfl rfl ?_
  refine gx_iconst (v := 1) dX10_layersFor_1 (by decide) ?_
  refine gx_icmp_lt 20 dX10_layersFor_2 (by decide) ⟨fun z => ?_, fun z => ?_⟩
  · replace h := h.1 z
    refine gx_bipush (v := (-3)) dX10_layersFor_20 (by decide) ?_
    exact gx_iret dX10_layersFor_22 rfl rfl rfl ⟨_, _, _, _, rfl, rfl, h⟩
  · replace h := h.2 z
    refine gx_iload_n 1 dX10_layersFor_5 rfl rfl ?_
    refine gx_sipush (v := 9999) dX10_layersFor_6 (by decide) ?_
    refine gx_icmp_gt 20 dX10_layersFor_9 (by decide) ⟨fun z => ?_, fun z => ?_⟩
    · replace h := h.1 z
      refine gx_bipush (v := (-3)) dX10_layersFor_20 (by decide) ?_
      exact gx_iret dX10_layersFor_22 rfl rfl rfl ⟨_, _, _, _, rfl, rfl, h⟩
    · replace h := h.2 z
      refine gx_iload_n 2 dX10_layersFor_12 rfl rfl ?_
      refine gx_iload_n 3 dX10_layersFor_13 rfl rfl ?_
      refine gx_callS (As := [.int x2, .int x3]) (st := []) dX10_layersFor_14 ml_X10_371 mm_X10_isGlass rfl rfl rfl rfl ⟨rfl, rfl⟩ h (fun v h2 hq => ?_)
      clear h
      obtain ⟨b4, I1, L2, c3, rfl, rfl, h⟩ := hq
      show Z_J_layersFor g Q 17 [(0, .ref 0), (1, .int x1), (2, .int x2), (3, .int x3)] [.int (gm_b b4)] I1 L2 c3
      refine gx_if_ne 23 dX10_layersFor_17 (by decide) ⟨fun z => ?_, fun z => ?_⟩
      · replace h := h.1 (gm_b0.mp z)
        refine gx_bipush (v := (-3)) dX10_layersFor_20 (by decide) ?_
        exact gx_iret dX10_layersFor_22 rfl rfl rfl ⟨_, _, _, _, rfl, rfl, h⟩
      · replace h := h.2 (gm_bn0 z)
        refine gx_iconst (v := 1) dX10_layersFor_23 (by decide) ?_
        refine gx_istore (lv' := [(0, .ref 0), (1, .int x1), (2, .int x2), (3, .int x3), (4, .int 1)]) dX10_layersFor_24 rfl rfl ?_
        exact h
set_option maxRecDepth 100000 in
theorem r_J_layersFor_26 {g : gm_G} {Q : Int32 → mI → mL → gm_cfg → Prop} {x1 x2 x3 x4 : Int32} {I : mI} {L : mL} {c : gm_cfg} (h : ((99 < x4 → Q (-1) I L c) ∧ (¬ 99 < x4 → (C_J_filled g x4 x2 x3 I L c (fun r4 I1 L2 c3 => ((r4 < x1 → Z_J_layersFor g Q 26 [(0, .ref 0), (1, .int x1), (2, .int x2), (3, .int x3), (4, .int (x4 + 1))] [] I1 L2 c3) ∧ (¬ r4 < x1 → Q x4 I1 L2 c3))))))) : Z_J_layersFor g Q 26 [(0, .ref 0), (1, .int x1), (2, .int x2), (3, .int x3), (4, .int x4)] [] I L c := by
  refine gx_iload 4 dX10_layersFor_26 rfl ?_
  refine gx_bipush (v := 99) dX10_layersFor_28 (by decide) ?_
  refine gx_icmp_gt 53 dX10_layersFor_30 (by decide) ⟨fun z => ?_, fun z => ?_⟩
  · replace h := h.1 z
    refine gx_iconst (v := (-1)) dX10_layersFor_53 (by decide) ?_
    exact gx_iret dX10_layersFor_54 rfl rfl rfl ⟨_, _, _, _, rfl, rfl, h⟩
  · replace h := h.2 z
    refine gx_iload 4 dX10_layersFor_33 rfl ?_
    refine gx_iload_n 2 dX10_layersFor_35 rfl rfl ?_
    refine gx_iload_n 3 dX10_layersFor_36 rfl rfl ?_
    refine gx_callS (As := [.int x4, .int x2, .int x3]) (st := []) dX10_layersFor_37 ml_X10_375 mm_X10_filled rfl rfl rfl rfl ⟨rfl, rfl⟩ h (fun v h2 hq => ?_)
    clear h
    obtain ⟨r4, I1, L2, c3, rfl, rfl, h⟩ := hq
    show Z_J_layersFor g Q 40 [(0, .ref 0), (1, .int x1), (2, .int x2), (3, .int x3), (4, .int x4)] [.int r4] I1 L2 c3
    refine gx_iload_n 1 dX10_layersFor_40 rfl rfl ?_
    refine gx_icmp_lt 47 dX10_layersFor_41 (by decide) ⟨fun z => ?_, fun z => ?_⟩
    · replace h := h.1 z
      refine gx_iinc (v := (x4 + 1)) (lv' := [(0, .ref 0), (1, .int x1), (2, .int x2), (3, .int x3), (4, .int (x4 + 1))]) 4 dX10_layersFor_47 rfl rfl rfl rfl ?_
      refine gx_goto 26 dX10_layersFor_50 (by decide) ?_
      exact h
    · replace h := h.2 z
      refine gx_iload 4 dX10_layersFor_44 rfl ?_
      exact gx_iret dX10_layersFor_46 rfl rfl rfl ⟨_, _, _, _, rfl, rfl, h⟩
abbrev Z_J_numbers (g : gm_G) (Q : Int32 → mI → mL → gm_cfg → Prop) (pc : Nat) (lv : List (Nat × Value)) (st : List Value) (I : mI) (L : mL) (c : gm_cfg) : Prop := gm_X g RX10 "numbers" cX10_numbers 4 (some .int) 2 0 0 (qI Q) 0 0 pc lv st (SH, I, L, RR c)
abbrev C_J_numbers (g : gm_G) (x1 : Int32) (x2 : Int32) (x3 : Int32) (I : mI) (L : mL) (c : gm_cfg) (Q : Int32 → mI → mL → gm_cfg → Prop) : Prop := gm_Met g yX10_numbers cX10_numbers 4 (some .int) 2 0 0 [.ref 0, .int x1, .int x2, .int x3] (SH, I, L, RR c) (qI Q)
set_option maxRecDepth 100000 in
theorem e_J_numbers {g : gm_G} {Q : Int32 → mI → mL → gm_cfg → Prop} {x1 x2 x3 : Int32} {I : mI} {L : mL} {c : gm_cfg} (h : (C_J_isRow g x1 I L c (fun b4 I1 L2 c3 => ((b4 = false → Q (-2) I1 L2 c3) ∧ (b4 = true → ((x2 < 0 → Q (-2) I1 L2 c3) ∧ (¬ x2 < 0 → ((x2 < 4 → ((x3 < 0 → Q (-3) I1 L2 c3) ∧ (¬ x3 < 0 → ((x3 ≤ 40 → (vp_in x1 4 ∧ (x1 = 0 → (C_Ro35_begin g x2 x3 I1 L2 c3 (fun I5 L6 c7 => Q 0 I5 L6 c7))) ∧ (x1 = 1 → (C_Ro37_begin g x2 x3 I1 L2 c3 (fun I8 L9 c10 => Q 0 I8 L9 c10))) ∧ (x1 = 2 → (C_Ro39_begin g x2 x3 I1 L2 c3 (fun I11 L12 c13 => Q 0 I11 L12 c13))) ∧ (x1 = 3 → (C_Ro41_begin g x2 x3 I1 L2 c3 (fun I14 L15 c16 => Q 0 I14 L15 c16))))) ∧ (¬ x3 ≤ 40 → Q (-3) I1 L2 c3))))) ∧ (¬ x2 < 4 → Q (-2) I1 L2 c3))))))))) : C_J_numbers g x1 x2 x3 I L c Q := by
  refine gm_enter (lv := [(0, .ref 0), (1, .int x1), (2, .int x2), (3, .int x3)]) (by decide) rfl rfl rfl rfl ?_
  show Z_J_numbers g Q 0 [(0, .ref 0), (1, .int x1), (2, .int x2), (3, .int x3)] [] I L c
  refine gx_iload_n 1 dX10_numbers_0 rfl rfl ?_
  refine gx_callS (As := [.int x1]) (st := []) dX10_numbers_1 ml_X10_187 mm_X10_isRow rfl rfl rfl rfl ⟨rfl, rfl⟩ h (fun v h2 hq => ?_)
  clear h
  obtain ⟨b4, I1, L2, c3, rfl, rfl, h⟩ := hq
  show Z_J_numbers g Q 4 [(0, .ref 0), (1, .int x1), (2, .int x2), (3, .int x3)] [.int (gm_b b4)] I1 L2 c3
  refine gx_if_eq 16 dX10_numbers_4 (by decide) ⟨fun z => ?_, fun z => ?_⟩
  · replace h := h.1 (gm_b0.mp z)
    refine gx_bipush (v := (-2)) dX10_numbers_16 (by decide) ?_
    exact gx_iret dX10_numbers_18 rfl rfl rfl ⟨_, _, _, _, rfl, rfl, h⟩
  · replace h := h.2 (gm_bn0 z)
    refine gx_iload_n 2 dX10_numbers_7 rfl rfl ?_
    refine gx_if_lt 16 dX10_numbers_8 (by decide) ⟨fun z => ?_, fun z => ?_⟩
    · replace h := h.1 z
      refine gx_bipush (v := (-2)) dX10_numbers_16 (by decide) ?_
      exact gx_iret dX10_numbers_18 rfl rfl rfl ⟨_, _, _, _, rfl, rfl, h⟩
    · replace h := h.2 z
      refine gx_iload_n 2 dX10_numbers_11 rfl rfl ?_
      refine gx_iconst (v := 4) dX10_numbers_12 (by decide) ?_
      refine gx_icmp_lt 19 dX10_numbers_13 (by decide) ⟨fun z => ?_, fun z => ?_⟩
      · replace h := h.1 z
        refine gx_iload_n 3 dX10_numbers_19 rfl rfl ?_
        refine gx_if_lt 29 dX10_numbers_20 (by decide) ⟨fun z => ?_, fun z => ?_⟩
        · replace h := h.1 z
          refine gx_bipush (v := (-3)) dX10_numbers_29 (by decide) ?_
          exact gx_iret dX10_numbers_31 rfl rfl rfl ⟨_, _, _, _, rfl, rfl, h⟩
        · replace h := h.2 z
          refine gx_iload_n 3 dX10_numbers_23 rfl rfl ?_
          refine gx_bipush (v := 40) dX10_numbers_24 (by decide) ?_
          refine gx_icmp_le 32 dX10_numbers_26 (by decide) ⟨fun z => ?_, fun z => ?_⟩
          · replace h := h.1 z
            refine gx_aload_n 0 dX10_numbers_32 rfl rfl ?_
            refine gx_getr 10 11 (v := 14) dX10_numbers_33 fl_X10_50 rfl rfl rfl ?_
            refine gx_iload_n 1 dX10_numbers_36 rfl rfl ?_
            obtain ⟨hi, h⟩ := h
            obtain ⟨j, hj, hx⟩ := vp_in_of hi (by decide)
            match j, hj, hx with
            | 0, _, hx =>
                have hx : x1 = 0 := hx
                replace h := h.1 hx
                subst hx
                refine gx_aald (v := 35) dX10_numbers_37 rfl rfl rfl rfl (gm_vin rfl) (k := 0) rfl rfl ?_
                refine gx_iload_n 2 dX10_numbers_38 rfl rfl ?_
                refine gx_iload_n 3 dX10_numbers_39 rfl rfl ?_
                refine gx_callV 6 (As := [.int x2, .int x3]) (st := []) dX10_numbers_40 ml_X10_379 mm_X6_begin rfl rfl rfl rfl rfl rfl ⟨rfl, rfl⟩ h (fun v h2 hq => ?_)
                clear h
                obtain ⟨I5, L6, c7, rfl, rfl, h⟩ := hq
                show Z_J_numbers g Q 43 [(0, .ref 0), (1, .int 0), (2, .int x2), (3, .int x3)] [] I5 L6 c7
                refine gx_iconst (v := 0) dX10_numbers_43 (by decide) ?_
                exact gx_iret dX10_numbers_44 rfl rfl rfl ⟨_, _, _, _, rfl, rfl, h⟩
            | 1, _, hx =>
                have hx : x1 = 1 := hx
                replace h := h.2.1 hx
                subst hx
                refine gx_aald (v := 37) dX10_numbers_37 rfl rfl rfl rfl (gm_vin rfl) (k := 1) rfl rfl ?_
                refine gx_iload_n 2 dX10_numbers_38 rfl rfl ?_
                refine gx_iload_n 3 dX10_numbers_39 rfl rfl ?_
                refine gx_callV 6 (As := [.int x2, .int x3]) (st := []) dX10_numbers_40 ml_X10_379 mm_X6_begin rfl rfl rfl rfl rfl rfl ⟨rfl, rfl⟩ h (fun v h2 hq => ?_)
                clear h
                obtain ⟨I8, L9, c10, rfl, rfl, h⟩ := hq
                show Z_J_numbers g Q 43 [(0, .ref 0), (1, .int 1), (2, .int x2), (3, .int x3)] [] I8 L9 c10
                refine gx_iconst (v := 0) dX10_numbers_43 (by decide) ?_
                exact gx_iret dX10_numbers_44 rfl rfl rfl ⟨_, _, _, _, rfl, rfl, h⟩
            | 2, _, hx =>
                have hx : x1 = 2 := hx
                replace h := h.2.2.1 hx
                subst hx
                refine gx_aald (v := 39) dX10_numbers_37 rfl rfl rfl rfl (gm_vin rfl) (k := 2) rfl rfl ?_
                refine gx_iload_n 2 dX10_numbers_38 rfl rfl ?_
                refine gx_iload_n 3 dX10_numbers_39 rfl rfl ?_
                refine gx_callV 6 (As := [.int x2, .int x3]) (st := []) dX10_numbers_40 ml_X10_379 mm_X6_begin rfl rfl rfl rfl rfl rfl ⟨rfl, rfl⟩ h (fun v h2 hq => ?_)
                clear h
                obtain ⟨I11, L12, c13, rfl, rfl, h⟩ := hq
                show Z_J_numbers g Q 43 [(0, .ref 0), (1, .int 2), (2, .int x2), (3, .int x3)] [] I11 L12 c13
                refine gx_iconst (v := 0) dX10_numbers_43 (by decide) ?_
                exact gx_iret dX10_numbers_44 rfl rfl rfl ⟨_, _, _, _, rfl, rfl, h⟩
            | 3, _, hx =>
                have hx : x1 = 3 := hx
                replace h := h.2.2.2 hx
                subst hx
                refine gx_aald (v := 41) dX10_numbers_37 rfl rfl rfl rfl (gm_vin rfl) (k := 3) rfl rfl ?_
                refine gx_iload_n 2 dX10_numbers_38 rfl rfl ?_
                refine gx_iload_n 3 dX10_numbers_39 rfl rfl ?_
                refine gx_callV 6 (As := [.int x2, .int x3]) (st := []) dX10_numbers_40 ml_X10_379 mm_X6_begin rfl rfl rfl rfl rfl rfl ⟨rfl, rfl⟩ h (fun v h2 hq => ?_)
                clear h
                obtain ⟨I14, L15, c16, rfl, rfl, h⟩ := hq
                show Z_J_numbers g Q 43 [(0, .ref 0), (1, .int 3), (2, .int x2), (3, .int x3)] [] I14 L15 c16
                refine gx_iconst (v := 0) dX10_numbers_43 (by decide) ?_
                exact gx_iret dX10_numbers_44 rfl rfl rfl ⟨_, _, _, _, rfl, rfl, h⟩
          · replace h := h.2 z
            refine gx_bipush (v := (-3)) dX10_numbers_29 (by decide) ?_
            exact gx_iret dX10_numbers_31 rfl rfl rfl ⟨_, _, _, _, rfl, rfl, h⟩
      · replace h := h.2 z
        refine gx_bipush (v := (-2)) dX10_numbers_16 (by decide) ?_
        exact gx_iret dX10_numbers_18 rfl rfl rfl ⟨_, _, _, _, rfl, rfl, h⟩
abbrev Z_J_put (g : gm_G) (Q : Int64 → mI → mL → gm_cfg → Prop) (pc : Nat) (lv : List (Nat × Value)) (st : List Value) (I : mI) (L : mL) (c : gm_cfg) : Prop := gm_X g RX10 "put" cX10_put 6 (some .long) 3 0 0 (qL Q) 0 0 pc lv st (SH, I, L, RR c)
abbrev C_J_put (g : gm_G) (x1 : Int32) (x2 : Int32) (x3 : Int64) (I : mI) (L : mL) (c : gm_cfg) (Q : Int64 → mI → mL → gm_cfg → Prop) : Prop := gm_Met g yX10_put cX10_put 6 (some .long) 3 0 0 [.ref 0, .int x1, .int x2, .long x3] (SH, I, L, RR c) (qL Q)
set_option maxRecDepth 100000 in
theorem e_J_put {g : gm_G} {Q : Int64 → mI → mL → gm_cfg → Prop} {x1 x2 : Int32} {x3 : Int64} {I : mI} {L : mL} {c : gm_cfg} (h : (C_J_isRow g x1 I L c (fun b4 I1 L2 c3 => ((b4 = false → Q (-2) I1 L2 c3) ∧ (b4 = true → (vp_in x1 4 ∧ (x1 = 0 → (C_Ro35_isMissing g I1 L2 c3 (fun b8 I5 L6 c7 => ((b8 = false → ((x2 < 0 → Q (-7) I5 L6 c7) ∧ (¬ x2 < 0 → ((x2 < (I5 35 1) → (C_Ro35_set g x2 x3 I5 L6 c7 (fun r12 I9 L10 c11 => Q r12 I9 L10 c11))) ∧ (¬ x2 < (I5 35 1) → Q (-7) I5 L6 c7))))) ∧ (b8 = true → Q (-6) I5 L6 c7))))) ∧ (x1 = 1 → (C_Ro37_isMissing g I1 L2 c3 (fun b16 I13 L14 c15 => ((b16 = false → ((x2 < 0 → Q (-7) I13 L14 c15) ∧ (¬ x2 < 0 → ((x2 < (I13 37 1) → (C_Ro37_set g x2 x3 I13 L14 c15 (fun r20 I17 L18 c19 => Q r20 I17 L18 c19))) ∧ (¬ x2 < (I13 37 1) → Q (-7) I13 L14 c15))))) ∧ (b16 = true → Q (-6) I13 L14 c15))))) ∧ (x1 = 2 → (C_Ro39_isMissing g I1 L2 c3 (fun b24 I21 L22 c23 => ((b24 = false → ((x2 < 0 → Q (-7) I21 L22 c23) ∧ (¬ x2 < 0 → ((x2 < (I21 39 1) → (C_Ro39_set g x2 x3 I21 L22 c23 (fun r28 I25 L26 c27 => Q r28 I25 L26 c27))) ∧ (¬ x2 < (I21 39 1) → Q (-7) I21 L22 c23))))) ∧ (b24 = true → Q (-6) I21 L22 c23))))) ∧ (x1 = 3 → (C_Ro41_isMissing g I1 L2 c3 (fun b32 I29 L30 c31 => ((b32 = false → ((x2 < 0 → Q (-7) I29 L30 c31) ∧ (¬ x2 < 0 → ((x2 < (I29 41 1) → (C_Ro41_set g x2 x3 I29 L30 c31 (fun r36 I33 L34 c35 => Q r36 I33 L34 c35))) ∧ (¬ x2 < (I29 41 1) → Q (-7) I29 L30 c31))))) ∧ (b32 = true → Q (-6) I29 L30 c31))))))))))) : C_J_put g x1 x2 x3 I L c Q := by
  refine gm_enter (lv := [(0, .ref 0), (1, .int x1), (2, .int x2), (3, .long x3)]) (by decide) rfl rfl rfl rfl ?_
  show Z_J_put g Q 0 [(0, .ref 0), (1, .int x1), (2, .int x2), (3, .long x3)] [] I L c
  refine gx_iload_n 1 dX10_put_0 rfl rfl ?_
  refine gx_callS (As := [.int x1]) (st := []) dX10_put_1 ml_X10_187 mm_X10_isRow rfl rfl rfl rfl ⟨rfl, rfl⟩ h (fun v h2 hq => ?_)
  clear h
  obtain ⟨b4, I1, L2, c3, rfl, rfl, h⟩ := hq
  show Z_J_put g Q 4 [(0, .ref 0), (1, .int x1), (2, .int x2), (3, .long x3)] [.int (gm_b b4)] I1 L2 c3
  refine gx_if_ne 11 dX10_put_4 (by decide) ⟨fun z => ?_, fun z => ?_⟩
  · replace h := h.1 (gm_b0.mp z)
    refine gx_ldc2 dX10_put_7 kl_X10_302 ?_
    exact gx_lret dX10_put_10 rfl rfl rfl ⟨_, _, _, _, rfl, rfl, h⟩
  · replace h := h.2 (gm_bn0 z)
    refine gx_aload_n 0 dX10_put_11 rfl rfl ?_
    refine gx_getr 10 11 (v := 14) dX10_put_12 fl_X10_50 rfl rfl rfl ?_
    refine gx_iload_n 1 dX10_put_15 rfl rfl ?_
    obtain ⟨hi, h⟩ := h
    obtain ⟨j, hj, hx⟩ := vp_in_of hi (by decide)
    match j, hj, hx with
    | 0, _, hx =>
        have hx : x1 = 0 := hx
        replace h := h.1 hx
        subst hx
        refine gx_aald (v := 35) dX10_put_16 rfl rfl rfl rfl (gm_vin rfl) (k := 0) rfl rfl ?_
        refine gx_astore (lv' := [(0, .ref 0), (1, .int 0), (2, .int x2), (3, .long x3), (5, .ref 35)]) dX10_put_17 rfl rfl ?_
        refine gx_aload 4 dX10_put_19 rfl ?_
        refine gx_callV 6 (As := []) (st := []) dX10_put_21 ml_X10_190 mm_X6_isMissing rfl rfl rfl rfl rfl rfl ⟨rfl, rfl⟩ h (fun v h2 hq => ?_)
        clear h
        obtain ⟨b8, I5, L6, c7, rfl, rfl, h⟩ := hq
        show Z_J_put g Q 24 [(0, .ref 0), (1, .int 0), (2, .int x2), (3, .long x3), (5, .ref 35)] [.int (gm_b b8)] I5 L6 c7
        refine gx_if_eq 31 dX10_put_24 (by decide) ⟨fun z => ?_, fun z => ?_⟩
        · replace h := h.1 (gm_b0.mp z)
          refine gx_iload_n 2 dX10_put_31 rfl rfl ?_
          refine gx_if_lt 44 dX10_put_32 (by decide) ⟨fun z => ?_, fun z => ?_⟩
          · replace h := h.1 z
            refine gx_ldc2 dX10_put_44 kl_X10_384 ?_
            exact gx_lret dX10_put_47 rfl rfl rfl ⟨_, _, _, _, rfl, rfl, h⟩
          · replace h := h.2 z
            refine gx_iload_n 2 dX10_put_35 rfl rfl ?_
            refine gx_aload 4 dX10_put_36 rfl ?_
            refine gx_geti 6 1 (v := (I5 35 1)) dX10_put_38 fl_X10_198 rfl rfl rfl ?_
            refine gx_icmp_lt 48 dX10_put_41 (by decide) ⟨fun z => ?_, fun z => ?_⟩
            · replace h := h.1 z
              refine gx_aload 4 dX10_put_48 rfl ?_
              refine gx_iload_n 2 dX10_put_50 rfl rfl ?_
              refine gx_lload_n 3 dX10_put_51 rfl rfl ?_
              refine gx_callV 6 (As := [.int x2, .long x3]) (st := []) dX10_put_52 ml_X10_386 mm_X6_set rfl rfl rfl rfl rfl rfl ⟨rfl, rfl⟩ h (fun v h2 hq => ?_)
              clear h
              obtain ⟨r12, I9, L10, c11, rfl, rfl, h⟩ := hq
              show Z_J_put g Q 55 [(0, .ref 0), (1, .int 0), (2, .int x2), (3, .long x3), (5, .ref 35)] [.long r12] I9 L10 c11
              exact gx_lret dX10_put_55 rfl rfl rfl ⟨_, _, _, _, rfl, rfl, h⟩
            · replace h := h.2 z
              refine gx_ldc2 dX10_put_44 kl_X10_384 ?_
              exact gx_lret dX10_put_47 rfl rfl rfl ⟨_, _, _, _, rfl, rfl, h⟩
        · replace h := h.2 (gm_bn0 z)
          refine gx_ldc2 dX10_put_27 kl_X10_382 ?_
          exact gx_lret dX10_put_30 rfl rfl rfl ⟨_, _, _, _, rfl, rfl, h⟩
    | 1, _, hx =>
        have hx : x1 = 1 := hx
        replace h := h.2.1 hx
        subst hx
        refine gx_aald (v := 37) dX10_put_16 rfl rfl rfl rfl (gm_vin rfl) (k := 1) rfl rfl ?_
        refine gx_astore (lv' := [(0, .ref 0), (1, .int 1), (2, .int x2), (3, .long x3), (5, .ref 37)]) dX10_put_17 rfl rfl ?_
        refine gx_aload 4 dX10_put_19 rfl ?_
        refine gx_callV 6 (As := []) (st := []) dX10_put_21 ml_X10_190 mm_X6_isMissing rfl rfl rfl rfl rfl rfl ⟨rfl, rfl⟩ h (fun v h2 hq => ?_)
        clear h
        obtain ⟨b16, I13, L14, c15, rfl, rfl, h⟩ := hq
        show Z_J_put g Q 24 [(0, .ref 0), (1, .int 1), (2, .int x2), (3, .long x3), (5, .ref 37)] [.int (gm_b b16)] I13 L14 c15
        refine gx_if_eq 31 dX10_put_24 (by decide) ⟨fun z => ?_, fun z => ?_⟩
        · replace h := h.1 (gm_b0.mp z)
          refine gx_iload_n 2 dX10_put_31 rfl rfl ?_
          refine gx_if_lt 44 dX10_put_32 (by decide) ⟨fun z => ?_, fun z => ?_⟩
          · replace h := h.1 z
            refine gx_ldc2 dX10_put_44 kl_X10_384 ?_
            exact gx_lret dX10_put_47 rfl rfl rfl ⟨_, _, _, _, rfl, rfl, h⟩
          · replace h := h.2 z
            refine gx_iload_n 2 dX10_put_35 rfl rfl ?_
            refine gx_aload 4 dX10_put_36 rfl ?_
            refine gx_geti 6 1 (v := (I13 37 1)) dX10_put_38 fl_X10_198 rfl rfl rfl ?_
            refine gx_icmp_lt 48 dX10_put_41 (by decide) ⟨fun z => ?_, fun z => ?_⟩
            · replace h := h.1 z
              refine gx_aload 4 dX10_put_48 rfl ?_
              refine gx_iload_n 2 dX10_put_50 rfl rfl ?_
              refine gx_lload_n 3 dX10_put_51 rfl rfl ?_
              refine gx_callV 6 (As := [.int x2, .long x3]) (st := []) dX10_put_52 ml_X10_386 mm_X6_set rfl rfl rfl rfl rfl rfl ⟨rfl, rfl⟩ h (fun v h2 hq => ?_)
              clear h
              obtain ⟨r20, I17, L18, c19, rfl, rfl, h⟩ := hq
              show Z_J_put g Q 55 [(0, .ref 0), (1, .int 1), (2, .int x2), (3, .long x3), (5, .ref 37)] [.long r20] I17 L18 c19
              exact gx_lret dX10_put_55 rfl rfl rfl ⟨_, _, _, _, rfl, rfl, h⟩
            · replace h := h.2 z
              refine gx_ldc2 dX10_put_44 kl_X10_384 ?_
              exact gx_lret dX10_put_47 rfl rfl rfl ⟨_, _, _, _, rfl, rfl, h⟩
        · replace h := h.2 (gm_bn0 z)
          refine gx_ldc2 dX10_put_27 kl_X10_382 ?_
          exact gx_lret dX10_put_30 rfl rfl rfl ⟨_, _, _, _, rfl, rfl, h⟩
    | 2, _, hx =>
        have hx : x1 = 2 := hx
        replace h := h.2.2.1 hx
        subst hx
        refine gx_aald (v := 39) dX10_put_16 rfl rfl rfl rfl (gm_vin rfl) (k := 2) rfl rfl ?_
        refine gx_astore (lv' := [(0, .ref 0), (1, .int 2), (2, .int x2), (3, .long x3), (5, .ref 39)]) dX10_put_17 rfl rfl ?_
        refine gx_aload 4 dX10_put_19 rfl ?_
        refine gx_callV 6 (As := []) (st := []) dX10_put_21 ml_X10_190 mm_X6_isMissing rfl rfl rfl rfl rfl rfl ⟨rfl, rfl⟩ h (fun v h2 hq => ?_)
        clear h
        obtain ⟨b24, I21, L22, c23, rfl, rfl, h⟩ := hq
        show Z_J_put g Q 24 [(0, .ref 0), (1, .int 2), (2, .int x2), (3, .long x3), (5, .ref 39)] [.int (gm_b b24)] I21 L22 c23
        refine gx_if_eq 31 dX10_put_24 (by decide) ⟨fun z => ?_, fun z => ?_⟩
        · replace h := h.1 (gm_b0.mp z)
          refine gx_iload_n 2 dX10_put_31 rfl rfl ?_
          refine gx_if_lt 44 dX10_put_32 (by decide) ⟨fun z => ?_, fun z => ?_⟩
          · replace h := h.1 z
            refine gx_ldc2 dX10_put_44 kl_X10_384 ?_
            exact gx_lret dX10_put_47 rfl rfl rfl ⟨_, _, _, _, rfl, rfl, h⟩
          · replace h := h.2 z
            refine gx_iload_n 2 dX10_put_35 rfl rfl ?_
            refine gx_aload 4 dX10_put_36 rfl ?_
            refine gx_geti 6 1 (v := (I21 39 1)) dX10_put_38 fl_X10_198 rfl rfl rfl ?_
            refine gx_icmp_lt 48 dX10_put_41 (by decide) ⟨fun z => ?_, fun z => ?_⟩
            · replace h := h.1 z
              refine gx_aload 4 dX10_put_48 rfl ?_
              refine gx_iload_n 2 dX10_put_50 rfl rfl ?_
              refine gx_lload_n 3 dX10_put_51 rfl rfl ?_
              refine gx_callV 6 (As := [.int x2, .long x3]) (st := []) dX10_put_52 ml_X10_386 mm_X6_set rfl rfl rfl rfl rfl rfl ⟨rfl, rfl⟩ h (fun v h2 hq => ?_)
              clear h
              obtain ⟨r28, I25, L26, c27, rfl, rfl, h⟩ := hq
              show Z_J_put g Q 55 [(0, .ref 0), (1, .int 2), (2, .int x2), (3, .long x3), (5, .ref 39)] [.long r28] I25 L26 c27
              exact gx_lret dX10_put_55 rfl rfl rfl ⟨_, _, _, _, rfl, rfl, h⟩
            · replace h := h.2 z
              refine gx_ldc2 dX10_put_44 kl_X10_384 ?_
              exact gx_lret dX10_put_47 rfl rfl rfl ⟨_, _, _, _, rfl, rfl, h⟩
        · replace h := h.2 (gm_bn0 z)
          refine gx_ldc2 dX10_put_27 kl_X10_382 ?_
          exact gx_lret dX10_put_30 rfl rfl rfl ⟨_, _, _, _, rfl, rfl, h⟩
    | 3, _, hx =>
        have hx : x1 = 3 := hx
        replace h := h.2.2.2 hx
        subst hx
        refine gx_aald (v := 41) dX10_put_16 rfl rfl rfl rfl (gm_vin rfl) (k := 3) rfl rfl ?_
        refine gx_astore (lv' := [(0, .ref 0), (1, .int 3), (2, .int x2), (3, .long x3), (5, .ref 41)]) dX10_put_17 rfl rfl ?_
        refine gx_aload 4 dX10_put_19 rfl ?_
        refine gx_callV 6 (As := []) (st := []) dX10_put_21 ml_X10_190 mm_X6_isMissing rfl rfl rfl rfl rfl rfl ⟨rfl, rfl⟩ h (fun v h2 hq => ?_)
        clear h
        obtain ⟨b32, I29, L30, c31, rfl, rfl, h⟩ := hq
        show Z_J_put g Q 24 [(0, .ref 0), (1, .int 3), (2, .int x2), (3, .long x3), (5, .ref 41)] [.int (gm_b b32)] I29 L30 c31
        refine gx_if_eq 31 dX10_put_24 (by decide) ⟨fun z => ?_, fun z => ?_⟩
        · replace h := h.1 (gm_b0.mp z)
          refine gx_iload_n 2 dX10_put_31 rfl rfl ?_
          refine gx_if_lt 44 dX10_put_32 (by decide) ⟨fun z => ?_, fun z => ?_⟩
          · replace h := h.1 z
            refine gx_ldc2 dX10_put_44 kl_X10_384 ?_
            exact gx_lret dX10_put_47 rfl rfl rfl ⟨_, _, _, _, rfl, rfl, h⟩
          · replace h := h.2 z
            refine gx_iload_n 2 dX10_put_35 rfl rfl ?_
            refine gx_aload 4 dX10_put_36 rfl ?_
            refine gx_geti 6 1 (v := (I29 41 1)) dX10_put_38 fl_X10_198 rfl rfl rfl ?_
            refine gx_icmp_lt 48 dX10_put_41 (by decide) ⟨fun z => ?_, fun z => ?_⟩
            · replace h := h.1 z
              refine gx_aload 4 dX10_put_48 rfl ?_
              refine gx_iload_n 2 dX10_put_50 rfl rfl ?_
              refine gx_lload_n 3 dX10_put_51 rfl rfl ?_
              refine gx_callV 6 (As := [.int x2, .long x3]) (st := []) dX10_put_52 ml_X10_386 mm_X6_set rfl rfl rfl rfl rfl rfl ⟨rfl, rfl⟩ h (fun v h2 hq => ?_)
              clear h
              obtain ⟨r36, I33, L34, c35, rfl, rfl, h⟩ := hq
              show Z_J_put g Q 55 [(0, .ref 0), (1, .int 3), (2, .int x2), (3, .long x3), (5, .ref 41)] [.long r36] I33 L34 c35
              exact gx_lret dX10_put_55 rfl rfl rfl ⟨_, _, _, _, rfl, rfl, h⟩
            · replace h := h.2 z
              refine gx_ldc2 dX10_put_44 kl_X10_384 ?_
              exact gx_lret dX10_put_47 rfl rfl rfl ⟨_, _, _, _, rfl, rfl, h⟩
        · replace h := h.2 (gm_bn0 z)
          refine gx_ldc2 dX10_put_27 kl_X10_382 ?_
          exact gx_lret dX10_put_30 rfl rfl rfl ⟨_, _, _, _, rfl, rfl, h⟩
abbrev Z_J_copy (g : gm_G) (Q : Int32 → mI → mL → gm_cfg → Prop) (pc : Nat) (lv : List (Nat × Value)) (st : List Value) (I : mI) (L : mL) (c : gm_cfg) : Prop := gm_X g RX10 "copy" cX10_copy 5 (some .int) 3 0 0 (qI Q) 0 0 pc lv st (SH, I, L, RR c)
abbrev C_J_copy (g : gm_G) (x1 : Int32) (I : mI) (L : mL) (c : gm_cfg) (Q : Int32 → mI → mL → gm_cfg → Prop) : Prop := gm_Met g yX10_copy cX10_copy 5 (some .int) 3 0 0 [.ref 0, .int x1] (SH, I, L, RR c) (qI Q)
set_option maxRecDepth 100000 in
theorem e_J_copy {g : gm_G} {Q : Int32 → mI → mL → gm_cfg → Prop} {x1 : Int32} {I : mI} {L : mL} {c : gm_cfg} (h : (C_J_isRow g x1 I L c (fun b4 I1 L2 c3 => ((b4 = false → Q (-2) I1 L2 c3) ∧ (b4 = true → (vp_in x1 4 ∧ (x1 = 0 → (C_Ro35_isMissing g I1 L2 c3 (fun b8 I5 L6 c7 => ((b8 = false → Z_J_copy g Q 45 [(0, .ref 0), (1, .int 0), (2, .ref 35), (3, .int ((if (I5 20 2) < (I5 35 1) then (I5 20 2) else (I5 35 1)) : Int32)), (4, .int 0)] [] I5 L6 c7) ∧ (b8 = true → Q (-6) I5 L6 c7))))) ∧ (x1 = 1 → (C_Ro37_isMissing g I1 L2 c3 (fun b12 I9 L10 c11 => ((b12 = false → Z_J_copy g Q 45 [(0, .ref 0), (1, .int 1), (2, .ref 37), (3, .int ((if (I9 20 2) < (I9 37 1) then (I9 20 2) else (I9 37 1)) : Int32)), (4, .int 0)] [] I9 L10 c11) ∧ (b12 = true → Q (-6) I9 L10 c11))))) ∧ (x1 = 2 → (C_Ro39_isMissing g I1 L2 c3 (fun b16 I13 L14 c15 => ((b16 = false → Z_J_copy g Q 45 [(0, .ref 0), (1, .int 2), (2, .ref 39), (3, .int ((if (I13 20 2) < (I13 39 1) then (I13 20 2) else (I13 39 1)) : Int32)), (4, .int 0)] [] I13 L14 c15) ∧ (b16 = true → Q (-6) I13 L14 c15))))) ∧ (x1 = 3 → (C_Ro41_isMissing g I1 L2 c3 (fun b20 I17 L18 c19 => ((b20 = false → Z_J_copy g Q 45 [(0, .ref 0), (1, .int 3), (2, .ref 41), (3, .int ((if (I17 20 2) < (I17 41 1) then (I17 20 2) else (I17 41 1)) : Int32)), (4, .int 0)] [] I17 L18 c19) ∧ (b20 = true → Q (-6) I17 L18 c19))))))))))) : C_J_copy g x1 I L c Q := by
  refine gm_enter (lv := [(0, .ref 0), (1, .int x1)]) (by decide) rfl rfl rfl rfl ?_
  show Z_J_copy g Q 0 [(0, .ref 0), (1, .int x1)] [] I L c
  refine gx_iload_n 1 dX10_copy_0 rfl rfl ?_
  refine gx_callS (As := [.int x1]) (st := []) dX10_copy_1 ml_X10_187 mm_X10_isRow rfl rfl rfl rfl ⟨rfl, rfl⟩ h (fun v h2 hq => ?_)
  clear h
  obtain ⟨b4, I1, L2, c3, rfl, rfl, h⟩ := hq
  show Z_J_copy g Q 4 [(0, .ref 0), (1, .int x1)] [.int (gm_b b4)] I1 L2 c3
  refine gx_if_ne 10 dX10_copy_4 (by decide) ⟨fun z => ?_, fun z => ?_⟩
  · replace h := h.1 (gm_b0.mp z)
    refine gx_bipush (v := (-2)) dX10_copy_7 (by decide) ?_
    exact gx_iret dX10_copy_9 rfl rfl rfl ⟨_, _, _, _, rfl, rfl, h⟩
  · replace h := h.2 (gm_bn0 z)
    refine gx_aload_n 0 dX10_copy_10 rfl rfl ?_
    refine gx_getr 10 11 (v := 14) dX10_copy_11 fl_X10_50 rfl rfl rfl ?_
    refine gx_iload_n 1 dX10_copy_14 rfl rfl ?_
    obtain ⟨hi, h⟩ := h
    obtain ⟨j, hj, hx⟩ := vp_in_of hi (by decide)
    match j, hj, hx with
    | 0, _, hx =>
        have hx : x1 = 0 := hx
        replace h := h.1 hx
        subst hx
        refine gx_aald (v := 35) dX10_copy_15 rfl rfl rfl rfl (gm_vin rfl) (k := 0) rfl rfl ?_
        refine gx_astore_n (lv' := [(0, .ref 0), (1, .int 0), (2, .ref 35)]) dX10_copy_16 rfl rfl rfl ?_
        refine gx_aload_n 2 dX10_copy_17 rfl rfl ?_
        refine gx_callV 6 (As := []) (st := []) dX10_copy_18 ml_X10_190 mm_X6_isMissing rfl rfl rfl rfl rfl rfl ⟨rfl, rfl⟩ h (fun v h2 hq => ?_)
        clear h
        obtain ⟨b8, I5, L6, c7, rfl, rfl, h⟩ := hq
        show Z_J_copy g Q 21 [(0, .ref 0), (1, .int 0), (2, .ref 35)] [.int (gm_b b8)] I5 L6 c7
        refine gx_if_eq 27 dX10_copy_21 (by decide) ⟨fun z => ?_, fun z => ?_⟩
        · replace h := h.1 (gm_b0.mp z)
          refine gx_aload_n 2 dX10_copy_27 rfl rfl ?_
          refine gx_geti 6 1 (v := (I5 35 1)) dX10_copy_28 fl_X10_198 rfl rfl rfl ?_
          refine gx_aload_n 0 dX10_copy_31 rfl rfl ?_
          refine gx_getr 10 5 (v := 20) dX10_copy_32 fl_X10_68 rfl rfl rfl ?_
          refine gx_geti 8 2 (v := (I5 20 2)) dX10_copy_35 fl_X10_154 rfl rfl rfl ?_
          refine gx_mmin dX10_copy_38 ml_X10_268 mw_min rfl rfl rfl rfl ?_
          refine gx_istore_n (lv' := [(0, .ref 0), (1, .int 0), (2, .ref 35), (3, .int ((if (I5 20 2) < (I5 35 1) then (I5 20 2) else (I5 35 1)) : Int32))]) dX10_copy_41 rfl rfl rfl ?_
          refine gx_iconst (v := 0) dX10_copy_42 (by decide) ?_
          refine gx_istore (lv' := [(0, .ref 0), (1, .int 0), (2, .ref 35), (3, .int ((if (I5 20 2) < (I5 35 1) then (I5 20 2) else (I5 35 1)) : Int32)), (4, .int 0)]) dX10_copy_43 rfl rfl ?_
          exact h
        · replace h := h.2 (gm_bn0 z)
          refine gx_bipush (v := (-6)) dX10_copy_24 (by decide) ?_
          exact gx_iret dX10_copy_26 rfl rfl rfl ⟨_, _, _, _, rfl, rfl, h⟩
    | 1, _, hx =>
        have hx : x1 = 1 := hx
        replace h := h.2.1 hx
        subst hx
        refine gx_aald (v := 37) dX10_copy_15 rfl rfl rfl rfl (gm_vin rfl) (k := 1) rfl rfl ?_
        refine gx_astore_n (lv' := [(0, .ref 0), (1, .int 1), (2, .ref 37)]) dX10_copy_16 rfl rfl rfl ?_
        refine gx_aload_n 2 dX10_copy_17 rfl rfl ?_
        refine gx_callV 6 (As := []) (st := []) dX10_copy_18 ml_X10_190 mm_X6_isMissing rfl rfl rfl rfl rfl rfl ⟨rfl, rfl⟩ h (fun v h2 hq => ?_)
        clear h
        obtain ⟨b12, I9, L10, c11, rfl, rfl, h⟩ := hq
        show Z_J_copy g Q 21 [(0, .ref 0), (1, .int 1), (2, .ref 37)] [.int (gm_b b12)] I9 L10 c11
        refine gx_if_eq 27 dX10_copy_21 (by decide) ⟨fun z => ?_, fun z => ?_⟩
        · replace h := h.1 (gm_b0.mp z)
          refine gx_aload_n 2 dX10_copy_27 rfl rfl ?_
          refine gx_geti 6 1 (v := (I9 37 1)) dX10_copy_28 fl_X10_198 rfl rfl rfl ?_
          refine gx_aload_n 0 dX10_copy_31 rfl rfl ?_
          refine gx_getr 10 5 (v := 20) dX10_copy_32 fl_X10_68 rfl rfl rfl ?_
          refine gx_geti 8 2 (v := (I9 20 2)) dX10_copy_35 fl_X10_154 rfl rfl rfl ?_
          refine gx_mmin dX10_copy_38 ml_X10_268 mw_min rfl rfl rfl rfl ?_
          refine gx_istore_n (lv' := [(0, .ref 0), (1, .int 1), (2, .ref 37), (3, .int ((if (I9 20 2) < (I9 37 1) then (I9 20 2) else (I9 37 1)) : Int32))]) dX10_copy_41 rfl rfl rfl ?_
          refine gx_iconst (v := 0) dX10_copy_42 (by decide) ?_
          refine gx_istore (lv' := [(0, .ref 0), (1, .int 1), (2, .ref 37), (3, .int ((if (I9 20 2) < (I9 37 1) then (I9 20 2) else (I9 37 1)) : Int32)), (4, .int 0)]) dX10_copy_43 rfl rfl ?_
          exact h
        · replace h := h.2 (gm_bn0 z)
          refine gx_bipush (v := (-6)) dX10_copy_24 (by decide) ?_
          exact gx_iret dX10_copy_26 rfl rfl rfl ⟨_, _, _, _, rfl, rfl, h⟩
    | 2, _, hx =>
        have hx : x1 = 2 := hx
        replace h := h.2.2.1 hx
        subst hx
        refine gx_aald (v := 39) dX10_copy_15 rfl rfl rfl rfl (gm_vin rfl) (k := 2) rfl rfl ?_
        refine gx_astore_n (lv' := [(0, .ref 0), (1, .int 2), (2, .ref 39)]) dX10_copy_16 rfl rfl rfl ?_
        refine gx_aload_n 2 dX10_copy_17 rfl rfl ?_
        refine gx_callV 6 (As := []) (st := []) dX10_copy_18 ml_X10_190 mm_X6_isMissing rfl rfl rfl rfl rfl rfl ⟨rfl, rfl⟩ h (fun v h2 hq => ?_)
        clear h
        obtain ⟨b16, I13, L14, c15, rfl, rfl, h⟩ := hq
        show Z_J_copy g Q 21 [(0, .ref 0), (1, .int 2), (2, .ref 39)] [.int (gm_b b16)] I13 L14 c15
        refine gx_if_eq 27 dX10_copy_21 (by decide) ⟨fun z => ?_, fun z => ?_⟩
        · replace h := h.1 (gm_b0.mp z)
          refine gx_aload_n 2 dX10_copy_27 rfl rfl ?_
          refine gx_geti 6 1 (v := (I13 39 1)) dX10_copy_28 fl_X10_198 rfl rfl rfl ?_
          refine gx_aload_n 0 dX10_copy_31 rfl rfl ?_
          refine gx_getr 10 5 (v := 20) dX10_copy_32 fl_X10_68 rfl rfl rfl ?_
          refine gx_geti 8 2 (v := (I13 20 2)) dX10_copy_35 fl_X10_154 rfl rfl rfl ?_
          refine gx_mmin dX10_copy_38 ml_X10_268 mw_min rfl rfl rfl rfl ?_
          refine gx_istore_n (lv' := [(0, .ref 0), (1, .int 2), (2, .ref 39), (3, .int ((if (I13 20 2) < (I13 39 1) then (I13 20 2) else (I13 39 1)) : Int32))]) dX10_copy_41 rfl rfl rfl ?_
          refine gx_iconst (v := 0) dX10_copy_42 (by decide) ?_
          refine gx_istore (lv' := [(0, .ref 0), (1, .int 2), (2, .ref 39), (3, .int ((if (I13 20 2) < (I13 39 1) then (I13 20 2) else (I13 39 1)) : Int32)), (4, .int 0)]) dX10_copy_43 rfl rfl ?_
          exact h
        · replace h := h.2 (gm_bn0 z)
          refine gx_bipush (v := (-6)) dX10_copy_24 (by decide) ?_
          exact gx_iret dX10_copy_26 rfl rfl rfl ⟨_, _, _, _, rfl, rfl, h⟩
    | 3, _, hx =>
        have hx : x1 = 3 := hx
        replace h := h.2.2.2 hx
        subst hx
        refine gx_aald (v := 41) dX10_copy_15 rfl rfl rfl rfl (gm_vin rfl) (k := 3) rfl rfl ?_
        refine gx_astore_n (lv' := [(0, .ref 0), (1, .int 3), (2, .ref 41)]) dX10_copy_16 rfl rfl rfl ?_
        refine gx_aload_n 2 dX10_copy_17 rfl rfl ?_
        refine gx_callV 6 (As := []) (st := []) dX10_copy_18 ml_X10_190 mm_X6_isMissing rfl rfl rfl rfl rfl rfl ⟨rfl, rfl⟩ h (fun v h2 hq => ?_)
        clear h
        obtain ⟨b20, I17, L18, c19, rfl, rfl, h⟩ := hq
        show Z_J_copy g Q 21 [(0, .ref 0), (1, .int 3), (2, .ref 41)] [.int (gm_b b20)] I17 L18 c19
        refine gx_if_eq 27 dX10_copy_21 (by decide) ⟨fun z => ?_, fun z => ?_⟩
        · replace h := h.1 (gm_b0.mp z)
          refine gx_aload_n 2 dX10_copy_27 rfl rfl ?_
          refine gx_geti 6 1 (v := (I17 41 1)) dX10_copy_28 fl_X10_198 rfl rfl rfl ?_
          refine gx_aload_n 0 dX10_copy_31 rfl rfl ?_
          refine gx_getr 10 5 (v := 20) dX10_copy_32 fl_X10_68 rfl rfl rfl ?_
          refine gx_geti 8 2 (v := (I17 20 2)) dX10_copy_35 fl_X10_154 rfl rfl rfl ?_
          refine gx_mmin dX10_copy_38 ml_X10_268 mw_min rfl rfl rfl rfl ?_
          refine gx_istore_n (lv' := [(0, .ref 0), (1, .int 3), (2, .ref 41), (3, .int ((if (I17 20 2) < (I17 41 1) then (I17 20 2) else (I17 41 1)) : Int32))]) dX10_copy_41 rfl rfl rfl ?_
          refine gx_iconst (v := 0) dX10_copy_42 (by decide) ?_
          refine gx_istore (lv' := [(0, .ref 0), (1, .int 3), (2, .ref 41), (3, .int ((if (I17 20 2) < (I17 41 1) then (I17 20 2) else (I17 41 1)) : Int32)), (4, .int 0)]) dX10_copy_43 rfl rfl ?_
          exact h
        · replace h := h.2 (gm_bn0 z)
          refine gx_bipush (v := (-6)) dX10_copy_24 (by decide) ?_
          exact gx_iret dX10_copy_26 rfl rfl rfl ⟨_, _, _, _, rfl, rfl, h⟩
set_option maxRecDepth 100000 in
theorem r_J_copy_45_35 {g : gm_G} {Q : Int32 → mI → mL → gm_cfg → Prop} {x3 x4 : Int32} {I : mI} {L : mL} {c : gm_cfg} (h : ((x3 ≤ x4 → Q x3 I L c) ∧ (¬ x3 ≤ x4 → (vp_in x4 40 ∧ (C_Ro35_set g x4 (Int32.toInt64 (I 21 (Int32.toNatClampNeg x4))) I L c (fun r4 I1 L2 c3 => Z_J_copy g Q 45 [(0, .ref 0), (1, .int 0), (2, .ref 35), (3, .int x3), (4, .int (x4 + 1))] [] I1 L2 c3)))))) : Z_J_copy g Q 45 [(0, .ref 0), (1, .int 0), (2, .ref 35), (3, .int x3), (4, .int x4)] [] I L c := by
  refine gx_iload 4 dX10_copy_45 rfl ?_
  refine gx_iload_n 3 dX10_copy_47 rfl rfl ?_
  refine gx_icmp_ge 75 dX10_copy_48 (by decide) ⟨fun z => ?_, fun z => ?_⟩
  · replace h := h.1 z
    refine gx_iload_n 3 dX10_copy_75 rfl rfl ?_
    exact gx_iret dX10_copy_76 rfl rfl rfl ⟨_, _, _, _, rfl, rfl, h⟩
  · replace h := h.2 z
    refine gx_aload_n 2 dX10_copy_51 rfl rfl ?_
    refine gx_iload 4 dX10_copy_52 rfl ?_
    refine gx_aload_n 0 dX10_copy_54 rfl rfl ?_
    refine gx_getr 10 5 (v := 20) dX10_copy_55 fl_X10_68 rfl rfl rfl ?_
    refine gx_getr 8 0 (v := 21) dX10_copy_58 fl_X10_162 rfl rfl rfl ?_
    refine gx_iload 4 dX10_copy_61 rfl ?_
    obtain ⟨hi, h⟩ := h
    refine gx_iald (v := (I 21 (Int32.toNatClampNeg x4))) dX10_copy_63 rfl rfl hi (k := (Int32.toNatClampNeg x4)) rfl rfl ?_
    refine gx_i2l dX10_copy_64 ?_
    refine gx_callV 6 (As := [.int x4, .long (Int32.toInt64 (I 21 (Int32.toNatClampNeg x4)))]) (st := []) dX10_copy_65 ml_X10_386 mm_X6_set rfl rfl rfl rfl rfl rfl ⟨rfl, rfl⟩ h (fun v h2 hq => ?_)
    clear h
    obtain ⟨r4, I1, L2, c3, rfl, rfl, h⟩ := hq
    show Z_J_copy g Q 68 [(0, .ref 0), (1, .int 0), (2, .ref 35), (3, .int x3), (4, .int x4)] [.long r4] I1 L2 c3
    refine gx_pop2 dX10_copy_68 rfl ?_
    refine gx_iinc (v := (x4 + 1)) (lv' := [(0, .ref 0), (1, .int 0), (2, .ref 35), (3, .int x3), (4, .int (x4 + 1))]) 4 dX10_copy_69 rfl rfl rfl rfl ?_
    refine gx_goto 45 dX10_copy_72 (by decide) ?_
    exact h
set_option maxRecDepth 100000 in
theorem r_J_copy_45_37 {g : gm_G} {Q : Int32 → mI → mL → gm_cfg → Prop} {x3 x4 : Int32} {I : mI} {L : mL} {c : gm_cfg} (h : ((x3 ≤ x4 → Q x3 I L c) ∧ (¬ x3 ≤ x4 → (vp_in x4 40 ∧ (C_Ro37_set g x4 (Int32.toInt64 (I 21 (Int32.toNatClampNeg x4))) I L c (fun r4 I1 L2 c3 => Z_J_copy g Q 45 [(0, .ref 0), (1, .int 1), (2, .ref 37), (3, .int x3), (4, .int (x4 + 1))] [] I1 L2 c3)))))) : Z_J_copy g Q 45 [(0, .ref 0), (1, .int 1), (2, .ref 37), (3, .int x3), (4, .int x4)] [] I L c := by
  refine gx_iload 4 dX10_copy_45 rfl ?_
  refine gx_iload_n 3 dX10_copy_47 rfl rfl ?_
  refine gx_icmp_ge 75 dX10_copy_48 (by decide) ⟨fun z => ?_, fun z => ?_⟩
  · replace h := h.1 z
    refine gx_iload_n 3 dX10_copy_75 rfl rfl ?_
    exact gx_iret dX10_copy_76 rfl rfl rfl ⟨_, _, _, _, rfl, rfl, h⟩
  · replace h := h.2 z
    refine gx_aload_n 2 dX10_copy_51 rfl rfl ?_
    refine gx_iload 4 dX10_copy_52 rfl ?_
    refine gx_aload_n 0 dX10_copy_54 rfl rfl ?_
    refine gx_getr 10 5 (v := 20) dX10_copy_55 fl_X10_68 rfl rfl rfl ?_
    refine gx_getr 8 0 (v := 21) dX10_copy_58 fl_X10_162 rfl rfl rfl ?_
    refine gx_iload 4 dX10_copy_61 rfl ?_
    obtain ⟨hi, h⟩ := h
    refine gx_iald (v := (I 21 (Int32.toNatClampNeg x4))) dX10_copy_63 rfl rfl hi (k := (Int32.toNatClampNeg x4)) rfl rfl ?_
    refine gx_i2l dX10_copy_64 ?_
    refine gx_callV 6 (As := [.int x4, .long (Int32.toInt64 (I 21 (Int32.toNatClampNeg x4)))]) (st := []) dX10_copy_65 ml_X10_386 mm_X6_set rfl rfl rfl rfl rfl rfl ⟨rfl, rfl⟩ h (fun v h2 hq => ?_)
    clear h
    obtain ⟨r4, I1, L2, c3, rfl, rfl, h⟩ := hq
    show Z_J_copy g Q 68 [(0, .ref 0), (1, .int 1), (2, .ref 37), (3, .int x3), (4, .int x4)] [.long r4] I1 L2 c3
    refine gx_pop2 dX10_copy_68 rfl ?_
    refine gx_iinc (v := (x4 + 1)) (lv' := [(0, .ref 0), (1, .int 1), (2, .ref 37), (3, .int x3), (4, .int (x4 + 1))]) 4 dX10_copy_69 rfl rfl rfl rfl ?_
    refine gx_goto 45 dX10_copy_72 (by decide) ?_
    exact h
set_option maxRecDepth 100000 in
theorem r_J_copy_45_39 {g : gm_G} {Q : Int32 → mI → mL → gm_cfg → Prop} {x3 x4 : Int32} {I : mI} {L : mL} {c : gm_cfg} (h : ((x3 ≤ x4 → Q x3 I L c) ∧ (¬ x3 ≤ x4 → (vp_in x4 40 ∧ (C_Ro39_set g x4 (Int32.toInt64 (I 21 (Int32.toNatClampNeg x4))) I L c (fun r4 I1 L2 c3 => Z_J_copy g Q 45 [(0, .ref 0), (1, .int 2), (2, .ref 39), (3, .int x3), (4, .int (x4 + 1))] [] I1 L2 c3)))))) : Z_J_copy g Q 45 [(0, .ref 0), (1, .int 2), (2, .ref 39), (3, .int x3), (4, .int x4)] [] I L c := by
  refine gx_iload 4 dX10_copy_45 rfl ?_
  refine gx_iload_n 3 dX10_copy_47 rfl rfl ?_
  refine gx_icmp_ge 75 dX10_copy_48 (by decide) ⟨fun z => ?_, fun z => ?_⟩
  · replace h := h.1 z
    refine gx_iload_n 3 dX10_copy_75 rfl rfl ?_
    exact gx_iret dX10_copy_76 rfl rfl rfl ⟨_, _, _, _, rfl, rfl, h⟩
  · replace h := h.2 z
    refine gx_aload_n 2 dX10_copy_51 rfl rfl ?_
    refine gx_iload 4 dX10_copy_52 rfl ?_
    refine gx_aload_n 0 dX10_copy_54 rfl rfl ?_
    refine gx_getr 10 5 (v := 20) dX10_copy_55 fl_X10_68 rfl rfl rfl ?_
    refine gx_getr 8 0 (v := 21) dX10_copy_58 fl_X10_162 rfl rfl rfl ?_
    refine gx_iload 4 dX10_copy_61 rfl ?_
    obtain ⟨hi, h⟩ := h
    refine gx_iald (v := (I 21 (Int32.toNatClampNeg x4))) dX10_copy_63 rfl rfl hi (k := (Int32.toNatClampNeg x4)) rfl rfl ?_
    refine gx_i2l dX10_copy_64 ?_
    refine gx_callV 6 (As := [.int x4, .long (Int32.toInt64 (I 21 (Int32.toNatClampNeg x4)))]) (st := []) dX10_copy_65 ml_X10_386 mm_X6_set rfl rfl rfl rfl rfl rfl ⟨rfl, rfl⟩ h (fun v h2 hq => ?_)
    clear h
    obtain ⟨r4, I1, L2, c3, rfl, rfl, h⟩ := hq
    show Z_J_copy g Q 68 [(0, .ref 0), (1, .int 2), (2, .ref 39), (3, .int x3), (4, .int x4)] [.long r4] I1 L2 c3
    refine gx_pop2 dX10_copy_68 rfl ?_
    refine gx_iinc (v := (x4 + 1)) (lv' := [(0, .ref 0), (1, .int 2), (2, .ref 39), (3, .int x3), (4, .int (x4 + 1))]) 4 dX10_copy_69 rfl rfl rfl rfl ?_
    refine gx_goto 45 dX10_copy_72 (by decide) ?_
    exact h
set_option maxRecDepth 100000 in
theorem r_J_copy_45_41 {g : gm_G} {Q : Int32 → mI → mL → gm_cfg → Prop} {x3 x4 : Int32} {I : mI} {L : mL} {c : gm_cfg} (h : ((x3 ≤ x4 → Q x3 I L c) ∧ (¬ x3 ≤ x4 → (vp_in x4 40 ∧ (C_Ro41_set g x4 (Int32.toInt64 (I 21 (Int32.toNatClampNeg x4))) I L c (fun r4 I1 L2 c3 => Z_J_copy g Q 45 [(0, .ref 0), (1, .int 3), (2, .ref 41), (3, .int x3), (4, .int (x4 + 1))] [] I1 L2 c3)))))) : Z_J_copy g Q 45 [(0, .ref 0), (1, .int 3), (2, .ref 41), (3, .int x3), (4, .int x4)] [] I L c := by
  refine gx_iload 4 dX10_copy_45 rfl ?_
  refine gx_iload_n 3 dX10_copy_47 rfl rfl ?_
  refine gx_icmp_ge 75 dX10_copy_48 (by decide) ⟨fun z => ?_, fun z => ?_⟩
  · replace h := h.1 z
    refine gx_iload_n 3 dX10_copy_75 rfl rfl ?_
    exact gx_iret dX10_copy_76 rfl rfl rfl ⟨_, _, _, _, rfl, rfl, h⟩
  · replace h := h.2 z
    refine gx_aload_n 2 dX10_copy_51 rfl rfl ?_
    refine gx_iload 4 dX10_copy_52 rfl ?_
    refine gx_aload_n 0 dX10_copy_54 rfl rfl ?_
    refine gx_getr 10 5 (v := 20) dX10_copy_55 fl_X10_68 rfl rfl rfl ?_
    refine gx_getr 8 0 (v := 21) dX10_copy_58 fl_X10_162 rfl rfl rfl ?_
    refine gx_iload 4 dX10_copy_61 rfl ?_
    obtain ⟨hi, h⟩ := h
    refine gx_iald (v := (I 21 (Int32.toNatClampNeg x4))) dX10_copy_63 rfl rfl hi (k := (Int32.toNatClampNeg x4)) rfl rfl ?_
    refine gx_i2l dX10_copy_64 ?_
    refine gx_callV 6 (As := [.int x4, .long (Int32.toInt64 (I 21 (Int32.toNatClampNeg x4)))]) (st := []) dX10_copy_65 ml_X10_386 mm_X6_set rfl rfl rfl rfl rfl rfl ⟨rfl, rfl⟩ h (fun v h2 hq => ?_)
    clear h
    obtain ⟨r4, I1, L2, c3, rfl, rfl, h⟩ := hq
    show Z_J_copy g Q 68 [(0, .ref 0), (1, .int 3), (2, .ref 41), (3, .int x3), (4, .int x4)] [.long r4] I1 L2 c3
    refine gx_pop2 dX10_copy_68 rfl ?_
    refine gx_iinc (v := (x4 + 1)) (lv' := [(0, .ref 0), (1, .int 3), (2, .ref 41), (3, .int x3), (4, .int (x4 + 1))]) 4 dX10_copy_69 rfl rfl rfl rfl ?_
    refine gx_goto 45 dX10_copy_72 (by decide) ?_
    exact h
abbrev Z_J_isImage (g : gm_G) (Q : Bool → mI → mL → gm_cfg → Prop) (pc : Nat) (lv : List (Nat × Value)) (st : List Value) (I : mI) (L : mL) (c : gm_cfg) : Prop := gm_X g RX10 "isImage" cX10_isImage 1 (some .boolean) 1 0 0 (qZ Q) 0 0 pc lv st (SH, I, L, RR c)
abbrev C_J_isImage (g : gm_G) (x0 : Int32) (I : mI) (L : mL) (c : gm_cfg) (Q : Bool → mI → mL → gm_cfg → Prop) : Prop := gm_Met g yX10_isImage cX10_isImage 1 (some .boolean) 1 0 0 [.int x0] (SH, I, L, RR c) (qZ Q)
set_option maxRecDepth 100000 in
theorem e_J_isImage {g : gm_G} {Q : Bool → mI → mL → gm_cfg → Prop} {x0 : Int32} {I : mI} {L : mL} {c : gm_cfg} (h : ((x0 < 0 → Q false I L c) ∧ (¬ x0 < 0 → ((2 ≤ x0 → Q false I L c) ∧ (¬ 2 ≤ x0 → Q true I L c))))) : C_J_isImage g x0 I L c Q := by
  refine gm_enter (lv := [(0, .int x0)]) (by decide) rfl rfl rfl rfl ?_
  show Z_J_isImage g Q 0 [(0, .int x0)] [] I L c
  refine gx_iload_n 0 dX10_isImage_0 rfl rfl ?_
  refine gx_if_lt 13 dX10_isImage_1 (by decide) ⟨fun z => ?_, fun z => ?_⟩
  · replace h := h.1 z
    refine gx_iconst (v := 0) dX10_isImage_13 (by decide) ?_
    exact gx_zret .boolean dX10_isImage_14 rfl rfl rfl rfl ⟨false, _, _, _, rfl, rfl, h⟩
  · replace h := h.2 z
    refine gx_iload_n 0 dX10_isImage_4 rfl rfl ?_
    refine gx_iconst (v := 2) dX10_isImage_5 (by decide) ?_
    refine gx_icmp_ge 13 dX10_isImage_6 (by decide) ⟨fun z => ?_, fun z => ?_⟩
    · replace h := h.1 z
      refine gx_iconst (v := 0) dX10_isImage_13 (by decide) ?_
      exact gx_zret .boolean dX10_isImage_14 rfl rfl rfl rfl ⟨false, _, _, _, rfl, rfl, h⟩
    · replace h := h.2 z
      refine gx_iconst (v := 1) dX10_isImage_9 (by decide) ?_
      refine gx_goto 14 dX10_isImage_10 (by decide) ?_
      exact gx_zret .boolean dX10_isImage_14 rfl rfl rfl rfl ⟨true, _, _, _, rfl, rfl, h⟩
abbrev Z_J_image (g : gm_G) (Q : Int32 → mI → mL → gm_cfg → Prop) (pc : Nat) (lv : List (Nat × Value)) (st : List Value) (I : mI) (L : mL) (c : gm_cfg) : Prop := gm_X g RX10 "image" cX10_image 2 (some .int) 2 0 0 (qI Q) 0 0 pc lv st (SH, I, L, RR c)
abbrev C_J_image (g : gm_G) (x1 : Int32) (I : mI) (L : mL) (c : gm_cfg) (Q : Int32 → mI → mL → gm_cfg → Prop) : Prop := gm_Met g yX10_image cX10_image 2 (some .int) 2 0 0 [.ref 0, .int x1] (SH, I, L, RR c) (qI Q)
set_option maxRecDepth 100000 in
theorem e_J_image {g : gm_G} {Q : Int32 → mI → mL → gm_cfg → Prop} {x1 : Int32} {I : mI} {L : mL} {c : gm_cfg} (h : (C_J_isImage g x1 I L c (fun b4 I1 L2 c3 => ((b4 = false → Q (-2) I1 L2 c3) ∧ (b4 = true → (vp_in x1 2 ∧ (x1 = 0 → (C_Fe44_takeFrom_16 g I1 L2 c3 (fun I5 L6 c7 => (C_Sh48_takeFrom_20 g I5 L6 c7 (fun I8 L9 c10 => Q 0 (gm_u I8 43 2 1) L9 c10))))) ∧ (x1 = 1 → (C_Fe52_takeFrom_16 g I1 L2 c3 (fun I11 L12 c13 => (C_Sh56_takeFrom_20 g I11 L12 c13 (fun I14 L15 c16 => Q 0 (gm_u I14 51 2 1) L15 c16))))))))))) : C_J_image g x1 I L c Q := by
  refine gm_enter (lv := [(0, .ref 0), (1, .int x1)]) (by decide) rfl rfl rfl rfl ?_
  show Z_J_image g Q 0 [(0, .ref 0), (1, .int x1)] [] I L c
  refine gx_iload_n 1 dX10_image_0 rfl rfl ?_
  refine gx_callS (As := [.int x1]) (st := []) dX10_image_1 ml_X10_390 mm_X10_isImage rfl rfl rfl rfl ⟨rfl, rfl⟩ h (fun v h2 hq => ?_)
  clear h
  obtain ⟨b4, I1, L2, c3, rfl, rfl, h⟩ := hq
  show Z_J_image g Q 4 [(0, .ref 0), (1, .int x1)] [.int (gm_b b4)] I1 L2 c3
  refine gx_if_ne 10 dX10_image_4 (by decide) ⟨fun z => ?_, fun z => ?_⟩
  · replace h := h.1 (gm_b0.mp z)
    refine gx_bipush (v := (-2)) dX10_image_7 (by decide) ?_
    exact gx_iret dX10_image_9 rfl rfl rfl ⟨_, _, _, _, rfl, rfl, h⟩
  · replace h := h.2 (gm_bn0 z)
    refine gx_aload_n 0 dX10_image_10 rfl rfl ?_
    refine gx_getr 10 12 (v := 15) dX10_image_11 fl_X10_56 rfl rfl rfl ?_
    refine gx_iload_n 1 dX10_image_14 rfl rfl ?_
    obtain ⟨hi, h⟩ := h
    obtain ⟨j, hj, hx⟩ := vp_in_of hi (by decide)
    match j, hj, hx with
    | 0, _, hx =>
        have hx : x1 = 0 := hx
        replace h := h.1 hx
        subst hx
        refine gx_aald (v := 43) dX10_image_15 rfl rfl rfl rfl (gm_vin rfl) (k := 0) rfl rfl ?_
        refine gx_getr 2 0 (v := 44) dX10_image_16 fl_X10_393 rfl rfl rfl ?_
        refine gx_aload_n 0 dX10_image_19 rfl rfl ?_
        refine gx_getr 10 2 (v := 16) dX10_image_20 fl_X10_65 rfl rfl rfl ?_
        refine gx_callV 1 (As := [.ref 16]) (st := []) dX10_image_23 ml_X10_101 mm_X1_takeFrom rfl rfl rfl rfl rfl rfl ⟨rfl, rfl⟩ h (fun v h2 hq => ?_)
        clear h
        obtain ⟨I5, L6, c7, rfl, rfl, h⟩ := hq
        show Z_J_image g Q 26 [(0, .ref 0), (1, .int 0)] [] I5 L6 c7
        refine gx_aload_n 0 dX10_image_26 rfl rfl ?_
        refine gx_getr 10 12 (v := 15) dX10_image_27 fl_X10_56 rfl rfl rfl ?_
        refine gx_iload_n 1 dX10_image_30 rfl rfl ?_
        refine gx_aald (v := 43) dX10_image_31 rfl rfl rfl rfl (gm_vin rfl) (k := 0) rfl rfl ?_
        refine gx_getr 2 1 (v := 48) dX10_image_32 fl_X10_394 rfl rfl rfl ?_
        refine gx_aload_n 0 dX10_image_35 rfl rfl ?_
        refine gx_getr 10 5 (v := 20) dX10_image_36 fl_X10_68 rfl rfl rfl ?_
        refine gx_callV 8 (As := [.ref 20]) (st := []) dX10_image_39 ml_X10_395 mm_X8_takeFrom rfl rfl rfl rfl rfl rfl ⟨rfl, rfl⟩ h (fun v h2 hq => ?_)
        clear h
        obtain ⟨I8, L9, c10, rfl, rfl, h⟩ := hq
        show Z_J_image g Q 42 [(0, .ref 0), (1, .int 0)] [] I8 L9 c10
        refine gx_aload_n 0 dX10_image_42 rfl rfl ?_
        refine gx_getr 10 12 (v := 15) dX10_image_43 fl_X10_56 rfl rfl rfl ?_
        refine gx_iload_n 1 dX10_image_46 rfl rfl ?_
        refine gx_aald (v := 43) dX10_image_47 rfl rfl rfl rfl (gm_vin rfl) (k := 0) rfl rfl ?_
        refine gx_iconst (v := 1) dX10_image_48 (by decide) ?_
        refine gx_puti 2 2 dX10_image_49 fl_X10_398 rfl rfl rfl ⟨rfl, rfl⟩ ?_
        show Z_J_image g Q 52 [(0, .ref 0), (1, .int 0)] [] (gm_u I8 43 2 1) L9 c10
        refine gx_iconst (v := 0) dX10_image_52 (by decide) ?_
        exact gx_iret dX10_image_53 rfl rfl rfl ⟨_, _, _, _, rfl, rfl, h⟩
    | 1, _, hx =>
        have hx : x1 = 1 := hx
        replace h := h.2 hx
        subst hx
        refine gx_aald (v := 51) dX10_image_15 rfl rfl rfl rfl (gm_vin rfl) (k := 1) rfl rfl ?_
        refine gx_getr 2 0 (v := 52) dX10_image_16 fl_X10_393 rfl rfl rfl ?_
        refine gx_aload_n 0 dX10_image_19 rfl rfl ?_
        refine gx_getr 10 2 (v := 16) dX10_image_20 fl_X10_65 rfl rfl rfl ?_
        refine gx_callV 1 (As := [.ref 16]) (st := []) dX10_image_23 ml_X10_101 mm_X1_takeFrom rfl rfl rfl rfl rfl rfl ⟨rfl, rfl⟩ h (fun v h2 hq => ?_)
        clear h
        obtain ⟨I11, L12, c13, rfl, rfl, h⟩ := hq
        show Z_J_image g Q 26 [(0, .ref 0), (1, .int 1)] [] I11 L12 c13
        refine gx_aload_n 0 dX10_image_26 rfl rfl ?_
        refine gx_getr 10 12 (v := 15) dX10_image_27 fl_X10_56 rfl rfl rfl ?_
        refine gx_iload_n 1 dX10_image_30 rfl rfl ?_
        refine gx_aald (v := 51) dX10_image_31 rfl rfl rfl rfl (gm_vin rfl) (k := 1) rfl rfl ?_
        refine gx_getr 2 1 (v := 56) dX10_image_32 fl_X10_394 rfl rfl rfl ?_
        refine gx_aload_n 0 dX10_image_35 rfl rfl ?_
        refine gx_getr 10 5 (v := 20) dX10_image_36 fl_X10_68 rfl rfl rfl ?_
        refine gx_callV 8 (As := [.ref 20]) (st := []) dX10_image_39 ml_X10_395 mm_X8_takeFrom rfl rfl rfl rfl rfl rfl ⟨rfl, rfl⟩ h (fun v h2 hq => ?_)
        clear h
        obtain ⟨I14, L15, c16, rfl, rfl, h⟩ := hq
        show Z_J_image g Q 42 [(0, .ref 0), (1, .int 1)] [] I14 L15 c16
        refine gx_aload_n 0 dX10_image_42 rfl rfl ?_
        refine gx_getr 10 12 (v := 15) dX10_image_43 fl_X10_56 rfl rfl rfl ?_
        refine gx_iload_n 1 dX10_image_46 rfl rfl ?_
        refine gx_aald (v := 51) dX10_image_47 rfl rfl rfl rfl (gm_vin rfl) (k := 1) rfl rfl ?_
        refine gx_iconst (v := 1) dX10_image_48 (by decide) ?_
        refine gx_puti 2 2 dX10_image_49 fl_X10_398 rfl rfl rfl ⟨rfl, rfl⟩ ?_
        show Z_J_image g Q 52 [(0, .ref 0), (1, .int 1)] [] (gm_u I14 51 2 1) L15 c16
        refine gx_iconst (v := 0) dX10_image_52 (by decide) ?_
        exact gx_iret dX10_image_53 rfl rfl rfl ⟨_, _, _, _, rfl, rfl, h⟩
abbrev Z_J_restore (g : gm_G) (Q : Int32 → mI → mL → gm_cfg → Prop) (pc : Nat) (lv : List (Nat × Value)) (st : List Value) (I : mI) (L : mL) (c : gm_cfg) : Prop := gm_X g RX10 "restore" cX10_restore 2 (some .int) 2 0 0 (qI Q) 0 0 pc lv st (SH, I, L, RR c)
abbrev C_J_restore (g : gm_G) (x1 : Int32) (I : mI) (L : mL) (c : gm_cfg) (Q : Int32 → mI → mL → gm_cfg → Prop) : Prop := gm_Met g yX10_restore cX10_restore 2 (some .int) 2 0 0 [.ref 0, .int x1] (SH, I, L, RR c) (qI Q)
set_option maxRecDepth 100000 in
theorem e_J_restore {g : gm_G} {Q : Int32 → mI → mL → gm_cfg → Prop} {x1 : Int32} {I : mI} {L : mL} {c : gm_cfg} (h : (C_J_isImage g x1 I L c (fun b4 I1 L2 c3 => ((b4 = false → Q (-2) I1 L2 c3) ∧ (b4 = true → (vp_in x1 2 ∧ (x1 = 0 → (((I1 43 2) = 0 → Q (-5) I1 L2 c3) ∧ (¬ (I1 43 2) = 0 → (C_Fe16_takeFrom_44 g I1 L2 c3 (fun I5 L6 c7 => (C_Sh20_takeFrom_48 g I5 L6 c7 (fun I8 L9 c10 => Q 0 I8 L9 c10))))))) ∧ (x1 = 1 → (((I1 51 2) = 0 → Q (-5) I1 L2 c3) ∧ (¬ (I1 51 2) = 0 → (C_Fe16_takeFrom_52 g I1 L2 c3 (fun I11 L12 c13 => (C_Sh20_takeFrom_56 g I11 L12 c13 (fun I14 L15 c16 => Q 0 I14 L15 c16))))))))))))) : C_J_restore g x1 I L c Q := by
  refine gm_enter (lv := [(0, .ref 0), (1, .int x1)]) (by decide) rfl rfl rfl rfl ?_
  show Z_J_restore g Q 0 [(0, .ref 0), (1, .int x1)] [] I L c
  refine gx_iload_n 1 dX10_restore_0 rfl rfl ?_
  refine gx_callS (As := [.int x1]) (st := []) dX10_restore_1 ml_X10_390 mm_X10_isImage rfl rfl rfl rfl ⟨rfl, rfl⟩ h (fun v h2 hq => ?_)
  clear h
  obtain ⟨b4, I1, L2, c3, rfl, rfl, h⟩ := hq
  show Z_J_restore g Q 4 [(0, .ref 0), (1, .int x1)] [.int (gm_b b4)] I1 L2 c3
  refine gx_if_ne 10 dX10_restore_4 (by decide) ⟨fun z => ?_, fun z => ?_⟩
  · replace h := h.1 (gm_b0.mp z)
    refine gx_bipush (v := (-2)) dX10_restore_7 (by decide) ?_
    exact gx_iret dX10_restore_9 rfl rfl rfl ⟨_, _, _, _, rfl, rfl, h⟩
  · replace h := h.2 (gm_bn0 z)
    refine gx_aload_n 0 dX10_restore_10 rfl rfl ?_
    refine gx_getr 10 12 (v := 15) dX10_restore_11 fl_X10_56 rfl rfl rfl ?_
    refine gx_iload_n 1 dX10_restore_14 rfl rfl ?_
    obtain ⟨hi, h⟩ := h
    obtain ⟨j, hj, hx⟩ := vp_in_of hi (by decide)
    match j, hj, hx with
    | 0, _, hx =>
        have hx : x1 = 0 := hx
        replace h := h.1 hx
        subst hx
        refine gx_aald (v := 43) dX10_restore_15 rfl rfl rfl rfl (gm_vin rfl) (k := 0) rfl rfl ?_
        refine gx_geti 2 2 (v := (I1 43 2)) dX10_restore_16 fl_X10_398 rfl rfl rfl ?_
        refine gx_if_ne 25 dX10_restore_19 (by decide) ⟨fun z => ?_, fun z => ?_⟩
        · replace h := h.1 z
          refine gx_bipush (v := (-5)) dX10_restore_22 (by decide) ?_
          exact gx_iret dX10_restore_24 rfl rfl rfl ⟨_, _, _, _, rfl, rfl, h⟩
        · replace h := h.2 z
          refine gx_aload_n 0 dX10_restore_25 rfl rfl ?_
          refine gx_getr 10 2 (v := 16) dX10_restore_26 fl_X10_65 rfl rfl rfl ?_
          refine gx_aload_n 0 dX10_restore_29 rfl rfl ?_
          refine gx_getr 10 12 (v := 15) dX10_restore_30 fl_X10_56 rfl rfl rfl ?_
          refine gx_iload_n 1 dX10_restore_33 rfl rfl ?_
          refine gx_aald (v := 43) dX10_restore_34 rfl rfl rfl rfl (gm_vin rfl) (k := 0) rfl rfl ?_
          refine gx_getr 2 0 (v := 44) dX10_restore_35 fl_X10_393 rfl rfl rfl ?_
          refine gx_callV 1 (As := [.ref 44]) (st := []) dX10_restore_38 ml_X10_101 mm_X1_takeFrom rfl rfl rfl rfl rfl rfl ⟨rfl, rfl⟩ h (fun v h2 hq => ?_)
          clear h
          obtain ⟨I5, L6, c7, rfl, rfl, h⟩ := hq
          show Z_J_restore g Q 41 [(0, .ref 0), (1, .int 0)] [] I5 L6 c7
          refine gx_aload_n 0 dX10_restore_41 rfl rfl ?_
          refine gx_getr 10 5 (v := 20) dX10_restore_42 fl_X10_68 rfl rfl rfl ?_
          refine gx_aload_n 0 dX10_restore_45 rfl rfl ?_
          refine gx_getr 10 12 (v := 15) dX10_restore_46 fl_X10_56 rfl rfl rfl ?_
          refine gx_iload_n 1 dX10_restore_49 rfl rfl ?_
          refine gx_aald (v := 43) dX10_restore_50 rfl rfl rfl rfl (gm_vin rfl) (k := 0) rfl rfl ?_
          refine gx_getr 2 1 (v := 48) dX10_restore_51 fl_X10_394 rfl rfl rfl ?_
          refine gx_callV 8 (As := [.ref 48]) (st := []) dX10_restore_54 ml_X10_395 mm_X8_takeFrom rfl rfl rfl rfl rfl rfl ⟨rfl, rfl⟩ h (fun v h2 hq => ?_)
          clear h
          obtain ⟨I8, L9, c10, rfl, rfl, h⟩ := hq
          show Z_J_restore g Q 57 [(0, .ref 0), (1, .int 0)] [] I8 L9 c10
          refine gx_iconst (v := 0) dX10_restore_57 (by decide) ?_
          exact gx_iret dX10_restore_58 rfl rfl rfl ⟨_, _, _, _, rfl, rfl, h⟩
    | 1, _, hx =>
        have hx : x1 = 1 := hx
        replace h := h.2 hx
        subst hx
        refine gx_aald (v := 51) dX10_restore_15 rfl rfl rfl rfl (gm_vin rfl) (k := 1) rfl rfl ?_
        refine gx_geti 2 2 (v := (I1 51 2)) dX10_restore_16 fl_X10_398 rfl rfl rfl ?_
        refine gx_if_ne 25 dX10_restore_19 (by decide) ⟨fun z => ?_, fun z => ?_⟩
        · replace h := h.1 z
          refine gx_bipush (v := (-5)) dX10_restore_22 (by decide) ?_
          exact gx_iret dX10_restore_24 rfl rfl rfl ⟨_, _, _, _, rfl, rfl, h⟩
        · replace h := h.2 z
          refine gx_aload_n 0 dX10_restore_25 rfl rfl ?_
          refine gx_getr 10 2 (v := 16) dX10_restore_26 fl_X10_65 rfl rfl rfl ?_
          refine gx_aload_n 0 dX10_restore_29 rfl rfl ?_
          refine gx_getr 10 12 (v := 15) dX10_restore_30 fl_X10_56 rfl rfl rfl ?_
          refine gx_iload_n 1 dX10_restore_33 rfl rfl ?_
          refine gx_aald (v := 51) dX10_restore_34 rfl rfl rfl rfl (gm_vin rfl) (k := 1) rfl rfl ?_
          refine gx_getr 2 0 (v := 52) dX10_restore_35 fl_X10_393 rfl rfl rfl ?_
          refine gx_callV 1 (As := [.ref 52]) (st := []) dX10_restore_38 ml_X10_101 mm_X1_takeFrom rfl rfl rfl rfl rfl rfl ⟨rfl, rfl⟩ h (fun v h2 hq => ?_)
          clear h
          obtain ⟨I11, L12, c13, rfl, rfl, h⟩ := hq
          show Z_J_restore g Q 41 [(0, .ref 0), (1, .int 1)] [] I11 L12 c13
          refine gx_aload_n 0 dX10_restore_41 rfl rfl ?_
          refine gx_getr 10 5 (v := 20) dX10_restore_42 fl_X10_68 rfl rfl rfl ?_
          refine gx_aload_n 0 dX10_restore_45 rfl rfl ?_
          refine gx_getr 10 12 (v := 15) dX10_restore_46 fl_X10_56 rfl rfl rfl ?_
          refine gx_iload_n 1 dX10_restore_49 rfl rfl ?_
          refine gx_aald (v := 51) dX10_restore_50 rfl rfl rfl rfl (gm_vin rfl) (k := 1) rfl rfl ?_
          refine gx_getr 2 1 (v := 56) dX10_restore_51 fl_X10_394 rfl rfl rfl ?_
          refine gx_callV 8 (As := [.ref 56]) (st := []) dX10_restore_54 ml_X10_395 mm_X8_takeFrom rfl rfl rfl rfl rfl rfl ⟨rfl, rfl⟩ h (fun v h2 hq => ?_)
          clear h
          obtain ⟨I14, L15, c16, rfl, rfl, h⟩ := hq
          show Z_J_restore g Q 57 [(0, .ref 0), (1, .int 1)] [] I14 L15 c16
          refine gx_iconst (v := 0) dX10_restore_57 (by decide) ?_
          exact gx_iret dX10_restore_58 rfl rfl rfl ⟨_, _, _, _, rfl, rfl, h⟩
abbrev Z_J_count (g : gm_G) (Q : Int32 → mI → mL → gm_cfg → Prop) (pc : Nat) (lv : List (Nat × Value)) (st : List Value) (I : mI) (L : mL) (c : gm_cfg) : Prop := gm_X g RX10 "count" cX10_count 2 (some .int) 3 0 0 (qI Q) 0 0 pc lv st (SH, I, L, RR c)
abbrev C_J_count (g : gm_G) (x1 : Int32) (I : mI) (L : mL) (c : gm_cfg) (Q : Int32 → mI → mL → gm_cfg → Prop) : Prop := gm_Met g yX10_count cX10_count 2 (some .int) 3 0 0 [.ref 0, .int x1] (SH, I, L, RR c) (qI Q)
set_option maxRecDepth 100000 in
theorem e_J_count {g : gm_G} {Q : Int32 → mI → mL → gm_cfg → Prop} {x1 : Int32} {I : mI} {L : mL} {c : gm_cfg} (h : ((x1 = 0 → Q (I 16 5) I L c) ∧ (¬ x1 = 0 → ((x1 = 1 → Q (I 20 2) I L c) ∧ (¬ x1 = 1 → ((x1 = 2 → Q (I 16 0) I L c) ∧ (¬ x1 = 2 → ((x1 = 3 → Q (I 16 1) I L c) ∧ (¬ x1 = 3 → ((x1 = 4 → Q (I 16 10) I L c) ∧ (¬ x1 = 4 → ((x1 = 5 → Q (I 16 11) I L c) ∧ (¬ x1 = 5 → ((x1 = 6 → Q (I 16 12) I L c) ∧ (¬ x1 = 6 → ((x1 = 7 → (((I 16 9) = 0 → Q 0 I L c) ∧ (¬ (I 16 9) = 0 → Q 1 I L c))) ∧ (¬ x1 = 7 → ((x1 = 8 → Q (I 0 1) I L c) ∧ (¬ x1 = 8 → ((x1 = 9 → Q (I 16 13) I L c) ∧ (¬ x1 = 9 → ((x1 = 10 → (C_Sh20_unlike g I L c (fun r4 I1 L2 c3 => Q r4 I1 L2 c3))) ∧ (¬ x1 = 10 → ((x1 = 11 → Q ((I 16 10) * (I 20 2)) I L c) ∧ (¬ x1 = 11 → Q (-1) I L c))))))))))))))))))))))))) : C_J_count g x1 I L c Q := by
  refine gm_enter (lv := [(0, .ref 0), (1, .int x1)]) (by decide) rfl rfl rfl rfl ?_
  show Z_J_count g Q 0 [(0, .ref 0), (1, .int x1)] [] I L c
  refine gx_iload_n 1 dX10_count_0 rfl rfl ?_
  refine gx_tsw [(0, 64), (1, 72), (2, 80), (3, 88), (4, 96), (5, 104), (6, 112), (7, 120), (8, 136), (9, 141), (10, 149), (11, 157)] 173 dX10_count_1 (by decide +kernel) ?_
  refine ⟨fun z => ?_, fun z => ?_⟩
  · replace h := h.1 z
    show Z_J_count g Q 64 [(0, .ref 0), (1, .int x1)] [] I L c
    refine gx_aload_n 0 dX10_count_64 rfl rfl ?_
    refine gx_getr 10 2 (v := 16) dX10_count_65 fl_X10_65 rfl rfl rfl ?_
    refine gx_geti 1 5 (v := (I 16 5)) dX10_count_68 fl_X10_220 rfl rfl rfl ?_
    exact gx_iret dX10_count_71 rfl rfl rfl ⟨_, _, _, _, rfl, rfl, h⟩
  · replace h := h.2 z
    refine ⟨fun z => ?_, fun z => ?_⟩
    · replace h := h.1 z
      show Z_J_count g Q 72 [(0, .ref 0), (1, .int x1)] [] I L c
      refine gx_aload_n 0 dX10_count_72 rfl rfl ?_
      refine gx_getr 10 5 (v := 20) dX10_count_73 fl_X10_68 rfl rfl rfl ?_
      refine gx_geti 8 2 (v := (I 20 2)) dX10_count_76 fl_X10_154 rfl rfl rfl ?_
      exact gx_iret dX10_count_79 rfl rfl rfl ⟨_, _, _, _, rfl, rfl, h⟩
    · replace h := h.2 z
      refine ⟨fun z => ?_, fun z => ?_⟩
      · replace h := h.1 z
        show Z_J_count g Q 80 [(0, .ref 0), (1, .int x1)] [] I L c
        refine gx_aload_n 0 dX10_count_80 rfl rfl ?_
        refine gx_getr 10 2 (v := 16) dX10_count_81 fl_X10_65 rfl rfl rfl ?_
        refine gx_geti 1 0 (v := (I 16 0)) dX10_count_84 fl_X10_296 rfl rfl rfl ?_
        exact gx_iret dX10_count_87 rfl rfl rfl ⟨_, _, _, _, rfl, rfl, h⟩
      · replace h := h.2 z
        refine ⟨fun z => ?_, fun z => ?_⟩
        · replace h := h.1 z
          show Z_J_count g Q 88 [(0, .ref 0), (1, .int x1)] [] I L c
          refine gx_aload_n 0 dX10_count_88 rfl rfl ?_
          refine gx_getr 10 2 (v := 16) dX10_count_89 fl_X10_65 rfl rfl rfl ?_
          refine gx_geti 1 1 (v := (I 16 1)) dX10_count_92 fl_X10_299 rfl rfl rfl ?_
          exact gx_iret dX10_count_95 rfl rfl rfl ⟨_, _, _, _, rfl, rfl, h⟩
        · replace h := h.2 z
          refine ⟨fun z => ?_, fun z => ?_⟩
          · replace h := h.1 z
            show Z_J_count g Q 96 [(0, .ref 0), (1, .int x1)] [] I L c
            refine gx_aload_n 0 dX10_count_96 rfl rfl ?_
            refine gx_getr 10 2 (v := 16) dX10_count_97 fl_X10_65 rfl rfl rfl ?_
            refine gx_geti 1 10 (v := (I 16 10)) dX10_count_100 fl_X10_353 rfl rfl rfl ?_
            exact gx_iret dX10_count_103 rfl rfl rfl ⟨_, _, _, _, rfl, rfl, h⟩
          · replace h := h.2 z
            refine ⟨fun z => ?_, fun z => ?_⟩
            · replace h := h.1 z
              show Z_J_count g Q 104 [(0, .ref 0), (1, .int x1)] [] I L c
              refine gx_aload_n 0 dX10_count_104 rfl rfl ?_
              refine gx_getr 10 2 (v := 16) dX10_count_105 fl_X10_65 rfl rfl rfl ?_
              refine gx_geti 1 11 (v := (I 16 11)) dX10_count_108 fl_X10_350 rfl rfl rfl ?_
              exact gx_iret dX10_count_111 rfl rfl rfl ⟨_, _, _, _, rfl, rfl, h⟩
            · replace h := h.2 z
              refine ⟨fun z => ?_, fun z => ?_⟩
              · replace h := h.1 z
                show Z_J_count g Q 112 [(0, .ref 0), (1, .int x1)] [] I L c
                refine gx_aload_n 0 dX10_count_112 rfl rfl ?_
                refine gx_getr 10 2 (v := 16) dX10_count_113 fl_X10_65 rfl rfl rfl ?_
                refine gx_geti 1 12 (v := (I 16 12)) dX10_count_116 fl_X10_148 rfl rfl rfl ?_
                exact gx_iret dX10_count_119 rfl rfl rfl ⟨_, _, _, _, rfl, rfl, h⟩
              · replace h := h.2 z
                refine ⟨fun z => ?_, fun z => ?_⟩
                · replace h := h.1 z
                  show Z_J_count g Q 120 [(0, .ref 0), (1, .int x1)] [] I L c
                  refine gx_aload_n 0 dX10_count_120 rfl rfl ?_
                  refine gx_getr 10 2 (v := 16) dX10_count_121 fl_X10_65 rfl rfl rfl ?_
                  refine gx_geti 1 9 (v := (I 16 9)) dX10_count_124 fl_X10_168 rfl rfl rfl ?_
                  refine gx_if_eq 134 dX10_count_127 (by decide) ⟨fun z => ?_, fun z => ?_⟩
                  · replace h := h.1 z
                    refine gx_iconst (v := 0) dX10_count_134 (by decide) ?_
                    exact gx_iret dX10_count_135 rfl rfl rfl ⟨_, _, _, _, rfl, rfl, h⟩
                  · replace h := h.2 z
                    refine gx_iconst (v := 1) dX10_count_130 (by decide) ?_
                    refine gx_goto 135 dX10_count_131 (by decide) ?_
                    exact gx_iret dX10_count_135 rfl rfl rfl ⟨_, _, _, _, rfl, rfl, h⟩
                · replace h := h.2 z
                  refine ⟨fun z => ?_, fun z => ?_⟩
                  · replace h := h.1 z
                    show Z_J_count g Q 136 [(0, .ref 0), (1, .int x1)] [] I L c
                    refine gx_aload_n 0 dX10_count_136 rfl rfl ?_
                    refine gx_geti 10 1 (v := (I 0 1)) dX10_count_137 fl_X10_86 rfl rfl rfl ?_
                    exact gx_iret dX10_count_140 rfl rfl rfl ⟨_, _, _, _, rfl, rfl, h⟩
                  · replace h := h.2 z
                    refine ⟨fun z => ?_, fun z => ?_⟩
                    · replace h := h.1 z
                      show Z_J_count g Q 141 [(0, .ref 0), (1, .int x1)] [] I L c
                      refine gx_aload_n 0 dX10_count_141 rfl rfl ?_
                      refine gx_getr 10 2 (v := 16) dX10_count_142 fl_X10_65 rfl rfl rfl ?_
                      refine gx_geti 1 13 (v := (I 16 13)) dX10_count_145 fl_X10_108 rfl rfl rfl ?_
                      exact gx_iret dX10_count_148 rfl rfl rfl ⟨_, _, _, _, rfl, rfl, h⟩
                    · replace h := h.2 z
                      refine ⟨fun z => ?_, fun z => ?_⟩
                      · replace h := h.1 z
                        show Z_J_count g Q 149 [(0, .ref 0), (1, .int x1)] [] I L c
                        refine gx_aload_n 0 dX10_count_149 rfl rfl ?_
                        refine gx_getr 10 5 (v := 20) dX10_count_150 fl_X10_68 rfl rfl rfl ?_
                        refine gx_callV 8 (As := []) (st := []) dX10_count_153 ml_X10_401 mm_X8_unlike rfl rfl rfl rfl rfl rfl ⟨rfl, rfl⟩ h (fun v h2 hq => ?_)
                        clear h
                        obtain ⟨r4, I1, L2, c3, rfl, rfl, h⟩ := hq
                        show Z_J_count g Q 156 [(0, .ref 0), (1, .int x1)] [.int r4] I1 L2 c3
                        exact gx_iret dX10_count_156 rfl rfl rfl ⟨_, _, _, _, rfl, rfl, h⟩
                      · replace h := h.2 z
                        refine ⟨fun z => ?_, fun z => ?_⟩
                        · replace h := h.1 z
                          show Z_J_count g Q 157 [(0, .ref 0), (1, .int x1)] [] I L c
                          refine gx_aload_n 0 dX10_count_157 rfl rfl ?_
                          refine gx_getr 10 2 (v := 16) dX10_count_158 fl_X10_65 rfl rfl rfl ?_
                          refine gx_geti 1 10 (v := (I 16 10)) dX10_count_161 fl_X10_353 rfl rfl rfl ?_
                          refine gx_aload_n 0 dX10_count_164 rfl rfl ?_
                          refine gx_getr 10 5 (v := 20) dX10_count_165 fl_X10_68 rfl rfl rfl ?_
                          refine gx_geti 8 2 (v := (I 20 2)) dX10_count_168 fl_X10_154 rfl rfl rfl ?_
                          refine gx_imul dX10_count_171 ?_
                          exact gx_iret dX10_count_172 rfl rfl rfl ⟨_, _, _, _, rfl, rfl, h⟩
                        · replace h := h.2 z
                          show Z_J_count g Q 173 [(0, .ref 0), (1, .int x1)] [] I L c
                          refine gx_iconst (v := (-1)) dX10_count_173 (by decide) ?_
                          exact gx_iret dX10_count_174 rfl rfl rfl ⟨_, _, _, _, rfl, rfl, h⟩
