abbrev Z_M_feed (g : gm_G) (Q : Int32 → mI → mL → gm_cfg → Prop) (pc : Nat) (lv : List (Nat × Value)) (st : List Value) (I : mI) (L : mL) (c : gm_cfg) : Prop := gm_X g RX11 "feed" cX11_feed 8 (some .int) 1 0 0 (qI Q) 0 0 pc lv st (SH, I, L, RR c)
abbrev C_M_feed (g : gm_G) (x1 : Int32) (x2 : Int32) (x3 : Int32) (x4 : Int32) (x5 : Int32) (I : mI) (L : mL) (c : gm_cfg) (Q : Int32 → mI → mL → gm_cfg → Prop) : Prop := gm_Met g yX11_feed cX11_feed 8 (some .int) 1 0 0 [.ref 59, .int x1, .int x2, .int x3, .int x4, .int x5] (SH, I, L, RR c) (qI Q)
set_option maxRecDepth 100000 in
theorem e_M_feed {g : gm_G} {Q : Int32 → mI → mL → gm_cfg → Prop} {x1 x2 x3 x4 x5 : Int32} {I : mI} {L : mL} {c : gm_cfg} (h : ((((I 59 5) + 20) ≤ 700 → Z_M_feed g Q 24 [(0, .ref 59), (1, .int x1), (2, .int x2), (3, .int x3), (4, .int x4), (5, .int x5), (6, .int 0)] [] (gm_u I 59 0 0) L c) ∧ (¬ ((I 59 5) + 20) ≤ 700 → Q (-5) (gm_u I 59 0 0) L c))) : C_M_feed g x1 x2 x3 x4 x5 I L c Q := by
  refine gm_enter (lv := [(0, .ref 59), (1, .int x1), (2, .int x2), (3, .int x3), (4, .int x4), (5, .int x5)]) (by decide) rfl rfl rfl rfl ?_
  show Z_M_feed g Q 0 [(0, .ref 59), (1, .int x1), (2, .int x2), (3, .int x3), (4, .int x4), (5, .int x5)] [] I L c
  refine gx_aload_n 0 dX11_feed_0 rfl rfl ?_
  refine gx_iconst (v := 0) dX11_feed_1 (by decide) ?_
  refine gx_puti 11 0 dX11_feed_2 fl_X11_1 rfl rfl rfl ⟨rfl, rfl⟩ ?_
  show Z_M_feed g Q 5 [(0, .ref 59), (1, .int x1), (2, .int x2), (3, .int x3), (4, .int x4), (5, .int x5)] [] (gm_u I 59 0 0) L c
  refine gx_aload_n 0 dX11_feed_5 rfl rfl ?_
  refine gx_geti 11 5 (v := (I 59 5)) dX11_feed_6 fl_X11_65 rfl rfl rfl ?_
  refine gx_bipush (v := 20) dX11_feed_9 (by decide) ?_
  refine gx_iadd dX11_feed_11 ?_
  refine gx_sipush (v := 700) dX11_feed_12 (by decide) ?_
  refine gx_icmp_le 21 dX11_feed_15 (by decide) ⟨fun z => ?_, fun z => ?_⟩
  · replace h := h.1 z
    refine gx_iconst (v := 0) dX11_feed_21 (by decide) ?_
    refine gx_istore (lv' := [(0, .ref 59), (1, .int x1), (2, .int x2), (3, .int x3), (4, .int x4), (5, .int x5), (6, .int 0)]) dX11_feed_22 rfl rfl ?_
    exact h
  · replace h := h.2 z
    refine gx_bipush (v := (-5)) dX11_feed_18 (by decide) ?_
    exact gx_iret dX11_feed_20 rfl rfl rfl ⟨_, _, _, _, rfl, rfl, h⟩
set_option maxRecDepth 100000 in
theorem r_M_feed_24 {g : gm_G} {Q : Int32 → mI → mL → gm_cfg → Prop} {x1 x2 x3 x4 x5 x6 : Int32} {I : mI} {L : mL} {c : gm_cfg} (h : ((20 ≤ x6 → Q (I 59 5) I L c) ∧ (¬ 20 ≤ x6 → ((4 ≤ x6 → ((8 ≤ x6 → ((12 ≤ x6 → ((16 ≤ x6 → (vp_in (I 59 5) 700 ∧ Z_M_feed g Q 24 [(0, .ref 59), (1, .int x1), (2, .int x2), (3, .int x3), (4, .int x4), (5, .int x5), (6, .int (x6 + 1))] [] (gm_u (gm_u I 62 (Int32.toNatClampNeg (I 59 5)) ((x5 >>> ((24 - (8 * (x6 - x6 / 4 * 4))) &&& 31)) &&& 255)) 59 5 ((I 59 5) + 1)) L c)) ∧ (¬ 16 ≤ x6 → (vp_in (I 59 5) 700 ∧ Z_M_feed g Q 24 [(0, .ref 59), (1, .int x1), (2, .int x2), (3, .int x3), (4, .int x4), (5, .int x5), (6, .int (x6 + 1))] [] (gm_u (gm_u I 62 (Int32.toNatClampNeg (I 59 5)) ((x4 >>> ((24 - (8 * (x6 - x6 / 4 * 4))) &&& 31)) &&& 255)) 59 5 ((I 59 5) + 1)) L c)))) ∧ (¬ 12 ≤ x6 → (vp_in (I 59 5) 700 ∧ Z_M_feed g Q 24 [(0, .ref 59), (1, .int x1), (2, .int x2), (3, .int x3), (4, .int x4), (5, .int x5), (6, .int (x6 + 1))] [] (gm_u (gm_u I 62 (Int32.toNatClampNeg (I 59 5)) ((x3 >>> ((24 - (8 * (x6 - x6 / 4 * 4))) &&& 31)) &&& 255)) 59 5 ((I 59 5) + 1)) L c)))) ∧ (¬ 8 ≤ x6 → (vp_in (I 59 5) 700 ∧ Z_M_feed g Q 24 [(0, .ref 59), (1, .int x1), (2, .int x2), (3, .int x3), (4, .int x4), (5, .int x5), (6, .int (x6 + 1))] [] (gm_u (gm_u I 62 (Int32.toNatClampNeg (I 59 5)) ((x2 >>> ((24 - (8 * (x6 - x6 / 4 * 4))) &&& 31)) &&& 255)) 59 5 ((I 59 5) + 1)) L c)))) ∧ (¬ 4 ≤ x6 → (vp_in (I 59 5) 700 ∧ Z_M_feed g Q 24 [(0, .ref 59), (1, .int x1), (2, .int x2), (3, .int x3), (4, .int x4), (5, .int x5), (6, .int (x6 + 1))] [] (gm_u (gm_u I 62 (Int32.toNatClampNeg (I 59 5)) ((x1 >>> ((24 - (8 * (x6 - x6 / 4 * 4))) &&& 31)) &&& 255)) 59 5 ((I 59 5) + 1)) L c)))))) : Z_M_feed g Q 24 [(0, .ref 59), (1, .int x1), (2, .int x2), (3, .int x3), (4, .int x4), (5, .int x5), (6, .int x6)] [] I L c := by
  refine gx_iload 6 dX11_feed_24 rfl ?_
  refine gx_bipush (v := 20) dX11_feed_26 (by decide) ?_
  refine gx_icmp_ge 121 dX11_feed_28 (by decide) ⟨fun z => ?_, fun z => ?_⟩
  · replace h := h.1 z
    refine gx_aload_n 0 dX11_feed_121 rfl rfl ?_
    refine gx_geti 11 5 (v := (I 59 5)) dX11_feed_122 fl_X11_65 rfl rfl rfl ?_
    exact gx_iret dX11_feed_125 rfl rfl rfl ⟨_, _, _, _, rfl, rfl, h⟩
  · replace h := h.2 z
    refine gx_iload 6 dX11_feed_31 rfl ?_
    refine gx_iconst (v := 4) dX11_feed_33 (by decide) ?_
    refine gx_icmp_ge 41 dX11_feed_34 (by decide) ⟨fun z => ?_, fun z => ?_⟩
    · replace h := h.1 z
      refine gx_iload 6 dX11_feed_41 rfl ?_
      refine gx_bipush (v := 8) dX11_feed_43 (by decide) ?_
      refine gx_icmp_ge 52 dX11_feed_45 (by decide) ⟨fun z => ?_, fun z => ?_⟩
      · replace h := h.1 z
        refine gx_iload 6 dX11_feed_52 rfl ?_
        refine gx_bipush (v := 12) dX11_feed_54 (by decide) ?_
        refine gx_icmp_ge 63 dX11_feed_56 (by decide) ⟨fun z => ?_, fun z => ?_⟩
        · replace h := h.1 z
          refine gx_iload 6 dX11_feed_63 rfl ?_
          refine gx_bipush (v := 16) dX11_feed_65 (by decide) ?_
          refine gx_icmp_ge 75 dX11_feed_67 (by decide) ⟨fun z => ?_, fun z => ?_⟩
          · replace h := h.1 z
            refine gx_iload 5 dX11_feed_75 rfl ?_
            refine gx_istore (lv' := [(0, .ref 59), (1, .int x1), (2, .int x2), (3, .int x3), (4, .int x4), (5, .int x5), (6, .int x6), (7, .int x5)]) dX11_feed_77 rfl rfl ?_
            refine gx_aload_n 0 dX11_feed_79 rfl rfl ?_
            refine gx_getr 11 3 (v := 62) dX11_feed_80 fl_X11_21 rfl rfl rfl ?_
            refine gx_aload_n 0 dX11_feed_83 rfl rfl ?_
            refine gx_geti 11 5 (v := (I 59 5)) dX11_feed_84 fl_X11_65 rfl rfl rfl ?_
            refine gx_iload 7 dX11_feed_87 rfl ?_
            refine gx_bipush (v := 24) dX11_feed_89 (by decide) ?_
            refine gx_bipush (v := 8) dX11_feed_91 (by decide) ?_
            refine gx_iload 6 dX11_feed_93 rfl ?_
            refine gx_iconst (v := 4) dX11_feed_95 (by decide) ?_
            refine gx_irem dX11_feed_96 (by decide) ?_
            refine gx_imul dX11_feed_97 ?_
            refine gx_isub dX11_feed_98 ?_
            refine gx_ishr dX11_feed_99 ?_
            refine gx_sipush (v := 255) dX11_feed_100 (by decide) ?_
            refine gx_iand dX11_feed_103 ?_
            obtain ⟨hi, h⟩ := h
            refine gx_iast dX11_feed_104 rfl rfl hi (k := (Int32.toNatClampNeg (I 59 5))) rfl ?_
            show Z_M_feed g Q 105 [(0, .ref 59), (1, .int x1), (2, .int x2), (3, .int x3), (4, .int x4), (5, .int x5), (6, .int x6), (7, .int x5)] [] (gm_u I 62 (Int32.toNatClampNeg (I 59 5)) ((x5 >>> ((24 - (8 * (x6 - x6 / 4 * 4))) &&& 31)) &&& 255)) L c
            refine gx_aload_n 0 dX11_feed_105 rfl rfl ?_
            refine gx_dup dX11_feed_106 rfl ?_
            refine gx_geti 11 5 (v := (I 59 5)) dX11_feed_107 fl_X11_65 rfl rfl rfl ?_
            refine gx_iconst (v := 1) dX11_feed_110 (by decide) ?_
            refine gx_iadd dX11_feed_111 ?_
            refine gx_puti 11 5 dX11_feed_112 fl_X11_65 rfl rfl rfl ⟨rfl, rfl⟩ ?_
            show Z_M_feed g Q 115 [(0, .ref 59), (1, .int x1), (2, .int x2), (3, .int x3), (4, .int x4), (5, .int x5), (6, .int x6), (7, .int x5)] [] (gm_u (gm_u I 62 (Int32.toNatClampNeg (I 59 5)) ((x5 >>> ((24 - (8 * (x6 - x6 / 4 * 4))) &&& 31)) &&& 255)) 59 5 ((I 59 5) + 1)) L c
            refine gx_iinc (v := (x6 + 1)) (lv' := [(0, .ref 59), (1, .int x1), (2, .int x2), (3, .int x3), (4, .int x4), (5, .int x5), (6, .int (x6 + 1)), (7, .int x5)]) 6 dX11_feed_115 rfl rfl rfl rfl ?_
            refine gx_goto 24 dX11_feed_118 (by decide) ?_
            refine gx_sub [0, 1, 2, 3, 4, 5, 6] (lv' := [(0, .ref 59), (1, .int x1), (2, .int x2), (3, .int x3), (4, .int x4), (5, .int x5), (6, .int (x6 + 1))]) rfl ?_
            exact h
          · replace h := h.2 z
            refine gx_iload 4 dX11_feed_70 rfl ?_
            refine gx_goto 77 dX11_feed_72 (by decide) ?_
            refine gx_istore (lv' := [(0, .ref 59), (1, .int x1), (2, .int x2), (3, .int x3), (4, .int x4), (5, .int x5), (6, .int x6), (7, .int x4)]) dX11_feed_77 rfl rfl ?_
            refine gx_aload_n 0 dX11_feed_79 rfl rfl ?_
            refine gx_getr 11 3 (v := 62) dX11_feed_80 fl_X11_21 rfl rfl rfl ?_
            refine gx_aload_n 0 dX11_feed_83 rfl rfl ?_
            refine gx_geti 11 5 (v := (I 59 5)) dX11_feed_84 fl_X11_65 rfl rfl rfl ?_
            refine gx_iload 7 dX11_feed_87 rfl ?_
            refine gx_bipush (v := 24) dX11_feed_89 (by decide) ?_
            refine gx_bipush (v := 8) dX11_feed_91 (by decide) ?_
            refine gx_iload 6 dX11_feed_93 rfl ?_
            refine gx_iconst (v := 4) dX11_feed_95 (by decide) ?_
            refine gx_irem dX11_feed_96 (by decide) ?_
            refine gx_imul dX11_feed_97 ?_
            refine gx_isub dX11_feed_98 ?_
            refine gx_ishr dX11_feed_99 ?_
            refine gx_sipush (v := 255) dX11_feed_100 (by decide) ?_
            refine gx_iand dX11_feed_103 ?_
            obtain ⟨hi, h⟩ := h
            refine gx_iast dX11_feed_104 rfl rfl hi (k := (Int32.toNatClampNeg (I 59 5))) rfl ?_
            show Z_M_feed g Q 105 [(0, .ref 59), (1, .int x1), (2, .int x2), (3, .int x3), (4, .int x4), (5, .int x5), (6, .int x6), (7, .int x4)] [] (gm_u I 62 (Int32.toNatClampNeg (I 59 5)) ((x4 >>> ((24 - (8 * (x6 - x6 / 4 * 4))) &&& 31)) &&& 255)) L c
            refine gx_aload_n 0 dX11_feed_105 rfl rfl ?_
            refine gx_dup dX11_feed_106 rfl ?_
            refine gx_geti 11 5 (v := (I 59 5)) dX11_feed_107 fl_X11_65 rfl rfl rfl ?_
            refine gx_iconst (v := 1) dX11_feed_110 (by decide) ?_
            refine gx_iadd dX11_feed_111 ?_
            refine gx_puti 11 5 dX11_feed_112 fl_X11_65 rfl rfl rfl ⟨rfl, rfl⟩ ?_
            show Z_M_feed g Q 115 [(0, .ref 59), (1, .int x1), (2, .int x2), (3, .int x3), (4, .int x4), (5, .int x5), (6, .int x6), (7, .int x4)] [] (gm_u (gm_u I 62 (Int32.toNatClampNeg (I 59 5)) ((x4 >>> ((24 - (8 * (x6 - x6 / 4 * 4))) &&& 31)) &&& 255)) 59 5 ((I 59 5) + 1)) L c
            refine gx_iinc (v := (x6 + 1)) (lv' := [(0, .ref 59), (1, .int x1), (2, .int x2), (3, .int x3), (4, .int x4), (5, .int x5), (6, .int (x6 + 1)), (7, .int x4)]) 6 dX11_feed_115 rfl rfl rfl rfl ?_
            refine gx_goto 24 dX11_feed_118 (by decide) ?_
            refine gx_sub [0, 1, 2, 3, 4, 5, 6] (lv' := [(0, .ref 59), (1, .int x1), (2, .int x2), (3, .int x3), (4, .int x4), (5, .int x5), (6, .int (x6 + 1))]) rfl ?_
            exact h
        · replace h := h.2 z
          refine gx_iload_n 3 dX11_feed_59 rfl rfl ?_
          refine gx_goto 77 dX11_feed_60 (by decide) ?_
          refine gx_istore (lv' := [(0, .ref 59), (1, .int x1), (2, .int x2), (3, .int x3), (4, .int x4), (5, .int x5), (6, .int x6), (7, .int x3)]) dX11_feed_77 rfl rfl ?_
          refine gx_aload_n 0 dX11_feed_79 rfl rfl ?_
          refine gx_getr 11 3 (v := 62) dX11_feed_80 fl_X11_21 rfl rfl rfl ?_
          refine gx_aload_n 0 dX11_feed_83 rfl rfl ?_
          refine gx_geti 11 5 (v := (I 59 5)) dX11_feed_84 fl_X11_65 rfl rfl rfl ?_
          refine gx_iload 7 dX11_feed_87 rfl ?_
          refine gx_bipush (v := 24) dX11_feed_89 (by decide) ?_
          refine gx_bipush (v := 8) dX11_feed_91 (by decide) ?_
          refine gx_iload 6 dX11_feed_93 rfl ?_
          refine gx_iconst (v := 4) dX11_feed_95 (by decide) ?_
          refine gx_irem dX11_feed_96 (by decide) ?_
          refine gx_imul dX11_feed_97 ?_
          refine gx_isub dX11_feed_98 ?_
          refine gx_ishr dX11_feed_99 ?_
          refine gx_sipush (v := 255) dX11_feed_100 (by decide) ?_
          refine gx_iand dX11_feed_103 ?_
          obtain ⟨hi, h⟩ := h
          refine gx_iast dX11_feed_104 rfl rfl hi (k := (Int32.toNatClampNeg (I 59 5))) rfl ?_
          show Z_M_feed g Q 105 [(0, .ref 59), (1, .int x1), (2, .int x2), (3, .int x3), (4, .int x4), (5, .int x5), (6, .int x6), (7, .int x3)] [] (gm_u I 62 (Int32.toNatClampNeg (I 59 5)) ((x3 >>> ((24 - (8 * (x6 - x6 / 4 * 4))) &&& 31)) &&& 255)) L c
          refine gx_aload_n 0 dX11_feed_105 rfl rfl ?_
          refine gx_dup dX11_feed_106 rfl ?_
          refine gx_geti 11 5 (v := (I 59 5)) dX11_feed_107 fl_X11_65 rfl rfl rfl ?_
          refine gx_iconst (v := 1) dX11_feed_110 (by decide) ?_
          refine gx_iadd dX11_feed_111 ?_
          refine gx_puti 11 5 dX11_feed_112 fl_X11_65 rfl rfl rfl ⟨rfl, rfl⟩ ?_
          show Z_M_feed g Q 115 [(0, .ref 59), (1, .int x1), (2, .int x2), (3, .int x3), (4, .int x4), (5, .int x5), (6, .int x6), (7, .int x3)] [] (gm_u (gm_u I 62 (Int32.toNatClampNeg (I 59 5)) ((x3 >>> ((24 - (8 * (x6 - x6 / 4 * 4))) &&& 31)) &&& 255)) 59 5 ((I 59 5) + 1)) L c
          refine gx_iinc (v := (x6 + 1)) (lv' := [(0, .ref 59), (1, .int x1), (2, .int x2), (3, .int x3), (4, .int x4), (5, .int x5), (6, .int (x6 + 1)), (7, .int x3)]) 6 dX11_feed_115 rfl rfl rfl rfl ?_
          refine gx_goto 24 dX11_feed_118 (by decide) ?_
          refine gx_sub [0, 1, 2, 3, 4, 5, 6] (lv' := [(0, .ref 59), (1, .int x1), (2, .int x2), (3, .int x3), (4, .int x4), (5, .int x5), (6, .int (x6 + 1))]) rfl ?_
          exact h
      · replace h := h.2 z
        refine gx_iload_n 2 dX11_feed_48 rfl rfl ?_
        refine gx_goto 77 dX11_feed_49 (by decide) ?_
        refine gx_istore (lv' := [(0, .ref 59), (1, .int x1), (2, .int x2), (3, .int x3), (4, .int x4), (5, .int x5), (6, .int x6), (7, .int x2)]) dX11_feed_77 rfl rfl ?_
        refine gx_aload_n 0 dX11_feed_79 rfl rfl ?_
        refine gx_getr 11 3 (v := 62) dX11_feed_80 fl_X11_21 rfl rfl rfl ?_
        refine gx_aload_n 0 dX11_feed_83 rfl rfl ?_
        refine gx_geti 11 5 (v := (I 59 5)) dX11_feed_84 fl_X11_65 rfl rfl rfl ?_
        refine gx_iload 7 dX11_feed_87 rfl ?_
        refine gx_bipush (v := 24) dX11_feed_89 (by decide) ?_
        refine gx_bipush (v := 8) dX11_feed_91 (by decide) ?_
        refine gx_iload 6 dX11_feed_93 rfl ?_
        refine gx_iconst (v := 4) dX11_feed_95 (by decide) ?_
        refine gx_irem dX11_feed_96 (by decide) ?_
        refine gx_imul dX11_feed_97 ?_
        refine gx_isub dX11_feed_98 ?_
        refine gx_ishr dX11_feed_99 ?_
        refine gx_sipush (v := 255) dX11_feed_100 (by decide) ?_
        refine gx_iand dX11_feed_103 ?_
        obtain ⟨hi, h⟩ := h
        refine gx_iast dX11_feed_104 rfl rfl hi (k := (Int32.toNatClampNeg (I 59 5))) rfl ?_
        show Z_M_feed g Q 105 [(0, .ref 59), (1, .int x1), (2, .int x2), (3, .int x3), (4, .int x4), (5, .int x5), (6, .int x6), (7, .int x2)] [] (gm_u I 62 (Int32.toNatClampNeg (I 59 5)) ((x2 >>> ((24 - (8 * (x6 - x6 / 4 * 4))) &&& 31)) &&& 255)) L c
        refine gx_aload_n 0 dX11_feed_105 rfl rfl ?_
        refine gx_dup dX11_feed_106 rfl ?_
        refine gx_geti 11 5 (v := (I 59 5)) dX11_feed_107 fl_X11_65 rfl rfl rfl ?_
        refine gx_iconst (v := 1) dX11_feed_110 (by decide) ?_
        refine gx_iadd dX11_feed_111 ?_
        refine gx_puti 11 5 dX11_feed_112 fl_X11_65 rfl rfl rfl ⟨rfl, rfl⟩ ?_
        show Z_M_feed g Q 115 [(0, .ref 59), (1, .int x1), (2, .int x2), (3, .int x3), (4, .int x4), (5, .int x5), (6, .int x6), (7, .int x2)] [] (gm_u (gm_u I 62 (Int32.toNatClampNeg (I 59 5)) ((x2 >>> ((24 - (8 * (x6 - x6 / 4 * 4))) &&& 31)) &&& 255)) 59 5 ((I 59 5) + 1)) L c
        refine gx_iinc (v := (x6 + 1)) (lv' := [(0, .ref 59), (1, .int x1), (2, .int x2), (3, .int x3), (4, .int x4), (5, .int x5), (6, .int (x6 + 1)), (7, .int x2)]) 6 dX11_feed_115 rfl rfl rfl rfl ?_
        refine gx_goto 24 dX11_feed_118 (by decide) ?_
        refine gx_sub [0, 1, 2, 3, 4, 5, 6] (lv' := [(0, .ref 59), (1, .int x1), (2, .int x2), (3, .int x3), (4, .int x4), (5, .int x5), (6, .int (x6 + 1))]) rfl ?_
        exact h
    · replace h := h.2 z
      refine gx_iload_n 1 dX11_feed_37 rfl rfl ?_
      refine gx_goto 77 dX11_feed_38 (by decide) ?_
      refine gx_istore (lv' := [(0, .ref 59), (1, .int x1), (2, .int x2), (3, .int x3), (4, .int x4), (5, .int x5), (6, .int x6), (7, .int x1)]) dX11_feed_77 rfl rfl ?_
      refine gx_aload_n 0 dX11_feed_79 rfl rfl ?_
      refine gx_getr 11 3 (v := 62) dX11_feed_80 fl_X11_21 rfl rfl rfl ?_
      refine gx_aload_n 0 dX11_feed_83 rfl rfl ?_
      refine gx_geti 11 5 (v := (I 59 5)) dX11_feed_84 fl_X11_65 rfl rfl rfl ?_
      refine gx_iload 7 dX11_feed_87 rfl ?_
      refine gx_bipush (v := 24) dX11_feed_89 (by decide) ?_
      refine gx_bipush (v := 8) dX11_feed_91 (by decide) ?_
      refine gx_iload 6 dX11_feed_93 rfl ?_
      refine gx_iconst (v := 4) dX11_feed_95 (by decide) ?_
      refine gx_irem dX11_feed_96 (by decide) ?_
      refine gx_imul dX11_feed_97 ?_
      refine gx_isub dX11_feed_98 ?_
      refine gx_ishr dX11_feed_99 ?_
      refine gx_sipush (v := 255) dX11_feed_100 (by decide) ?_
      refine gx_iand dX11_feed_103 ?_
      obtain ⟨hi, h⟩ := h
      refine gx_iast dX11_feed_104 rfl rfl hi (k := (Int32.toNatClampNeg (I 59 5))) rfl ?_
      show Z_M_feed g Q 105 [(0, .ref 59), (1, .int x1), (2, .int x2), (3, .int x3), (4, .int x4), (5, .int x5), (6, .int x6), (7, .int x1)] [] (gm_u I 62 (Int32.toNatClampNeg (I 59 5)) ((x1 >>> ((24 - (8 * (x6 - x6 / 4 * 4))) &&& 31)) &&& 255)) L c
      refine gx_aload_n 0 dX11_feed_105 rfl rfl ?_
      refine gx_dup dX11_feed_106 rfl ?_
      refine gx_geti 11 5 (v := (I 59 5)) dX11_feed_107 fl_X11_65 rfl rfl rfl ?_
      refine gx_iconst (v := 1) dX11_feed_110 (by decide) ?_
      refine gx_iadd dX11_feed_111 ?_
      refine gx_puti 11 5 dX11_feed_112 fl_X11_65 rfl rfl rfl ⟨rfl, rfl⟩ ?_
      show Z_M_feed g Q 115 [(0, .ref 59), (1, .int x1), (2, .int x2), (3, .int x3), (4, .int x4), (5, .int x5), (6, .int x6), (7, .int x1)] [] (gm_u (gm_u I 62 (Int32.toNatClampNeg (I 59 5)) ((x1 >>> ((24 - (8 * (x6 - x6 / 4 * 4))) &&& 31)) &&& 255)) 59 5 ((I 59 5) + 1)) L c
      refine gx_iinc (v := (x6 + 1)) (lv' := [(0, .ref 59), (1, .int x1), (2, .int x2), (3, .int x3), (4, .int x4), (5, .int x5), (6, .int (x6 + 1)), (7, .int x1)]) 6 dX11_feed_115 rfl rfl rfl rfl ?_
      refine gx_goto 24 dX11_feed_118 (by decide) ?_
      refine gx_sub [0, 1, 2, 3, 4, 5, 6] (lv' := [(0, .ref 59), (1, .int x1), (2, .int x2), (3, .int x3), (4, .int x4), (5, .int x5), (6, .int (x6 + 1))]) rfl ?_
      exact h
abbrev Z_M_within (g : gm_G) (Q : Bool → mI → mL → gm_cfg → Prop) (pc : Nat) (lv : List (Nat × Value)) (st : List Value) (I : mI) (L : mL) (c : gm_cfg) : Prop := gm_X g RX11 "within" cX11_within 6 (some .boolean) 1 0 0 (qZ Q) 0 0 pc lv st (SH, I, L, RR c)
abbrev C_M_within (g : gm_G) (x0 : Int64) (x2 : Int64) (x4 : Int64) (I : mI) (L : mL) (c : gm_cfg) (Q : Bool → mI → mL → gm_cfg → Prop) : Prop := gm_Met g yX11_within cX11_within 6 (some .boolean) 1 0 0 [.long x0, .long x2, .long x4] (SH, I, L, RR c) (qZ Q)
set_option maxRecDepth 100000 in
theorem e_M_within {g : gm_G} {Q : Bool → mI → mL → gm_cfg → Prop} {x0 x2 x4 : Int64} {I : mI} {L : mL} {c : gm_cfg} (h : (((x0 : Int64) < x2 → Q false I L c) ∧ (¬ (x0 : Int64) < x2 → (((x4 : Int64) < x0 → Q false I L c) ∧ (¬ (x4 : Int64) < x0 → Q true I L c))))) : C_M_within g x0 x2 x4 I L c Q := by
  refine gm_enter (lv := [(0, .long x0), (2, .long x2), (4, .long x4)]) (by decide) rfl rfl rfl rfl ?_
  show Z_M_within g Q 0 [(0, .long x0), (2, .long x2), (4, .long x4)] [] I L c
  refine gx_lload_n 0 dX11_within_0 rfl rfl ?_
  refine gx_lload_n 1 dX11_within_1 rfl rfl ?_
  refine gx_lcmp_lt 17 dX11_within_2 dX11_within_3 (by decide) ⟨fun z => ?_, fun z => ?_⟩
  · replace h := h.1 z
    refine gx_iconst (v := 0) dX11_within_17 (by decide) ?_
    exact gx_zret .boolean dX11_within_18 rfl rfl rfl rfl ⟨false, _, _, _, rfl, rfl, h⟩
  · replace h := h.2 z
    refine gx_lload_n 0 dX11_within_6 rfl rfl ?_
    refine gx_lload 2 dX11_within_7 rfl ?_
    refine gx_lcmp_gt 17 dX11_within_9 dX11_within_10 (by decide) ⟨fun z => ?_, fun z => ?_⟩
    · replace h := h.1 z
      refine gx_iconst (v := 0) dX11_within_17 (by decide) ?_
      exact gx_zret .boolean dX11_within_18 rfl rfl rfl rfl ⟨false, _, _, _, rfl, rfl, h⟩
    · replace h := h.2 z
      refine gx_iconst (v := 1) dX11_within_13 (by decide) ?_
      refine gx_goto 18 dX11_within_14 (by decide) ?_
      exact gx_zret .boolean dX11_within_18 rfl rfl rfl rfl ⟨true, _, _, _, rfl, rfl, h⟩
abbrev Z_M_plain_63 (g : gm_G) (Q : mI → mL → gm_cfg → Prop) (pc : Nat) (lv : List (Nat × Value)) (st : List Value) (I : mI) (L : mL) (c : gm_cfg) : Prop := gm_X g RX11 "plain" cX11_plain 2 none 1 0 0 (qV Q) 0 0 pc lv st (SH, I, L, RR c)
abbrev C_M_plain_63 (g : gm_G) (I : mI) (L : mL) (c : gm_cfg) (Q : mI → mL → gm_cfg → Prop) : Prop := gm_Met g yX11_plain cX11_plain 2 none 1 0 0 [.ref 63] (SH, I, L, RR c) (qV Q)
set_option maxRecDepth 100000 in
theorem e_M_plain_63 {g : gm_G} {Q : mI → mL → gm_cfg → Prop} {I : mI} {L : mL} {c : gm_cfg} (h : Z_M_plain_63 g Q 2 [(0, .ref 63), (1, .int 0)] [] I L c) : C_M_plain_63 g  I L c Q := by
  refine gm_enter (lv := [(0, .ref 63)]) (by decide) rfl rfl rfl rfl ?_
  show Z_M_plain_63 g Q 0 [(0, .ref 63)] [] I L c
  refine gx_iconst (v := 0) dX11_plain_0 (by decide) ?_
  refine gx_istore_n (lv' := [(0, .ref 63), (1, .int 0)]) dX11_plain_1 rfl rfl rfl ?_
  exact h
set_option maxRecDepth 100000 in
theorem r_M_plain_63_2 {g : gm_G} {Q : mI → mL → gm_cfg → Prop} {x1 : Int32} {I : mI} {L : mL} {c : gm_cfg} (h : ((110 ≤ x1 → Q (gm_u (gm_u (gm_u (gm_u (gm_u I 63 2 1) 63 3 100) 63 4 10) 63 5 100) 63 10 (-1)) L c) ∧ (¬ 110 ≤ x1 → (vp_in x1 110 ∧ Z_M_plain_63 g Q 2 [(0, .ref 63), (1, .int (x1 + 1))] [] (gm_u I 63 (Int32.toNatClampNeg x1) 0) L c)))) : Z_M_plain_63 g Q 2 [(0, .ref 63), (1, .int x1)] [] I L c := by
  refine gx_iload_n 1 dX11_plain_2 rfl rfl ?_
  refine gx_bipush (v := 110) dX11_plain_3 (by decide) ?_
  refine gx_icmp_ge 18 dX11_plain_5 (by decide) ⟨fun z => ?_, fun z => ?_⟩
  · replace h := h.1 z
    refine gx_aload_n 0 dX11_plain_18 rfl rfl ?_
    refine gx_iconst (v := 2) dX11_plain_19 (by decide) ?_
    refine gx_iconst (v := 1) dX11_plain_20 (by decide) ?_
    refine gx_iast dX11_plain_21 rfl rfl (gm_vin rfl) (k := 2) rfl ?_
    show Z_M_plain_63 g Q 22 [(0, .ref 63), (1, .int x1)] [] (gm_u I 63 2 1) L c
    refine gx_aload_n 0 dX11_plain_22 rfl rfl ?_
    refine gx_iconst (v := 3) dX11_plain_23 (by decide) ?_
    refine gx_bipush (v := 100) dX11_plain_24 (by decide) ?_
    refine gx_iast dX11_plain_26 rfl rfl (gm_vin rfl) (k := 3) rfl ?_
    show Z_M_plain_63 g Q 27 [(0, .ref 63), (1, .int x1)] [] (gm_u (gm_u I 63 2 1) 63 3 100) L c
    refine gx_aload_n 0 dX11_plain_27 rfl rfl ?_
    refine gx_iconst (v := 4) dX11_plain_28 (by decide) ?_
    refine gx_bipush (v := 10) dX11_plain_29 (by decide) ?_
    refine gx_iast dX11_plain_31 rfl rfl (gm_vin rfl) (k := 4) rfl ?_
    show Z_M_plain_63 g Q 32 [(0, .ref 63), (1, .int x1)] [] (gm_u (gm_u (gm_u I 63 2 1) 63 3 100) 63 4 10) L c
    refine gx_aload_n 0 dX11_plain_32 rfl rfl ?_
    refine gx_iconst (v := 5) dX11_plain_33 (by decide) ?_
    refine gx_bipush (v := 100) dX11_plain_34 (by decide) ?_
    refine gx_iast dX11_plain_36 rfl rfl (gm_vin rfl) (k := 5) rfl ?_
    show Z_M_plain_63 g Q 37 [(0, .ref 63), (1, .int x1)] [] (gm_u (gm_u (gm_u (gm_u I 63 2 1) 63 3 100) 63 4 10) 63 5 100) L c
    refine gx_aload_n 0 dX11_plain_37 rfl rfl ?_
    refine gx_bipush (v := 10) dX11_plain_38 (by decide) ?_
    refine gx_iconst (v := (-1)) dX11_plain_40 (by decide) ?_
    refine gx_iast dX11_plain_41 rfl rfl (gm_vin rfl) (k := 10) rfl ?_
    show Z_M_plain_63 g Q 42 [(0, .ref 63), (1, .int x1)] [] (gm_u (gm_u (gm_u (gm_u (gm_u I 63 2 1) 63 3 100) 63 4 10) 63 5 100) 63 10 (-1)) L c
    exact gx_vret dX11_plain_42 rfl rfl rfl ⟨_, _, _, rfl, rfl, h⟩
  · replace h := h.2 z
    refine gx_aload_n 0 dX11_plain_8 rfl rfl ?_
    refine gx_iload_n 1 dX11_plain_9 rfl rfl ?_
    refine gx_iconst (v := 0) dX11_plain_10 (by decide) ?_
    obtain ⟨hi, h⟩ := h
    refine gx_iast dX11_plain_11 rfl rfl hi (k := (Int32.toNatClampNeg x1)) rfl ?_
    show Z_M_plain_63 g Q 12 [(0, .ref 63), (1, .int x1)] [] (gm_u I 63 (Int32.toNatClampNeg x1) 0) L c
    refine gx_iinc (v := (x1 + 1)) (lv' := [(0, .ref 63), (1, .int (x1 + 1))]) 1 dX11_plain_12 rfl rfl rfl rfl ?_
    refine gx_goto 2 dX11_plain_15 (by decide) ?_
    exact h
abbrev Z_M_see (g : gm_G) (Q : Int32 → mI → mL → gm_cfg → Prop) (pc : Nat) (lv : List (Nat × Value)) (st : List Value) (I : mI) (L : mL) (c : gm_cfg) : Prop := gm_X g RX11 "see" cX11_see 2 (some .int) 1 0 0 (qI Q) 0 0 pc lv st (SH, I, L, RR c)
abbrev C_M_see (g : gm_G) (x1 : Int32) (I : mI) (L : mL) (c : gm_cfg) (Q : Int32 → mI → mL → gm_cfg → Prop) : Prop := gm_Met g yX11_see cX11_see 2 (some .int) 1 0 0 [.ref 59, .int x1] (SH, I, L, RR c) (qI Q)
set_option maxRecDepth 100000 in
theorem e_M_see {g : gm_G} {Q : Int32 → mI → mL → gm_cfg → Prop} {x1 : Int32} {I : mI} {L : mL} {c : gm_cfg} (h : (((I 59 8) ≤ x1 → Q (-1) I L c) ∧ (¬ (I 59 8) ≤ x1 → (vp_in x1 700 ∧ Q (I 62 (Int32.toNatClampNeg x1)) I L c)))) : C_M_see g x1 I L c Q := by
  refine gm_enter (lv := [(0, .ref 59), (1, .int x1)]) (by decide) rfl rfl rfl rfl ?_
  show Z_M_see g Q 0 [(0, .ref 59), (1, .int x1)] [] I L c
  refine gx_iload_n 1 dX11_see_0 rfl rfl ?_
  refine gx_aload_n 0 dX11_see_1 rfl rfl ?_
  refine gx_geti 11 8 (v := (I 59 8)) dX11_see_2 fl_X11_68 rfl rfl rfl ?_
  refine gx_icmp_ge 17 dX11_see_5 (by decide) ⟨fun z => ?_, fun z => ?_⟩
  · replace h := h.1 z
    refine gx_iconst (v := (-1)) dX11_see_17 (by decide) ?_
    exact gx_iret dX11_see_18 rfl rfl rfl ⟨_, _, _, _, rfl, rfl, h⟩
  · replace h := h.2 z
    refine gx_aload_n 0 dX11_see_8 rfl rfl ?_
    refine gx_getr 11 3 (v := 62) dX11_see_9 fl_X11_21 rfl rfl rfl ?_
    refine gx_iload_n 1 dX11_see_12 rfl rfl ?_
    obtain ⟨hi, h⟩ := h
    refine gx_iald (v := (I 62 (Int32.toNatClampNeg x1))) dX11_see_13 rfl rfl hi (k := (Int32.toNatClampNeg x1)) rfl rfl ?_
    refine gx_goto 18 dX11_see_14 (by decide) ?_
    exact gx_iret dX11_see_18 rfl rfl rfl ⟨_, _, _, _, rfl, rfl, h⟩
abbrev Z_M_isSmall (g : gm_G) (Q : Bool → mI → mL → gm_cfg → Prop) (pc : Nat) (lv : List (Nat × Value)) (st : List Value) (I : mI) (L : mL) (c : gm_cfg) : Prop := gm_X g RX11 "isSmall" cX11_isSmall 1 (some .boolean) 1 0 0 (qZ Q) 0 0 pc lv st (SH, I, L, RR c)
abbrev C_M_isSmall (g : gm_G) (x0 : Int32) (I : mI) (L : mL) (c : gm_cfg) (Q : Bool → mI → mL → gm_cfg → Prop) : Prop := gm_Met g yX11_isSmall cX11_isSmall 1 (some .boolean) 1 0 0 [.int x0] (SH, I, L, RR c) (qZ Q)
set_option maxRecDepth 100000 in
theorem e_M_isSmall {g : gm_G} {Q : Bool → mI → mL → gm_cfg → Prop} {x0 : Int32} {I : mI} {L : mL} {c : gm_cfg} (h : ((x0 < 97 → Q false I L c) ∧ (¬ x0 < 97 → ((122 < x0 → Q false I L c) ∧ (¬ 122 < x0 → Q true I L c))))) : C_M_isSmall g x0 I L c Q := by
  refine gm_enter (lv := [(0, .int x0)]) (by decide) rfl rfl rfl rfl ?_
  show Z_M_isSmall g Q 0 [(0, .int x0)] [] I L c
  refine gx_iload_n 0 dX11_isSmall_0 rfl rfl ?_
  refine gx_bipush (v := 97) dX11_isSmall_1 (by decide) ?_
  refine gx_icmp_lt 16 dX11_isSmall_3 (by decide) ⟨fun z => ?_, fun z => ?_⟩
  · replace h := h.1 z
    refine gx_iconst (v := 0) dX11_isSmall_16 (by decide) ?_
    exact gx_zret .boolean dX11_isSmall_17 rfl rfl rfl rfl ⟨false, _, _, _, rfl, rfl, h⟩
  · replace h := h.2 z
    refine gx_iload_n 0 dX11_isSmall_6 rfl rfl ?_
    refine gx_bipush (v := 122) dX11_isSmall_7 (by decide) ?_
    refine gx_icmp_gt 16 dX11_isSmall_9 (by decide) ⟨fun z => ?_, fun z => ?_⟩
    · replace h := h.1 z
      refine gx_iconst (v := 0) dX11_isSmall_16 (by decide) ?_
      exact gx_zret .boolean dX11_isSmall_17 rfl rfl rfl rfl ⟨false, _, _, _, rfl, rfl, h⟩
    · replace h := h.2 z
      refine gx_iconst (v := 1) dX11_isSmall_12 (by decide) ?_
      refine gx_goto 17 dX11_isSmall_13 (by decide) ?_
      exact gx_zret .boolean dX11_isSmall_17 rfl rfl rfl rfl ⟨true, _, _, _, rfl, rfl, h⟩
abbrev Z_M_isDigit (g : gm_G) (Q : Bool → mI → mL → gm_cfg → Prop) (pc : Nat) (lv : List (Nat × Value)) (st : List Value) (I : mI) (L : mL) (c : gm_cfg) : Prop := gm_X g RX11 "isDigit" cX11_isDigit 1 (some .boolean) 1 0 0 (qZ Q) 0 0 pc lv st (SH, I, L, RR c)
abbrev C_M_isDigit (g : gm_G) (x0 : Int32) (I : mI) (L : mL) (c : gm_cfg) (Q : Bool → mI → mL → gm_cfg → Prop) : Prop := gm_Met g yX11_isDigit cX11_isDigit 1 (some .boolean) 1 0 0 [.int x0] (SH, I, L, RR c) (qZ Q)
set_option maxRecDepth 100000 in
theorem e_M_isDigit {g : gm_G} {Q : Bool → mI → mL → gm_cfg → Prop} {x0 : Int32} {I : mI} {L : mL} {c : gm_cfg} (h : ((x0 < 48 → Q false I L c) ∧ (¬ x0 < 48 → ((57 < x0 → Q false I L c) ∧ (¬ 57 < x0 → Q true I L c))))) : C_M_isDigit g x0 I L c Q := by
  refine gm_enter (lv := [(0, .int x0)]) (by decide) rfl rfl rfl rfl ?_
  show Z_M_isDigit g Q 0 [(0, .int x0)] [] I L c
  refine gx_iload_n 0 dX11_isDigit_0 rfl rfl ?_
  refine gx_bipush (v := 48) dX11_isDigit_1 (by decide) ?_
  refine gx_icmp_lt 16 dX11_isDigit_3 (by decide) ⟨fun z => ?_, fun z => ?_⟩
  · replace h := h.1 z
    refine gx_iconst (v := 0) dX11_isDigit_16 (by decide) ?_
    exact gx_zret .boolean dX11_isDigit_17 rfl rfl rfl rfl ⟨false, _, _, _, rfl, rfl, h⟩
  · replace h := h.2 z
    refine gx_iload_n 0 dX11_isDigit_6 rfl rfl ?_
    refine gx_bipush (v := 57) dX11_isDigit_7 (by decide) ?_
    refine gx_icmp_gt 16 dX11_isDigit_9 (by decide) ⟨fun z => ?_, fun z => ?_⟩
    · replace h := h.1 z
      refine gx_iconst (v := 0) dX11_isDigit_16 (by decide) ?_
      exact gx_zret .boolean dX11_isDigit_17 rfl rfl rfl rfl ⟨false, _, _, _, rfl, rfl, h⟩
    · replace h := h.2 z
      refine gx_iconst (v := 1) dX11_isDigit_12 (by decide) ?_
      refine gx_goto 17 dX11_isDigit_13 (by decide) ?_
      exact gx_zret .boolean dX11_isDigit_17 rfl rfl rfl rfl ⟨true, _, _, _, rfl, rfl, h⟩
abbrev Z_M_keyAt (g : gm_G) (Q : Int32 → mI → mL → gm_cfg → Prop) (pc : Nat) (lv : List (Nat × Value)) (st : List Value) (I : mI) (L : mL) (c : gm_cfg) : Prop := gm_X g RX11 "keyAt" cX11_keyAt 4 (some .int) 5 0 0 (qI Q) 0 0 pc lv st (SH, I, L, RR c)
abbrev C_M_keyAt (g : gm_G) (I : mI) (L : mL) (c : gm_cfg) (Q : Int32 → mI → mL → gm_cfg → Prop) : Prop := gm_Met g yX11_keyAt cX11_keyAt 4 (some .int) 5 0 0 [.ref 59] (SH, I, L, RR c) (qI Q)
set_option maxRecDepth 100000 in
theorem e_M_keyAt {g : gm_G} {Q : Int32 → mI → mL → gm_cfg → Prop} {I : mI} {L : mL} {c : gm_cfg} (h : Z_M_keyAt g Q 4 [(0, .ref 59), (1, .int 0), (2, .int 1)] [] I L c) : C_M_keyAt g  I L c Q := by
  refine gm_enter (lv := [(0, .ref 59)]) (by decide) rfl rfl rfl rfl ?_
  show Z_M_keyAt g Q 0 [(0, .ref 59)] [] I L c
  refine gx_iconst (v := 0) dX11_keyAt_0 (by decide) ?_
  refine gx_istore_n (lv' := [(0, .ref 59), (1, .int 0)]) dX11_keyAt_1 rfl rfl rfl ?_
  refine gx_iconst (v := 1) dX11_keyAt_2 (by decide) ?_
  refine gx_istore_n (lv' := [(0, .ref 59), (1, .int 0), (2, .int 1)]) dX11_keyAt_3 rfl rfl rfl ?_
  exact h
set_option maxRecDepth 100000 in
theorem r_M_keyAt_4 {g : gm_G} {Q : Int32 → mI → mL → gm_cfg → Prop} {x1 x2 : Int32} {I : mI} {L : mL} {c : gm_cfg} (h : ((48 ≤ x2 → Q 8 I L c) ∧ (¬ 48 ≤ x2 → Z_M_keyAt g Q 15 [(0, .ref 59), (1, .int x1), (2, .int x2), (3, .int 0)] [] I L c))) : Z_M_keyAt g Q 4 [(0, .ref 59), (1, .int x1), (2, .int x2)] [] I L c := by
  refine gx_iload_n 2 dX11_keyAt_4 rfl rfl ?_
  refine gx_ldcS 8 dX11_keyAt_5 (by decide) rfl rfl ?_
  refine gx_slen 8 dX11_keyAt_7 ml_X11_73 rfl rfl rfl rfl rfl ?_
  show Z_M_keyAt g Q 10 [(0, .ref 59), (1, .int x1), (2, .int x2)] [.int 48, .int x2] I L c
  refine gx_icmp_ge 123 dX11_keyAt_10 (by decide) ⟨fun z => ?_, fun z => ?_⟩
  · replace h := h.1 z
    refine gx_bipush (v := 8) dX11_keyAt_123 (by decide) ?_
    exact gx_iret dX11_keyAt_125 rfl rfl rfl ⟨_, _, _, _, rfl, rfl, h⟩
  · replace h := h.2 z
    refine gx_iconst (v := 0) dX11_keyAt_13 (by decide) ?_
    refine gx_istore_n (lv' := [(0, .ref 59), (1, .int x1), (2, .int x2), (3, .int 0)]) dX11_keyAt_14 rfl rfl rfl ?_
    exact h
set_option maxRecDepth 100000 in
theorem r_M_keyAt_15 {g : gm_G} {Q : Int32 → mI → mL → gm_cfg → Prop} {x1 x2 x3 : Int32} {I : mI} {L : mL} {c : gm_cfg} (h : (vp_in (x2 + x3) 48 ∧ (((gm_ch 8 (Int32.toNatClampNeg (x2 + x3))) = 32 → (vp_in (x2 + x3) 48 ∧ (((gm_ch 8 (Int32.toNatClampNeg (x2 + x3))) = 32 → ((((I 59 6) + x3) = (I 59 7) → Q x1 I L c) ∧ (¬ ((I 59 6) + x3) = (I 59 7) → Z_M_keyAt g Q 97 [(0, .ref 59), (1, .int x1), (2, .int x2), (3, .int x3)] [] I L c))) ∧ (¬ (gm_ch 8 (Int32.toNatClampNeg (x2 + x3))) = 32 → Z_M_keyAt g Q 97 [(0, .ref 59), (1, .int x1), (2, .int x2), (3, .int x3)] [] I L c)))) ∧ (¬ (gm_ch 8 (Int32.toNatClampNeg (x2 + x3))) = 32 → (((I 59 7) ≤ ((I 59 6) + x3) → (vp_in (x2 + x3) 48 ∧ (((gm_ch 8 (Int32.toNatClampNeg (x2 + x3))) = 32 → ((((I 59 6) + x3) = (I 59 7) → Q x1 I L c) ∧ (¬ ((I 59 6) + x3) = (I 59 7) → Z_M_keyAt g Q 97 [(0, .ref 59), (1, .int x1), (2, .int x2), (3, .int x3)] [] I L c))) ∧ (¬ (gm_ch 8 (Int32.toNatClampNeg (x2 + x3))) = 32 → Z_M_keyAt g Q 97 [(0, .ref 59), (1, .int x1), (2, .int x2), (3, .int x3)] [] I L c)))) ∧ (¬ (I 59 7) ≤ ((I 59 6) + x3) → (vp_in ((I 59 6) + x3) 700 ∧ (vp_in (x2 + x3) 48 ∧ (((I 62 (Int32.toNatClampNeg ((I 59 6) + x3))) = (gm_ch 8 (Int32.toNatClampNeg (x2 + x3))) → Z_M_keyAt g Q 15 [(0, .ref 59), (1, .int x1), (2, .int x2), (3, .int (x3 + 1))] [] I L c) ∧ (¬ (I 62 (Int32.toNatClampNeg ((I 59 6) + x3))) = (gm_ch 8 (Int32.toNatClampNeg (x2 + x3))) → (vp_in (x2 + x3) 48 ∧ (((gm_ch 8 (Int32.toNatClampNeg (x2 + x3))) = 32 → ((((I 59 6) + x3) = (I 59 7) → Q x1 I L c) ∧ (¬ ((I 59 6) + x3) = (I 59 7) → Z_M_keyAt g Q 97 [(0, .ref 59), (1, .int x1), (2, .int x2), (3, .int x3)] [] I L c))) ∧ (¬ (gm_ch 8 (Int32.toNatClampNeg (x2 + x3))) = 32 → Z_M_keyAt g Q 97 [(0, .ref 59), (1, .int x1), (2, .int x2), (3, .int x3)] [] I L c))))))))))))) : Z_M_keyAt g Q 15 [(0, .ref 59), (1, .int x1), (2, .int x2), (3, .int x3)] [] I L c := by
  refine gx_ldcS 8 dX11_keyAt_15 (by decide) rfl rfl ?_
  refine gx_iload_n 2 dX11_keyAt_17 rfl rfl ?_
  refine gx_iload_n 3 dX11_keyAt_18 rfl rfl ?_
  refine gx_iadd dX11_keyAt_19 ?_
  obtain ⟨hi, h⟩ := h
  refine gx_char 8 dX11_keyAt_20 ml_X11_79 rfl rfl rfl rfl rfl hi ?_
  show Z_M_keyAt g Q 23 [(0, .ref 59), (1, .int x1), (2, .int x2), (3, .int x3)] [.int (gm_ch 8 (Int32.toNatClampNeg (x2 + x3)))] I L c
  refine gx_bipush (v := 32) dX11_keyAt_23 (by decide) ?_
  refine gx_icmp_eq 69 dX11_keyAt_25 (by decide) ⟨fun z => ?_, fun z => ?_⟩
  · replace h := h.1 z
    refine gx_ldcS 8 dX11_keyAt_69 (by decide) rfl rfl ?_
    refine gx_iload_n 2 dX11_keyAt_71 rfl rfl ?_
    refine gx_iload_n 3 dX11_keyAt_72 rfl rfl ?_
    refine gx_iadd dX11_keyAt_73 ?_
    obtain ⟨hi, h⟩ := h
    refine gx_char 8 dX11_keyAt_74 ml_X11_79 rfl rfl rfl rfl rfl hi ?_
    show Z_M_keyAt g Q 77 [(0, .ref 59), (1, .int x1), (2, .int x2), (3, .int x3)] [.int (gm_ch 8 (Int32.toNatClampNeg (x2 + x3)))] I L c
    refine gx_bipush (v := 32) dX11_keyAt_77 (by decide) ?_
    refine gx_icmp_ne 97 dX11_keyAt_79 (by decide) ⟨fun z => ?_, fun z => ?_⟩
    · replace h := h.1 z
      refine gx_aload_n 0 dX11_keyAt_82 rfl rfl ?_
      refine gx_geti 11 6 (v := (I 59 6)) dX11_keyAt_83 fl_X11_83 rfl rfl rfl ?_
      refine gx_iload_n 3 dX11_keyAt_86 rfl rfl ?_
      refine gx_iadd dX11_keyAt_87 ?_
      refine gx_aload_n 0 dX11_keyAt_88 rfl rfl ?_
      refine gx_geti 11 7 (v := (I 59 7)) dX11_keyAt_89 fl_X11_86 rfl rfl rfl ?_
      refine gx_icmp_ne 97 dX11_keyAt_92 (by decide) ⟨fun z => ?_, fun z => ?_⟩
      · replace h := h.1 z
        refine gx_iload_n 1 dX11_keyAt_95 rfl rfl ?_
        exact gx_iret dX11_keyAt_96 rfl rfl rfl ⟨_, _, _, _, rfl, rfl, h⟩
      · replace h := h.2 z
        exact h
    · replace h := h.2 z
      exact h
  · replace h := h.2 z
    refine gx_aload_n 0 dX11_keyAt_28 rfl rfl ?_
    refine gx_geti 11 6 (v := (I 59 6)) dX11_keyAt_29 fl_X11_83 rfl rfl rfl ?_
    refine gx_iload_n 3 dX11_keyAt_32 rfl rfl ?_
    refine gx_iadd dX11_keyAt_33 ?_
    refine gx_aload_n 0 dX11_keyAt_34 rfl rfl ?_
    refine gx_geti 11 7 (v := (I 59 7)) dX11_keyAt_35 fl_X11_86 rfl rfl rfl ?_
    refine gx_icmp_ge 69 dX11_keyAt_38 (by decide) ⟨fun z => ?_, fun z => ?_⟩
    · replace h := h.1 z
      refine gx_ldcS 8 dX11_keyAt_69 (by decide) rfl rfl ?_
      refine gx_iload_n 2 dX11_keyAt_71 rfl rfl ?_
      refine gx_iload_n 3 dX11_keyAt_72 rfl rfl ?_
      refine gx_iadd dX11_keyAt_73 ?_
      obtain ⟨hi, h⟩ := h
      refine gx_char 8 dX11_keyAt_74 ml_X11_79 rfl rfl rfl rfl rfl hi ?_
      show Z_M_keyAt g Q 77 [(0, .ref 59), (1, .int x1), (2, .int x2), (3, .int x3)] [.int (gm_ch 8 (Int32.toNatClampNeg (x2 + x3)))] I L c
      refine gx_bipush (v := 32) dX11_keyAt_77 (by decide) ?_
      refine gx_icmp_ne 97 dX11_keyAt_79 (by decide) ⟨fun z => ?_, fun z => ?_⟩
      · replace h := h.1 z
        refine gx_aload_n 0 dX11_keyAt_82 rfl rfl ?_
        refine gx_geti 11 6 (v := (I 59 6)) dX11_keyAt_83 fl_X11_83 rfl rfl rfl ?_
        refine gx_iload_n 3 dX11_keyAt_86 rfl rfl ?_
        refine gx_iadd dX11_keyAt_87 ?_
        refine gx_aload_n 0 dX11_keyAt_88 rfl rfl ?_
        refine gx_geti 11 7 (v := (I 59 7)) dX11_keyAt_89 fl_X11_86 rfl rfl rfl ?_
        refine gx_icmp_ne 97 dX11_keyAt_92 (by decide) ⟨fun z => ?_, fun z => ?_⟩
        · replace h := h.1 z
          refine gx_iload_n 1 dX11_keyAt_95 rfl rfl ?_
          exact gx_iret dX11_keyAt_96 rfl rfl rfl ⟨_, _, _, _, rfl, rfl, h⟩
        · replace h := h.2 z
          exact h
      · replace h := h.2 z
        exact h
    · replace h := h.2 z
      refine gx_aload_n 0 dX11_keyAt_41 rfl rfl ?_
      refine gx_getr 11 3 (v := 62) dX11_keyAt_42 fl_X11_21 rfl rfl rfl ?_
      refine gx_aload_n 0 dX11_keyAt_45 rfl rfl ?_
      refine gx_geti 11 6 (v := (I 59 6)) dX11_keyAt_46 fl_X11_83 rfl rfl rfl ?_
      refine gx_iload_n 3 dX11_keyAt_49 rfl rfl ?_
      refine gx_iadd dX11_keyAt_50 ?_
      obtain ⟨hi, h⟩ := h
      refine gx_iald (v := (I 62 (Int32.toNatClampNeg ((I 59 6) + x3)))) dX11_keyAt_51 rfl rfl hi (k := (Int32.toNatClampNeg ((I 59 6) + x3))) rfl rfl ?_
      refine gx_ldcS 8 dX11_keyAt_52 (by decide) rfl rfl ?_
      refine gx_iload_n 2 dX11_keyAt_54 rfl rfl ?_
      refine gx_iload_n 3 dX11_keyAt_55 rfl rfl ?_
      refine gx_iadd dX11_keyAt_56 ?_
      obtain ⟨hi, h⟩ := h
      refine gx_char 8 dX11_keyAt_57 ml_X11_79 rfl rfl rfl rfl rfl hi ?_
      show Z_M_keyAt g Q 60 [(0, .ref 59), (1, .int x1), (2, .int x2), (3, .int x3)] [.int (gm_ch 8 (Int32.toNatClampNeg (x2 + x3))), .int (I 62 (Int32.toNatClampNeg ((I 59 6) + x3)))] I L c
      refine gx_icmp_ne 69 dX11_keyAt_60 (by decide) ⟨fun z => ?_, fun z => ?_⟩
      · replace h := h.1 z
        refine gx_iinc (v := (x3 + 1)) (lv' := [(0, .ref 59), (1, .int x1), (2, .int x2), (3, .int (x3 + 1))]) 3 dX11_keyAt_63 rfl rfl rfl rfl ?_
        refine gx_goto 15 dX11_keyAt_66 (by decide) ?_
        exact h
      · replace h := h.2 z
        refine gx_ldcS 8 dX11_keyAt_69 (by decide) rfl rfl ?_
        refine gx_iload_n 2 dX11_keyAt_71 rfl rfl ?_
        refine gx_iload_n 3 dX11_keyAt_72 rfl rfl ?_
        refine gx_iadd dX11_keyAt_73 ?_
        obtain ⟨hi, h⟩ := h
        refine gx_char 8 dX11_keyAt_74 ml_X11_79 rfl rfl rfl rfl rfl hi ?_
        show Z_M_keyAt g Q 77 [(0, .ref 59), (1, .int x1), (2, .int x2), (3, .int x3)] [.int (gm_ch 8 (Int32.toNatClampNeg (x2 + x3)))] I L c
        refine gx_bipush (v := 32) dX11_keyAt_77 (by decide) ?_
        refine gx_icmp_ne 97 dX11_keyAt_79 (by decide) ⟨fun z => ?_, fun z => ?_⟩
        · replace h := h.1 z
          refine gx_aload_n 0 dX11_keyAt_82 rfl rfl ?_
          refine gx_geti 11 6 (v := (I 59 6)) dX11_keyAt_83 fl_X11_83 rfl rfl rfl ?_
          refine gx_iload_n 3 dX11_keyAt_86 rfl rfl ?_
          refine gx_iadd dX11_keyAt_87 ?_
          refine gx_aload_n 0 dX11_keyAt_88 rfl rfl ?_
          refine gx_geti 11 7 (v := (I 59 7)) dX11_keyAt_89 fl_X11_86 rfl rfl rfl ?_
          refine gx_icmp_ne 97 dX11_keyAt_92 (by decide) ⟨fun z => ?_, fun z => ?_⟩
          · replace h := h.1 z
            refine gx_iload_n 1 dX11_keyAt_95 rfl rfl ?_
            exact gx_iret dX11_keyAt_96 rfl rfl rfl ⟨_, _, _, _, rfl, rfl, h⟩
          · replace h := h.2 z
            exact h
        · replace h := h.2 z
          exact h
set_option maxRecDepth 100000 in
theorem r_M_keyAt_97 {g : gm_G} {Q : Int32 → mI → mL → gm_cfg → Prop} {x1 x2 x3 : Int32} {I : mI} {L : mL} {c : gm_cfg} (h : (vp_in x2 48 ∧ (((gm_ch 8 (Int32.toNatClampNeg x2)) = 32 → Z_M_keyAt g Q 4 [(0, .ref 59), (1, .int (x1 + 1)), (2, .int (x2 + 1))] [] I L c) ∧ (¬ (gm_ch 8 (Int32.toNatClampNeg x2)) = 32 → Z_M_keyAt g Q 97 [(0, .ref 59), (1, .int x1), (2, .int (x2 + 1)), (3, .int x3)] [] I L c)))) : Z_M_keyAt g Q 97 [(0, .ref 59), (1, .int x1), (2, .int x2), (3, .int x3)] [] I L c := by
  refine gx_ldcS 8 dX11_keyAt_97 (by decide) rfl rfl ?_
  refine gx_iload_n 2 dX11_keyAt_99 rfl rfl ?_
  obtain ⟨hi, h⟩ := h
  refine gx_char 8 dX11_keyAt_100 ml_X11_79 rfl rfl rfl rfl rfl hi ?_
  show Z_M_keyAt g Q 103 [(0, .ref 59), (1, .int x1), (2, .int x2), (3, .int x3)] [.int (gm_ch 8 (Int32.toNatClampNeg x2))] I L c
  refine gx_bipush (v := 32) dX11_keyAt_103 (by decide) ?_
  refine gx_icmp_eq 114 dX11_keyAt_105 (by decide) ⟨fun z => ?_, fun z => ?_⟩
  · replace h := h.1 z
    refine gx_iinc (v := (x2 + 1)) (lv' := [(0, .ref 59), (1, .int x1), (2, .int (x2 + 1)), (3, .int x3)]) 2 dX11_keyAt_114 rfl rfl rfl rfl ?_
    refine gx_iinc (v := (x1 + 1)) (lv' := [(0, .ref 59), (1, .int (x1 + 1)), (2, .int (x2 + 1)), (3, .int x3)]) 1 dX11_keyAt_117 rfl rfl rfl rfl ?_
    refine gx_goto 4 dX11_keyAt_120 (by decide) ?_
    refine gx_sub [0, 1, 2] (lv' := [(0, .ref 59), (1, .int (x1 + 1)), (2, .int (x2 + 1))]) rfl ?_
    exact h
  · replace h := h.2 z
    refine gx_iinc (v := (x2 + 1)) (lv' := [(0, .ref 59), (1, .int x1), (2, .int (x2 + 1)), (3, .int x3)]) 2 dX11_keyAt_108 rfl rfl rfl rfl ?_
    refine gx_goto 97 dX11_keyAt_111 (by decide) ?_
    exact h
abbrev Z_M_next (g : gm_G) (Q : mI → mL → gm_cfg → Prop) (pc : Nat) (lv : List (Nat × Value)) (st : List Value) (I : mI) (L : mL) (c : gm_cfg) : Prop := gm_X g RX11 "next" cX11_next 1 none 6 0 0 (qV Q) 0 0 pc lv st (SH, I, L, RR c)
abbrev C_M_next (g : gm_G) (I : mI) (L : mL) (c : gm_cfg) (Q : mI → mL → gm_cfg → Prop) : Prop := gm_Met g yX11_next cX11_next 1 none 6 0 0 [.ref 59] (SH, I, L, RR c) (qV Q)
set_option maxRecDepth 100000 in
theorem e_M_next {g : gm_G} {Q : mI → mL → gm_cfg → Prop} {I : mI} {L : mL} {c : gm_cfg} (h : Z_M_next g Q 8 [(0, .ref 59)] [] (gm_u I 59 6 (I 59 7)) L c) : C_M_next g  I L c Q := by
  refine gm_enter (lv := [(0, .ref 59)]) (by decide) rfl rfl rfl rfl ?_
  show Z_M_next g Q 0 [(0, .ref 59)] [] I L c
  refine gx_aload_n 0 dX11_next_0 rfl rfl ?_
  refine gx_aload_n 0 dX11_next_1 rfl rfl ?_
  refine gx_geti 11 7 (v := (I 59 7)) dX11_next_2 fl_X11_86 rfl rfl rfl ?_
  refine gx_puti 11 6 dX11_next_5 fl_X11_83 rfl rfl rfl ⟨rfl, rfl⟩ ?_
  show Z_M_next g Q 8 [(0, .ref 59)] [] (gm_u I 59 6 (I 59 7)) L c
  exact h
set_option maxRecDepth 100000 in
theorem r_M_next_8 {g : gm_G} {Q : mI → mL → gm_cfg → Prop} {I : mI} {L : mL} {c : gm_cfg} (h : (C_M_see g (I 59 6) I L c (fun r4 I1 L2 c3 => ((r4 = 10 → Z_M_next g Q 8 [(0, .ref 59)] [] (gm_u I1 59 6 ((I1 59 6) + 1)) L2 c3) ∧ (¬ r4 = 10 → (C_M_see g (I1 59 6) I1 L2 c3 (fun r8 I5 L6 c7 => ((r8 = 32 → Z_M_next g Q 8 [(0, .ref 59)] [] (gm_u I5 59 6 ((I5 59 6) + 1)) L6 c7) ∧ (¬ r8 = 32 → (((I5 59 6) < (I5 59 8) → (C_M_see g (I5 59 6) (gm_u I5 59 7 (I5 59 6)) L6 c7 (fun r12 I9 L10 c11 => (C_M_isSmall g r12 I9 L10 c11 (fun b16 I13 L14 c15 => ((b16 = false → (C_M_see g (I13 59 6) I13 L14 c15 (fun r20 I17 L18 c19 => (C_M_isDigit g r20 I17 L18 c19 (fun b24 I21 L22 c23 => ((b24 = false → (C_M_see g (I21 59 6) (gm_u I21 59 7 ((I21 59 7) + 1)) L22 c23 (fun r28 I25 L26 c27 => ((r28 = 59 → Q (gm_u I25 59 9 10) L26 c27) ∧ (¬ r28 = 59 → Q (gm_u I25 59 9 12) L26 c27))))) ∧ (b24 = true → Z_M_next g Q 146 [(0, .ref 59)] [] (gm_u I21 59 10 0) L22 c23))))))) ∧ (b16 = true → Z_M_next g Q 89 [(0, .ref 59)] [] I13 L14 c15))))))) ∧ (¬ (I5 59 6) < (I5 59 8) → Q (gm_u (gm_u I5 59 7 (I5 59 6)) 59 9 11) L6 c7))))))))))) : Z_M_next g Q 8 [(0, .ref 59)] [] I L c := by
  refine gx_aload_n 0 dX11_next_8 rfl rfl ?_
  refine gx_aload_n 0 dX11_next_9 rfl rfl ?_
  refine gx_geti 11 6 (v := (I 59 6)) dX11_next_10 fl_X11_83 rfl rfl rfl ?_
  refine gx_callV 11 (As := [.int (I 59 6)]) (st := []) dX11_next_13 ml_X11_89 mm_X11_see rfl rfl rfl rfl rfl rfl ⟨rfl, rfl⟩ h (fun v h2 hq => ?_)
  clear h
  obtain ⟨r4, I1, L2, c3, rfl, rfl, h⟩ := hq
  show Z_M_next g Q 16 [(0, .ref 59)] [.int r4] I1 L2 c3
  refine gx_bipush (v := 10) dX11_next_16 (by decide) ?_
  refine gx_icmp_eq 34 dX11_next_18 (by decide) ⟨fun z => ?_, fun z => ?_⟩
  · replace h := h.1 z
    refine gx_aload_n 0 dX11_next_34 rfl rfl ?_
    refine gx_dup dX11_next_35 rfl ?_
    refine gx_geti 11 6 (v := (I1 59 6)) dX11_next_36 fl_X11_83 rfl rfl rfl ?_
    refine gx_iconst (v := 1) dX11_next_39 (by decide) ?_
    refine gx_iadd dX11_next_40 ?_
    refine gx_puti 11 6 dX11_next_41 fl_X11_83 rfl rfl rfl ⟨rfl, rfl⟩ ?_
    show Z_M_next g Q 44 [(0, .ref 59)] [] (gm_u I1 59 6 ((I1 59 6) + 1)) L2 c3
    refine gx_goto 8 dX11_next_44 (by decide) ?_
    exact h
  · replace h := h.2 z
    refine gx_aload_n 0 dX11_next_21 rfl rfl ?_
    refine gx_aload_n 0 dX11_next_22 rfl rfl ?_
    refine gx_geti 11 6 (v := (I1 59 6)) dX11_next_23 fl_X11_83 rfl rfl rfl ?_
    refine gx_callV 11 (As := [.int (I1 59 6)]) (st := []) dX11_next_26 ml_X11_89 mm_X11_see rfl rfl rfl rfl rfl rfl ⟨rfl, rfl⟩ h (fun v h2 hq => ?_)
    clear h
    obtain ⟨r8, I5, L6, c7, rfl, rfl, h⟩ := hq
    show Z_M_next g Q 29 [(0, .ref 59)] [.int r8] I5 L6 c7
    refine gx_bipush (v := 32) dX11_next_29 (by decide) ?_
    refine gx_icmp_ne 47 dX11_next_31 (by decide) ⟨fun z => ?_, fun z => ?_⟩
    · replace h := h.1 z
      refine gx_aload_n 0 dX11_next_34 rfl rfl ?_
      refine gx_dup dX11_next_35 rfl ?_
      refine gx_geti 11 6 (v := (I5 59 6)) dX11_next_36 fl_X11_83 rfl rfl rfl ?_
      refine gx_iconst (v := 1) dX11_next_39 (by decide) ?_
      refine gx_iadd dX11_next_40 ?_
      refine gx_puti 11 6 dX11_next_41 fl_X11_83 rfl rfl rfl ⟨rfl, rfl⟩ ?_
      show Z_M_next g Q 44 [(0, .ref 59)] [] (gm_u I5 59 6 ((I5 59 6) + 1)) L6 c7
      refine gx_goto 8 dX11_next_44 (by decide) ?_
      exact h
    · replace h := h.2 z
      refine gx_aload_n 0 dX11_next_47 rfl rfl ?_
      refine gx_aload_n 0 dX11_next_48 rfl rfl ?_
      refine gx_geti 11 6 (v := (I5 59 6)) dX11_next_49 fl_X11_83 rfl rfl rfl ?_
      refine gx_puti 11 7 dX11_next_52 fl_X11_86 rfl rfl rfl ⟨rfl, rfl⟩ ?_
      show Z_M_next g Q 55 [(0, .ref 59)] [] (gm_u I5 59 7 (I5 59 6)) L6 c7
      refine gx_aload_n 0 dX11_next_55 rfl rfl ?_
      refine gx_geti 11 6 (v := (I5 59 6)) dX11_next_56 fl_X11_83 rfl rfl rfl ?_
      refine gx_aload_n 0 dX11_next_59 rfl rfl ?_
      refine gx_geti 11 8 (v := (I5 59 8)) dX11_next_60 fl_X11_68 rfl rfl rfl ?_
      refine gx_icmp_lt 75 dX11_next_63 (by decide) ⟨fun z => ?_, fun z => ?_⟩
      · replace h := h.1 z
        refine gx_aload_n 0 dX11_next_75 rfl rfl ?_
        refine gx_aload_n 0 dX11_next_76 rfl rfl ?_
        refine gx_geti 11 6 (v := (I5 59 6)) dX11_next_77 fl_X11_83 rfl rfl rfl ?_
        refine gx_callV 11 (As := [.int (I5 59 6)]) (st := []) dX11_next_80 ml_X11_89 mm_X11_see rfl rfl rfl rfl rfl rfl ⟨rfl, rfl⟩ h (fun v h2 hq => ?_)
        clear h
        obtain ⟨r12, I9, L10, c11, rfl, rfl, h⟩ := hq
        show Z_M_next g Q 83 [(0, .ref 59)] [.int r12] I9 L10 c11
        refine gx_callS (As := [.int r12]) (st := []) dX11_next_83 ml_X11_96 mm_X11_isSmall rfl rfl rfl rfl ⟨rfl, rfl⟩ h (fun v h2 hq => ?_)
        clear h
        obtain ⟨b16, I13, L14, c15, rfl, rfl, h⟩ := hq
        show Z_M_next g Q 86 [(0, .ref 59)] [.int (gm_b b16)] I13 L14 c15
        refine gx_if_eq 127 dX11_next_86 (by decide) ⟨fun z => ?_, fun z => ?_⟩
        · replace h := h.1 (gm_b0.mp z)
          refine gx_aload_n 0 dX11_next_127 rfl rfl ?_
          refine gx_aload_n 0 dX11_next_128 rfl rfl ?_
          refine gx_geti 11 6 (v := (I13 59 6)) dX11_next_129 fl_X11_83 rfl rfl rfl ?_
          refine gx_callV 11 (As := [.int (I13 59 6)]) (st := []) dX11_next_132 ml_X11_89 mm_X11_see rfl rfl rfl rfl rfl rfl ⟨rfl, rfl⟩ h (fun v h2 hq => ?_)
          clear h
          obtain ⟨r20, I17, L18, c19, rfl, rfl, h⟩ := hq
          show Z_M_next g Q 135 [(0, .ref 59)] [.int r20] I17 L18 c19
          refine gx_callS (As := [.int r20]) (st := []) dX11_next_135 ml_X11_103 mm_X11_isDigit rfl rfl rfl rfl ⟨rfl, rfl⟩ h (fun v h2 hq => ?_)
          clear h
          obtain ⟨b24, I21, L22, c23, rfl, rfl, h⟩ := hq
          show Z_M_next g Q 138 [(0, .ref 59)] [.int (gm_b b24)] I21 L22 c23
          refine gx_if_eq 236 dX11_next_138 (by decide) ⟨fun z => ?_, fun z => ?_⟩
          · replace h := h.1 (gm_b0.mp z)
            refine gx_aload_n 0 dX11_next_236 rfl rfl ?_
            refine gx_dup dX11_next_237 rfl ?_
            refine gx_geti 11 7 (v := (I21 59 7)) dX11_next_238 fl_X11_86 rfl rfl rfl ?_
            refine gx_iconst (v := 1) dX11_next_241 (by decide) ?_
            refine gx_iadd dX11_next_242 ?_
            refine gx_puti 11 7 dX11_next_243 fl_X11_86 rfl rfl rfl ⟨rfl, rfl⟩ ?_
            show Z_M_next g Q 246 [(0, .ref 59)] [] (gm_u I21 59 7 ((I21 59 7) + 1)) L22 c23
            refine gx_aload_n 0 dX11_next_246 rfl rfl ?_
            refine gx_aload_n 0 dX11_next_247 rfl rfl ?_
            refine gx_aload_n 0 dX11_next_248 rfl rfl ?_
            refine gx_geti 11 6 (v := (I21 59 6)) dX11_next_249 fl_X11_83 rfl rfl rfl ?_
            refine gx_callV 11 (As := [.int (I21 59 6)]) (st := [.ref 59]) dX11_next_252 ml_X11_89 mm_X11_see rfl rfl rfl rfl rfl rfl ⟨rfl, rfl⟩ h (fun v h2 hq => ?_)
            clear h
            obtain ⟨r28, I25, L26, c27, rfl, rfl, h⟩ := hq
            show Z_M_next g Q 255 [(0, .ref 59)] [.int r28, .ref 59] I25 L26 c27
            refine gx_bipush (v := 59) dX11_next_255 (by decide) ?_
            refine gx_icmp_ne 265 dX11_next_257 (by decide) ⟨fun z => ?_, fun z => ?_⟩
            · replace h := h.1 z
              refine gx_bipush (v := 10) dX11_next_260 (by decide) ?_
              refine gx_goto 267 dX11_next_262 (by decide) ?_
              refine gx_puti 11 9 dX11_next_267 fl_X11_93 rfl rfl rfl ⟨rfl, rfl⟩ ?_
              show Z_M_next g Q 270 [(0, .ref 59)] [] (gm_u I25 59 9 10) L26 c27
              exact gx_vret dX11_next_270 rfl rfl rfl ⟨_, _, _, rfl, rfl, h⟩
            · replace h := h.2 z
              refine gx_bipush (v := 12) dX11_next_265 (by decide) ?_
              refine gx_puti 11 9 dX11_next_267 fl_X11_93 rfl rfl rfl ⟨rfl, rfl⟩ ?_
              show Z_M_next g Q 270 [(0, .ref 59)] [] (gm_u I25 59 9 12) L26 c27
              exact gx_vret dX11_next_270 rfl rfl rfl ⟨_, _, _, rfl, rfl, h⟩
          · replace h := h.2 (gm_bn0 z)
            refine gx_aload_n 0 dX11_next_141 rfl rfl ?_
            refine gx_iconst (v := 0) dX11_next_142 (by decide) ?_
            refine gx_puti 11 10 dX11_next_143 fl_X11_106 rfl rfl rfl ⟨rfl, rfl⟩ ?_
            show Z_M_next g Q 146 [(0, .ref 59)] [] (gm_u I21 59 10 0) L22 c23
            exact h
        · replace h := h.2 (gm_bn0 z)
          exact h
      · replace h := h.2 z
        refine gx_aload_n 0 dX11_next_66 rfl rfl ?_
        refine gx_bipush (v := 11) dX11_next_67 (by decide) ?_
        refine gx_puti 11 9 dX11_next_69 fl_X11_93 rfl rfl rfl ⟨rfl, rfl⟩ ?_
        show Z_M_next g Q 72 [(0, .ref 59)] [] (gm_u (gm_u I5 59 7 (I5 59 6)) 59 9 11) L6 c7
        refine gx_goto 270 dX11_next_72 (by decide) ?_
        exact gx_vret dX11_next_270 rfl rfl rfl ⟨_, _, _, rfl, rfl, h⟩
set_option maxRecDepth 100000 in
theorem r_M_next_89 {g : gm_G} {Q : mI → mL → gm_cfg → Prop} {I : mI} {L : mL} {c : gm_cfg} (h : (C_M_see g (I 59 7) I L c (fun r4 I1 L2 c3 => (C_M_isSmall g r4 I1 L2 c3 (fun b8 I5 L6 c7 => ((b8 = false → (C_M_keyAt g I5 L6 c7 (fun r12 I9 L10 c11 => Q (gm_u I9 59 9 r12) L10 c11))) ∧ (b8 = true → Z_M_next g Q 89 [(0, .ref 59)] [] (gm_u I5 59 7 ((I5 59 7) + 1)) L6 c7))))))) : Z_M_next g Q 89 [(0, .ref 59)] [] I L c := by
  refine gx_aload_n 0 dX11_next_89 rfl rfl ?_
  refine gx_aload_n 0 dX11_next_90 rfl rfl ?_
  refine gx_geti 11 7 (v := (I 59 7)) dX11_next_91 fl_X11_86 rfl rfl rfl ?_
  refine gx_callV 11 (As := [.int (I 59 7)]) (st := []) dX11_next_94 ml_X11_89 mm_X11_see rfl rfl rfl rfl rfl rfl ⟨rfl, rfl⟩ h (fun v h2 hq => ?_)
  clear h
  obtain ⟨r4, I1, L2, c3, rfl, rfl, h⟩ := hq
  show Z_M_next g Q 97 [(0, .ref 59)] [.int r4] I1 L2 c3
  refine gx_callS (As := [.int r4]) (st := []) dX11_next_97 ml_X11_96 mm_X11_isSmall rfl rfl rfl rfl ⟨rfl, rfl⟩ h (fun v h2 hq => ?_)
  clear h
  obtain ⟨b8, I5, L6, c7, rfl, rfl, h⟩ := hq
  show Z_M_next g Q 100 [(0, .ref 59)] [.int (gm_b b8)] I5 L6 c7
  refine gx_if_eq 116 dX11_next_100 (by decide) ⟨fun z => ?_, fun z => ?_⟩
  · replace h := h.1 (gm_b0.mp z)
    refine gx_aload_n 0 dX11_next_116 rfl rfl ?_
    refine gx_aload_n 0 dX11_next_117 rfl rfl ?_
    refine gx_callV 11 (As := []) (st := [.ref 59]) dX11_next_118 ml_X11_100 mm_X11_keyAt rfl rfl rfl rfl rfl rfl ⟨rfl, rfl⟩ h (fun v h2 hq => ?_)
    clear h
    obtain ⟨r12, I9, L10, c11, rfl, rfl, h⟩ := hq
    show Z_M_next g Q 121 [(0, .ref 59)] [.int r12, .ref 59] I9 L10 c11
    refine gx_puti 11 9 dX11_next_121 fl_X11_93 rfl rfl rfl ⟨rfl, rfl⟩ ?_
    show Z_M_next g Q 124 [(0, .ref 59)] [] (gm_u I9 59 9 r12) L10 c11
    refine gx_goto 270 dX11_next_124 (by decide) ?_
    exact gx_vret dX11_next_270 rfl rfl rfl ⟨_, _, _, rfl, rfl, h⟩
  · replace h := h.2 (gm_bn0 z)
    refine gx_aload_n 0 dX11_next_103 rfl rfl ?_
    refine gx_dup dX11_next_104 rfl ?_
    refine gx_geti 11 7 (v := (I5 59 7)) dX11_next_105 fl_X11_86 rfl rfl rfl ?_
    refine gx_iconst (v := 1) dX11_next_108 (by decide) ?_
    refine gx_iadd dX11_next_109 ?_
    refine gx_puti 11 7 dX11_next_110 fl_X11_86 rfl rfl rfl ⟨rfl, rfl⟩ ?_
    show Z_M_next g Q 113 [(0, .ref 59)] [] (gm_u I5 59 7 ((I5 59 7) + 1)) L6 c7
    refine gx_goto 89 dX11_next_113 (by decide) ?_
    exact h
set_option maxRecDepth 100000 in
theorem r_M_next_146 {g : gm_G} {Q : mI → mL → gm_cfg → Prop} {I : mI} {L : mL} {c : gm_cfg} (h : (C_M_see g (I 59 7) I L c (fun r4 I1 L2 c3 => (C_M_isDigit g r4 I1 L2 c3 (fun b8 I5 L6 c7 => ((b8 = false → ((((I5 59 7) - (I5 59 6)) ≤ 4 → Q (gm_u I5 59 9 9) L6 c7) ∧ (¬ ((I5 59 7) - (I5 59 6)) ≤ 4 → Q (gm_u I5 59 9 12) L6 c7))) ∧ (b8 = true → ((4 ≤ ((I5 59 7) - (I5 59 6)) → Z_M_next g Q 146 [(0, .ref 59)] [] (gm_u I5 59 7 ((I5 59 7) + 1)) L6 c7) ∧ (¬ 4 ≤ ((I5 59 7) - (I5 59 6)) → (C_M_see g (I5 59 7) I5 L6 c7 (fun r12 I9 L10 c11 => Z_M_next g Q 146 [(0, .ref 59)] [] (gm_u (gm_u I9 59 10 (((10 * (I5 59 10)) + r12) - 48)) 59 7 ((I9 59 7) + 1)) L10 c11))))))))))) : Z_M_next g Q 146 [(0, .ref 59)] [] I L c := by
  refine gx_aload_n 0 dX11_next_146 rfl rfl ?_
  refine gx_aload_n 0 dX11_next_147 rfl rfl ?_
  refine gx_geti 11 7 (v := (I 59 7)) dX11_next_148 fl_X11_86 rfl rfl rfl ?_
  refine gx_callV 11 (As := [.int (I 59 7)]) (st := []) dX11_next_151 ml_X11_89 mm_X11_see rfl rfl rfl rfl rfl rfl ⟨rfl, rfl⟩ h (fun v h2 hq => ?_)
  clear h
  obtain ⟨r4, I1, L2, c3, rfl, rfl, h⟩ := hq
  show Z_M_next g Q 154 [(0, .ref 59)] [.int r4] I1 L2 c3
  refine gx_callS (As := [.int r4]) (st := []) dX11_next_154 ml_X11_103 mm_X11_isDigit rfl rfl rfl rfl ⟨rfl, rfl⟩ h (fun v h2 hq => ?_)
  clear h
  obtain ⟨b8, I5, L6, c7, rfl, rfl, h⟩ := hq
  show Z_M_next g Q 157 [(0, .ref 59)] [.int (gm_b b8)] I5 L6 c7
  refine gx_if_eq 209 dX11_next_157 (by decide) ⟨fun z => ?_, fun z => ?_⟩
  · replace h := h.1 (gm_b0.mp z)
    refine gx_aload_n 0 dX11_next_209 rfl rfl ?_
    refine gx_aload_n 0 dX11_next_210 rfl rfl ?_
    refine gx_geti 11 7 (v := (I5 59 7)) dX11_next_211 fl_X11_86 rfl rfl rfl ?_
    refine gx_aload_n 0 dX11_next_214 rfl rfl ?_
    refine gx_geti 11 6 (v := (I5 59 6)) dX11_next_215 fl_X11_83 rfl rfl rfl ?_
    refine gx_isub dX11_next_218 ?_
    refine gx_iconst (v := 4) dX11_next_219 (by decide) ?_
    refine gx_icmp_le 228 dX11_next_220 (by decide) ⟨fun z => ?_, fun z => ?_⟩
    · replace h := h.1 z
      refine gx_bipush (v := 9) dX11_next_228 (by decide) ?_
      refine gx_puti 11 9 dX11_next_230 fl_X11_93 rfl rfl rfl ⟨rfl, rfl⟩ ?_
      show Z_M_next g Q 233 [(0, .ref 59)] [] (gm_u I5 59 9 9) L6 c7
      refine gx_goto 270 dX11_next_233 (by decide) ?_
      exact gx_vret dX11_next_270 rfl rfl rfl ⟨_, _, _, rfl, rfl, h⟩
    · replace h := h.2 z
      refine gx_bipush (v := 12) dX11_next_223 (by decide) ?_
      refine gx_goto 230 dX11_next_225 (by decide) ?_
      refine gx_puti 11 9 dX11_next_230 fl_X11_93 rfl rfl rfl ⟨rfl, rfl⟩ ?_
      show Z_M_next g Q 233 [(0, .ref 59)] [] (gm_u I5 59 9 12) L6 c7
      refine gx_goto 270 dX11_next_233 (by decide) ?_
      exact gx_vret dX11_next_270 rfl rfl rfl ⟨_, _, _, rfl, rfl, h⟩
  · replace h := h.2 (gm_bn0 z)
    refine gx_aload_n 0 dX11_next_160 rfl rfl ?_
    refine gx_geti 11 7 (v := (I5 59 7)) dX11_next_161 fl_X11_86 rfl rfl rfl ?_
    refine gx_aload_n 0 dX11_next_164 rfl rfl ?_
    refine gx_geti 11 6 (v := (I5 59 6)) dX11_next_165 fl_X11_83 rfl rfl rfl ?_
    refine gx_isub dX11_next_168 ?_
    refine gx_iconst (v := 4) dX11_next_169 (by decide) ?_
    refine gx_icmp_ge 196 dX11_next_170 (by decide) ⟨fun z => ?_, fun z => ?_⟩
    · replace h := h.1 z
      refine gx_aload_n 0 dX11_next_196 rfl rfl ?_
      refine gx_dup dX11_next_197 rfl ?_
      refine gx_geti 11 7 (v := (I5 59 7)) dX11_next_198 fl_X11_86 rfl rfl rfl ?_
      refine gx_iconst (v := 1) dX11_next_201 (by decide) ?_
      refine gx_iadd dX11_next_202 ?_
      refine gx_puti 11 7 dX11_next_203 fl_X11_86 rfl rfl rfl ⟨rfl, rfl⟩ ?_
      show Z_M_next g Q 206 [(0, .ref 59)] [] (gm_u I5 59 7 ((I5 59 7) + 1)) L6 c7
      refine gx_goto 146 dX11_next_206 (by decide) ?_
      exact h
    · replace h := h.2 z
      refine gx_aload_n 0 dX11_next_173 rfl rfl ?_
      refine gx_bipush (v := 10) dX11_next_174 (by decide) ?_
      refine gx_aload_n 0 dX11_next_176 rfl rfl ?_
      refine gx_geti 11 10 (v := (I5 59 10)) dX11_next_177 fl_X11_106 rfl rfl rfl ?_
      refine gx_imul dX11_next_180 ?_
      refine gx_aload_n 0 dX11_next_181 rfl rfl ?_
      refine gx_aload_n 0 dX11_next_182 rfl rfl ?_
      refine gx_geti 11 7 (v := (I5 59 7)) dX11_next_183 fl_X11_86 rfl rfl rfl ?_
      refine gx_callV 11 (As := [.int (I5 59 7)]) (st := [.int (10 * (I5 59 10)), .ref 59]) dX11_next_186 ml_X11_89 mm_X11_see rfl rfl rfl rfl rfl rfl ⟨rfl, rfl⟩ h (fun v h2 hq => ?_)
      clear h
      obtain ⟨r12, I9, L10, c11, rfl, rfl, h⟩ := hq
      show Z_M_next g Q 189 [(0, .ref 59)] [.int r12, .int (10 * (I5 59 10)), .ref 59] I9 L10 c11
      refine gx_iadd dX11_next_189 ?_
      refine gx_bipush (v := 48) dX11_next_190 (by decide) ?_
      refine gx_isub dX11_next_192 ?_
      refine gx_puti 11 10 dX11_next_193 fl_X11_106 rfl rfl rfl ⟨rfl, rfl⟩ ?_
      show Z_M_next g Q 196 [(0, .ref 59)] [] (gm_u I9 59 10 (((10 * (I5 59 10)) + r12) - 48)) L10 c11
      refine gx_aload_n 0 dX11_next_196 rfl rfl ?_
      refine gx_dup dX11_next_197 rfl ?_
      refine gx_geti 11 7 (v := (I9 59 7)) dX11_next_198 fl_X11_86 rfl rfl rfl ?_
      refine gx_iconst (v := 1) dX11_next_201 (by decide) ?_
      refine gx_iadd dX11_next_202 ?_
      refine gx_puti 11 7 dX11_next_203 fl_X11_86 rfl rfl rfl ⟨rfl, rfl⟩ ?_
      show Z_M_next g Q 206 [(0, .ref 59)] [] (gm_u (gm_u I9 59 10 (((10 * (I5 59 10)) + r12) - 48)) 59 7 ((I9 59 7) + 1)) L10 c11
      refine gx_goto 146 dX11_next_206 (by decide) ?_
      exact h
abbrev Z_M_is (g : gm_G) (Q : Bool → mI → mL → gm_cfg → Prop) (pc : Nat) (lv : List (Nat × Value)) (st : List Value) (I : mI) (L : mL) (c : gm_cfg) : Prop := gm_X g RX11 "is" cX11_is 2 (some .boolean) 1 0 0 (qZ Q) 0 0 pc lv st (SH, I, L, RR c)
abbrev C_M_is (g : gm_G) (x1 : Int32) (I : mI) (L : mL) (c : gm_cfg) (Q : Bool → mI → mL → gm_cfg → Prop) : Prop := gm_Met g yX11_is cX11_is 2 (some .boolean) 1 0 0 [.ref 59, .int x1] (SH, I, L, RR c) (qZ Q)
set_option maxRecDepth 100000 in
theorem e_M_is {g : gm_G} {Q : Bool → mI → mL → gm_cfg → Prop} {x1 : Int32} {I : mI} {L : mL} {c : gm_cfg} (h : (((I 59 11) = 0 → (((I 59 9) = x1 → Q true I L c) ∧ (¬ (I 59 9) = x1 → Q false I L c))) ∧ (¬ (I 59 11) = 0 → Q false I L c))) : C_M_is g x1 I L c Q := by
  refine gm_enter (lv := [(0, .ref 59), (1, .int x1)]) (by decide) rfl rfl rfl rfl ?_
  show Z_M_is g Q 0 [(0, .ref 59), (1, .int x1)] [] I L c
  refine gx_aload_n 0 dX11_is_0 rfl rfl ?_
  refine gx_geti 11 11 (v := (I 59 11)) dX11_is_1 fl_X11_109 rfl rfl rfl ?_
  refine gx_if_ne 19 dX11_is_4 (by decide) ⟨fun z => ?_, fun z => ?_⟩
  · replace h := h.1 z
    refine gx_aload_n 0 dX11_is_7 rfl rfl ?_
    refine gx_geti 11 9 (v := (I 59 9)) dX11_is_8 fl_X11_93 rfl rfl rfl ?_
    refine gx_iload_n 1 dX11_is_11 rfl rfl ?_
    refine gx_icmp_ne 19 dX11_is_12 (by decide) ⟨fun z => ?_, fun z => ?_⟩
    · replace h := h.1 z
      refine gx_iconst (v := 1) dX11_is_15 (by decide) ?_
      refine gx_goto 20 dX11_is_16 (by decide) ?_
      exact gx_zret .boolean dX11_is_20 rfl rfl rfl rfl ⟨true, _, _, _, rfl, rfl, h⟩
    · replace h := h.2 z
      refine gx_iconst (v := 0) dX11_is_19 (by decide) ?_
      exact gx_zret .boolean dX11_is_20 rfl rfl rfl rfl ⟨false, _, _, _, rfl, rfl, h⟩
  · replace h := h.2 z
    refine gx_iconst (v := 0) dX11_is_19 (by decide) ?_
    exact gx_zret .boolean dX11_is_20 rfl rfl rfl rfl ⟨false, _, _, _, rfl, rfl, h⟩
abbrev Z_M_eats (g : gm_G) (Q : Bool → mI → mL → gm_cfg → Prop) (pc : Nat) (lv : List (Nat × Value)) (st : List Value) (I : mI) (L : mL) (c : gm_cfg) : Prop := gm_X g RX11 "eats" cX11_eats 2 (some .boolean) 7 0 0 (qZ Q) 0 0 pc lv st (SH, I, L, RR c)
abbrev C_M_eats (g : gm_G) (x1 : Int32) (I : mI) (L : mL) (c : gm_cfg) (Q : Bool → mI → mL → gm_cfg → Prop) : Prop := gm_Met g yX11_eats cX11_eats 2 (some .boolean) 7 0 0 [.ref 59, .int x1] (SH, I, L, RR c) (qZ Q)
set_option maxRecDepth 100000 in
theorem e_M_eats {g : gm_G} {Q : Bool → mI → mL → gm_cfg → Prop} {x1 : Int32} {I : mI} {L : mL} {c : gm_cfg} (h : (C_M_is g x1 I L c (fun b4 I1 L2 c3 => ((b4 = false → Q false I1 L2 c3) ∧ (b4 = true → (C_M_next g I1 L2 c3 (fun I5 L6 c7 => Q true I5 L6 c7))))))) : C_M_eats g x1 I L c Q := by
  refine gm_enter (lv := [(0, .ref 59), (1, .int x1)]) (by decide) rfl rfl rfl rfl ?_
  show Z_M_eats g Q 0 [(0, .ref 59), (1, .int x1)] [] I L c
  refine gx_aload_n 0 dX11_eats_0 rfl rfl ?_
  refine gx_iload_n 1 dX11_eats_1 rfl rfl ?_
  refine gx_callV 11 (As := [.int x1]) (st := []) dX11_eats_2 ml_X11_115 mm_X11_is rfl rfl rfl rfl rfl rfl ⟨rfl, rfl⟩ h (fun v h2 hq => ?_)
  clear h
  obtain ⟨b4, I1, L2, c3, rfl, rfl, h⟩ := hq
  show Z_M_eats g Q 5 [(0, .ref 59), (1, .int x1)] [.int (gm_b b4)] I1 L2 c3
  refine gx_if_ne 10 dX11_eats_5 (by decide) ⟨fun z => ?_, fun z => ?_⟩
  · replace h := h.1 (gm_b0.mp z)
    refine gx_iconst (v := 0) dX11_eats_8 (by decide) ?_
    exact gx_zret .boolean dX11_eats_9 rfl rfl rfl rfl ⟨false, _, _, _, rfl, rfl, h⟩
  · replace h := h.2 (gm_bn0 z)
    refine gx_aload_n 0 dX11_eats_10 rfl rfl ?_
    refine gx_callV 11 (As := []) (st := []) dX11_eats_11 ml_X11_118 mm_X11_next rfl rfl rfl rfl rfl rfl ⟨rfl, rfl⟩ h (fun v h2 hq => ?_)
    clear h
    obtain ⟨I5, L6, c7, rfl, rfl, h⟩ := hq
    show Z_M_eats g Q 14 [(0, .ref 59), (1, .int x1)] [] I5 L6 c7
    refine gx_iconst (v := 1) dX11_eats_14 (by decide) ?_
    exact gx_zret .boolean dX11_eats_15 rfl rfl rfl rfl ⟨true, _, _, _, rfl, rfl, h⟩
abbrev Z_M_fails (g : gm_G) (Q : mI → mL → gm_cfg → Prop) (pc : Nat) (lv : List (Nat × Value)) (st : List Value) (I : mI) (L : mL) (c : gm_cfg) : Prop := gm_X g RX11 "fails" cX11_fails 2 none 1 0 0 (qV Q) 0 0 pc lv st (SH, I, L, RR c)
abbrev C_M_fails (g : gm_G) (x1 : Int32) (I : mI) (L : mL) (c : gm_cfg) (Q : mI → mL → gm_cfg → Prop) : Prop := gm_Met g yX11_fails cX11_fails 2 none 1 0 0 [.ref 59, .int x1] (SH, I, L, RR c) (qV Q)
set_option maxRecDepth 100000 in
theorem e_M_fails {g : gm_G} {Q : mI → mL → gm_cfg → Prop} {x1 : Int32} {I : mI} {L : mL} {c : gm_cfg} (h : (((I 59 11) = 0 → (((I 59 9) = 12 → Q (gm_u (gm_u I 59 11 1) 59 12 (I 59 6)) L c) ∧ (¬ (I 59 9) = 12 → Q (gm_u (gm_u I 59 11 x1) 59 12 (I 59 6)) L c))) ∧ (¬ (I 59 11) = 0 → Q I L c))) : C_M_fails g x1 I L c Q := by
  refine gm_enter (lv := [(0, .ref 59), (1, .int x1)]) (by decide) rfl rfl rfl rfl ?_
  show Z_M_fails g Q 0 [(0, .ref 59), (1, .int x1)] [] I L c
  refine gx_aload_n 0 dX11_fails_0 rfl rfl ?_
  refine gx_geti 11 11 (v := (I 59 11)) dX11_fails_1 fl_X11_109 rfl rfl rfl ?_
  refine gx_if_eq 8 dX11_fails_4 (by decide) ⟨fun z => ?_, fun z => ?_⟩
  · replace h := h.1 z
    refine gx_aload_n 0 dX11_fails_8 rfl rfl ?_
    refine gx_aload_n 0 dX11_fails_9 rfl rfl ?_
    refine gx_geti 11 9 (v := (I 59 9)) dX11_fails_10 fl_X11_93 rfl rfl rfl ?_
    refine gx_bipush (v := 12) dX11_fails_13 (by decide) ?_
    refine gx_icmp_ne 22 dX11_fails_15 (by decide) ⟨fun z => ?_, fun z => ?_⟩
    · replace h := h.1 z
      refine gx_iconst (v := 1) dX11_fails_18 (by decide) ?_
      refine gx_goto 23 dX11_fails_19 (by decide) ?_
      refine gx_puti 11 11 dX11_fails_23 fl_X11_109 rfl rfl rfl ⟨rfl, rfl⟩ ?_
      show Z_M_fails g Q 26 [(0, .ref 59), (1, .int x1)] [] (gm_u I 59 11 1) L c
      refine gx_aload_n 0 dX11_fails_26 rfl rfl ?_
      refine gx_aload_n 0 dX11_fails_27 rfl rfl ?_
      refine gx_geti 11 6 (v := (I 59 6)) dX11_fails_28 fl_X11_83 rfl rfl rfl ?_
      refine gx_puti 11 12 dX11_fails_31 fl_X11_112 rfl rfl rfl ⟨rfl, rfl⟩ ?_
      show Z_M_fails g Q 34 [(0, .ref 59), (1, .int x1)] [] (gm_u (gm_u I 59 11 1) 59 12 (I 59 6)) L c
      exact gx_vret dX11_fails_34 rfl rfl rfl ⟨_, _, _, rfl, rfl, h⟩
    · replace h := h.2 z
      refine gx_iload_n 1 dX11_fails_22 rfl rfl ?_
      refine gx_puti 11 11 dX11_fails_23 fl_X11_109 rfl rfl rfl ⟨rfl, rfl⟩ ?_
      show Z_M_fails g Q 26 [(0, .ref 59), (1, .int x1)] [] (gm_u I 59 11 x1) L c
      refine gx_aload_n 0 dX11_fails_26 rfl rfl ?_
      refine gx_aload_n 0 dX11_fails_27 rfl rfl ?_
      refine gx_geti 11 6 (v := (I 59 6)) dX11_fails_28 fl_X11_83 rfl rfl rfl ?_
      refine gx_puti 11 12 dX11_fails_31 fl_X11_112 rfl rfl rfl ⟨rfl, rfl⟩ ?_
      show Z_M_fails g Q 34 [(0, .ref 59), (1, .int x1)] [] (gm_u (gm_u I 59 11 x1) 59 12 (I 59 6)) L c
      exact gx_vret dX11_fails_34 rfl rfl rfl ⟨_, _, _, rfl, rfl, h⟩
  · replace h := h.2 z
    exact gx_vret dX11_fails_7 rfl rfl rfl ⟨_, _, _, rfl, rfl, h⟩
abbrev Z_M_takes (g : gm_G) (Q : Int32 → mI → mL → gm_cfg → Prop) (pc : Nat) (lv : List (Nat × Value)) (st : List Value) (I : mI) (L : mL) (c : gm_cfg) : Prop := gm_X g RX11 "takes" cX11_takes 4 (some .int) 7 0 0 (qI Q) 0 0 pc lv st (SH, I, L, RR c)
abbrev C_M_takes (g : gm_G) (x1 : Int32) (x2 : Int32) (I : mI) (L : mL) (c : gm_cfg) (Q : Int32 → mI → mL → gm_cfg → Prop) : Prop := gm_Met g yX11_takes cX11_takes 4 (some .int) 7 0 0 [.ref 59, .int x1, .int x2] (SH, I, L, RR c) (qI Q)
set_option maxRecDepth 100000 in
theorem e_M_takes {g : gm_G} {Q : Int32 → mI → mL → gm_cfg → Prop} {x1 x2 : Int32} {I : mI} {L : mL} {c : gm_cfg} (h : (C_M_is g 9 I L c (fun b4 I1 L2 c3 => ((b4 = false → (C_M_fails g 2 I1 L2 c3 (fun I5 L6 c7 => (((I5 59 11) = 0 → (C_M_next g I5 L6 c7 (fun I8 L9 c10 => Q (I5 59 10) I8 L9 c10))) ∧ (¬ (I5 59 11) = 0 → Q (I5 59 10) I5 L6 c7))))) ∧ (b4 = true → (C_M_within g (Int32.toInt64 (I1 59 10)) (Int32.toInt64 x1) (Int32.toInt64 x2) I1 L2 c3 (fun b14 I11 L12 c13 => ((b14 = false → (C_M_fails g 3 I11 L12 c13 (fun I15 L16 c17 => (((I15 59 11) = 0 → (C_M_next g I15 L16 c17 (fun I18 L19 c20 => Q (I15 59 10) I18 L19 c20))) ∧ (¬ (I15 59 11) = 0 → Q (I15 59 10) I15 L16 c17))))) ∧ (b14 = true → (((I11 59 11) = 0 → (C_M_next g I11 L12 c13 (fun I21 L22 c23 => Q (I11 59 10) I21 L22 c23))) ∧ (¬ (I11 59 11) = 0 → Q (I11 59 10) I11 L12 c13))))))))))) : C_M_takes g x1 x2 I L c Q := by
  refine gm_enter (lv := [(0, .ref 59), (1, .int x1), (2, .int x2)]) (by decide) rfl rfl rfl rfl ?_
  show Z_M_takes g Q 0 [(0, .ref 59), (1, .int x1), (2, .int x2)] [] I L c
  refine gx_aload_n 0 dX11_takes_0 rfl rfl ?_
  refine gx_bipush (v := 9) dX11_takes_1 (by decide) ?_
  refine gx_callV 11 (As := [.int 9]) (st := []) dX11_takes_3 ml_X11_115 mm_X11_is rfl rfl rfl rfl rfl rfl ⟨rfl, rfl⟩ h (fun v h2 hq => ?_)
  clear h
  obtain ⟨b4, I1, L2, c3, rfl, rfl, h⟩ := hq
  show Z_M_takes g Q 6 [(0, .ref 59), (1, .int x1), (2, .int x2)] [.int (gm_b b4)] I1 L2 c3
  refine gx_if_ne 17 dX11_takes_6 (by decide) ⟨fun z => ?_, fun z => ?_⟩
  · replace h := h.1 (gm_b0.mp z)
    refine gx_aload_n 0 dX11_takes_9 rfl rfl ?_
    refine gx_iconst (v := 2) dX11_takes_10 (by decide) ?_
    refine gx_callV 11 (As := [.int 2]) (st := []) dX11_takes_11 ml_X11_121 mm_X11_fails rfl rfl rfl rfl rfl rfl ⟨rfl, rfl⟩ h (fun v h2 hq => ?_)
    clear h
    obtain ⟨I5, L6, c7, rfl, rfl, h⟩ := hq
    show Z_M_takes g Q 14 [(0, .ref 59), (1, .int x1), (2, .int x2)] [] I5 L6 c7
    refine gx_goto 37 dX11_takes_14 (by decide) ?_
    refine gx_aload_n 0 dX11_takes_37 rfl rfl ?_
    refine gx_geti 11 10 (v := (I5 59 10)) dX11_takes_38 fl_X11_106 rfl rfl rfl ?_
    refine gx_istore_n (lv' := [(0, .ref 59), (1, .int x1), (2, .int x2), (3, .int (I5 59 10))]) dX11_takes_41 rfl rfl rfl ?_
    refine gx_aload_n 0 dX11_takes_42 rfl rfl ?_
    refine gx_geti 11 11 (v := (I5 59 11)) dX11_takes_43 fl_X11_109 rfl rfl rfl ?_
    refine gx_if_ne 53 dX11_takes_46 (by decide) ⟨fun z => ?_, fun z => ?_⟩
    · replace h := h.1 z
      refine gx_aload_n 0 dX11_takes_49 rfl rfl ?_
      refine gx_callV 11 (As := []) (st := []) dX11_takes_50 ml_X11_118 mm_X11_next rfl rfl rfl rfl rfl rfl ⟨rfl, rfl⟩ h (fun v h2 hq => ?_)
      clear h
      obtain ⟨I8, L9, c10, rfl, rfl, h⟩ := hq
      show Z_M_takes g Q 53 [(0, .ref 59), (1, .int x1), (2, .int x2), (3, .int (I5 59 10))] [] I8 L9 c10
      refine gx_iload_n 3 dX11_takes_53 rfl rfl ?_
      exact gx_iret dX11_takes_54 rfl rfl rfl ⟨_, _, _, _, rfl, rfl, h⟩
    · replace h := h.2 z
      refine gx_iload_n 3 dX11_takes_53 rfl rfl ?_
      exact gx_iret dX11_takes_54 rfl rfl rfl ⟨_, _, _, _, rfl, rfl, h⟩
  · replace h := h.2 (gm_bn0 z)
    refine gx_aload_n 0 dX11_takes_17 rfl rfl ?_
    refine gx_geti 11 10 (v := (I1 59 10)) dX11_takes_18 fl_X11_106 rfl rfl rfl ?_
    refine gx_i2l dX11_takes_21 ?_
    refine gx_iload_n 1 dX11_takes_22 rfl rfl ?_
    refine gx_i2l dX11_takes_23 ?_
    refine gx_iload_n 2 dX11_takes_24 rfl rfl ?_
    refine gx_i2l dX11_takes_25 ?_
    refine gx_callS (As := [.long (Int32.toInt64 (I1 59 10)), .long (Int32.toInt64 x1), .long (Int32.toInt64 x2)]) (st := []) dX11_takes_26 ml_X11_125 mm_X11_within rfl rfl rfl rfl ⟨rfl, rfl⟩ h (fun v h2 hq => ?_)
    clear h
    obtain ⟨b14, I11, L12, c13, rfl, rfl, h⟩ := hq
    show Z_M_takes g Q 29 [(0, .ref 59), (1, .int x1), (2, .int x2)] [.int (gm_b b14)] I11 L12 c13
    refine gx_if_ne 37 dX11_takes_29 (by decide) ⟨fun z => ?_, fun z => ?_⟩
    · replace h := h.1 (gm_b0.mp z)
      refine gx_aload_n 0 dX11_takes_32 rfl rfl ?_
      refine gx_iconst (v := 3) dX11_takes_33 (by decide) ?_
      refine gx_callV 11 (As := [.int 3]) (st := []) dX11_takes_34 ml_X11_121 mm_X11_fails rfl rfl rfl rfl rfl rfl ⟨rfl, rfl⟩ h (fun v h2 hq => ?_)
      clear h
      obtain ⟨I15, L16, c17, rfl, rfl, h⟩ := hq
      show Z_M_takes g Q 37 [(0, .ref 59), (1, .int x1), (2, .int x2)] [] I15 L16 c17
      refine gx_aload_n 0 dX11_takes_37 rfl rfl ?_
      refine gx_geti 11 10 (v := (I15 59 10)) dX11_takes_38 fl_X11_106 rfl rfl rfl ?_
      refine gx_istore_n (lv' := [(0, .ref 59), (1, .int x1), (2, .int x2), (3, .int (I15 59 10))]) dX11_takes_41 rfl rfl rfl ?_
      refine gx_aload_n 0 dX11_takes_42 rfl rfl ?_
      refine gx_geti 11 11 (v := (I15 59 11)) dX11_takes_43 fl_X11_109 rfl rfl rfl ?_
      refine gx_if_ne 53 dX11_takes_46 (by decide) ⟨fun z => ?_, fun z => ?_⟩
      · replace h := h.1 z
        refine gx_aload_n 0 dX11_takes_49 rfl rfl ?_
        refine gx_callV 11 (As := []) (st := []) dX11_takes_50 ml_X11_118 mm_X11_next rfl rfl rfl rfl rfl rfl ⟨rfl, rfl⟩ h (fun v h2 hq => ?_)
        clear h
        obtain ⟨I18, L19, c20, rfl, rfl, h⟩ := hq
        show Z_M_takes g Q 53 [(0, .ref 59), (1, .int x1), (2, .int x2), (3, .int (I15 59 10))] [] I18 L19 c20
        refine gx_iload_n 3 dX11_takes_53 rfl rfl ?_
        exact gx_iret dX11_takes_54 rfl rfl rfl ⟨_, _, _, _, rfl, rfl, h⟩
      · replace h := h.2 z
        refine gx_iload_n 3 dX11_takes_53 rfl rfl ?_
        exact gx_iret dX11_takes_54 rfl rfl rfl ⟨_, _, _, _, rfl, rfl, h⟩
    · replace h := h.2 (gm_bn0 z)
      refine gx_aload_n 0 dX11_takes_37 rfl rfl ?_
      refine gx_geti 11 10 (v := (I11 59 10)) dX11_takes_38 fl_X11_106 rfl rfl rfl ?_
      refine gx_istore_n (lv' := [(0, .ref 59), (1, .int x1), (2, .int x2), (3, .int (I11 59 10))]) dX11_takes_41 rfl rfl rfl ?_
      refine gx_aload_n 0 dX11_takes_42 rfl rfl ?_
      refine gx_geti 11 11 (v := (I11 59 11)) dX11_takes_43 fl_X11_109 rfl rfl rfl ?_
      refine gx_if_ne 53 dX11_takes_46 (by decide) ⟨fun z => ?_, fun z => ?_⟩
      · replace h := h.1 z
        refine gx_aload_n 0 dX11_takes_49 rfl rfl ?_
        refine gx_callV 11 (As := []) (st := []) dX11_takes_50 ml_X11_118 mm_X11_next rfl rfl rfl rfl rfl rfl ⟨rfl, rfl⟩ h (fun v h2 hq => ?_)
        clear h
        obtain ⟨I21, L22, c23, rfl, rfl, h⟩ := hq
        show Z_M_takes g Q 53 [(0, .ref 59), (1, .int x1), (2, .int x2), (3, .int (I11 59 10))] [] I21 L22 c23
        refine gx_iload_n 3 dX11_takes_53 rfl rfl ?_
        exact gx_iret dX11_takes_54 rfl rfl rfl ⟨_, _, _, _, rfl, rfl, h⟩
      · replace h := h.2 z
        refine gx_iload_n 3 dX11_takes_53 rfl rfl ?_
        exact gx_iret dX11_takes_54 rfl rfl rfl ⟨_, _, _, _, rfl, rfl, h⟩
abbrev Z_M_readGuesser (g : gm_G) (Q : mI → mL → gm_cfg → Prop) (pc : Nat) (lv : List (Nat × Value)) (st : List Value) (I : mI) (L : mL) (c : gm_cfg) : Prop := gm_X g RX11 "readGuesser" cX11_readGuesser 5 none 8 0 0 (qV Q) 0 0 pc lv st (SH, I, L, RR c)
abbrev C_M_readGuesser (g : gm_G) (I : mI) (L : mL) (c : gm_cfg) (Q : mI → mL → gm_cfg → Prop) : Prop := gm_Met g yX11_readGuesser cX11_readGuesser 5 none 8 0 0 [.ref 59] (SH, I, L, RR c) (qV Q)
set_option maxRecDepth 100000 in
theorem e_M_readGuesser {g : gm_G} {Q : mI → mL → gm_cfg → Prop} {I : mI} {L : mL} {c : gm_cfg} (h : (((I 63 0) = 6 → (C_M_fails g 4 I L c (fun I1 L2 c3 => (((I1 59 11) = 0 → (C_M_next g I1 L2 c3 (fun I4 L5 c6 => (C_M_takes g 1 200 I4 L5 c6 (fun r10 I7 L8 c9 => (C_M_takes g 0 20 I7 L8 c9 (fun r14 I11 L12 c13 => (C_M_eats g 3 I11 L12 c13 (fun b18 I15 L16 c17 => ((b18 = false → (((I15 59 11) = 0 → (vp_in (11 + (I 63 0)) 110 ∧ (vp_in (17 + (I 63 0)) 110 ∧ (vp_in (23 + (I 63 0)) 110 ∧ Q (gm_u (gm_u (gm_u (gm_u I15 63 (Int32.toNatClampNeg (11 + (I 63 0))) r10) 63 (Int32.toNatClampNeg (17 + (I 63 0))) r14) 63 (Int32.toNatClampNeg (23 + (I 63 0))) 0) 63 0 (((gm_u (gm_u (gm_u I15 63 (Int32.toNatClampNeg (11 + (I 63 0))) r10) 63 (Int32.toNatClampNeg (17 + (I 63 0))) r14) 63 (Int32.toNatClampNeg (23 + (I 63 0))) 0) 63 0) + 1)) L16 c17)))) ∧ (¬ (I15 59 11) = 0 → Q I15 L16 c17))) ∧ (b18 = true → (C_M_takes g 0 10 I15 L16 c17 (fun r22 I19 L20 c21 => (((I19 59 11) = 0 → (vp_in (11 + (I 63 0)) 110 ∧ (vp_in (17 + (I 63 0)) 110 ∧ (vp_in (23 + (I 63 0)) 110 ∧ Q (gm_u (gm_u (gm_u (gm_u I19 63 (Int32.toNatClampNeg (11 + (I 63 0))) r10) 63 (Int32.toNatClampNeg (17 + (I 63 0))) r14) 63 (Int32.toNatClampNeg (23 + (I 63 0))) r22) 63 0 (((gm_u (gm_u (gm_u I19 63 (Int32.toNatClampNeg (11 + (I 63 0))) r10) 63 (Int32.toNatClampNeg (17 + (I 63 0))) r14) 63 (Int32.toNatClampNeg (23 + (I 63 0))) r22) 63 0) + 1)) L20 c21)))) ∧ (¬ (I19 59 11) = 0 → Q I19 L20 c21))))))))))))))) ∧ (¬ (I1 59 11) = 0 → Q I1 L2 c3))))) ∧ (¬ (I 63 0) = 6 → (((I 59 11) = 0 → (C_M_next g I L c (fun I23 L24 c25 => (C_M_takes g 1 200 I23 L24 c25 (fun r29 I26 L27 c28 => (C_M_takes g 0 20 I26 L27 c28 (fun r33 I30 L31 c32 => (C_M_eats g 3 I30 L31 c32 (fun b37 I34 L35 c36 => ((b37 = false → (((I34 59 11) = 0 → (vp_in (11 + (I 63 0)) 110 ∧ (vp_in (17 + (I 63 0)) 110 ∧ (vp_in (23 + (I 63 0)) 110 ∧ Q (gm_u (gm_u (gm_u (gm_u I34 63 (Int32.toNatClampNeg (11 + (I 63 0))) r29) 63 (Int32.toNatClampNeg (17 + (I 63 0))) r33) 63 (Int32.toNatClampNeg (23 + (I 63 0))) 0) 63 0 (((gm_u (gm_u (gm_u I34 63 (Int32.toNatClampNeg (11 + (I 63 0))) r29) 63 (Int32.toNatClampNeg (17 + (I 63 0))) r33) 63 (Int32.toNatClampNeg (23 + (I 63 0))) 0) 63 0) + 1)) L35 c36)))) ∧ (¬ (I34 59 11) = 0 → Q I34 L35 c36))) ∧ (b37 = true → (C_M_takes g 0 10 I34 L35 c36 (fun r41 I38 L39 c40 => (((I38 59 11) = 0 → (vp_in (11 + (I 63 0)) 110 ∧ (vp_in (17 + (I 63 0)) 110 ∧ (vp_in (23 + (I 63 0)) 110 ∧ Q (gm_u (gm_u (gm_u (gm_u I38 63 (Int32.toNatClampNeg (11 + (I 63 0))) r29) 63 (Int32.toNatClampNeg (17 + (I 63 0))) r33) 63 (Int32.toNatClampNeg (23 + (I 63 0))) r41) 63 0 (((gm_u (gm_u (gm_u I38 63 (Int32.toNatClampNeg (11 + (I 63 0))) r29) 63 (Int32.toNatClampNeg (17 + (I 63 0))) r33) 63 (Int32.toNatClampNeg (23 + (I 63 0))) r41) 63 0) + 1)) L39 c40)))) ∧ (¬ (I38 59 11) = 0 → Q I38 L39 c40))))))))))))))) ∧ (¬ (I 59 11) = 0 → Q I L c))))) : C_M_readGuesser g  I L c Q := by
  refine gm_enter (lv := [(0, .ref 59)]) (by decide) rfl rfl rfl rfl ?_
  show Z_M_readGuesser g Q 0 [(0, .ref 59)] [] I L c
  refine gx_aload_n 0 dX11_readGuesser_0 rfl rfl ?_
  refine gx_getr 11 4 (v := 63) dX11_readGuesser_1 fl_X11_24 rfl rfl rfl ?_
  refine gx_iconst (v := 0) dX11_readGuesser_4 (by decide) ?_
  refine gx_iald (v := (I 63 0)) dX11_readGuesser_5 rfl rfl (gm_vin rfl) (k := 0) rfl rfl ?_
  refine gx_istore_n (lv' := [(0, .ref 59), (1, .int (I 63 0))]) dX11_readGuesser_6 rfl rfl rfl ?_
  refine gx_iload_n 1 dX11_readGuesser_7 rfl rfl ?_
  refine gx_bipush (v := 6) dX11_readGuesser_8 (by decide) ?_
  refine gx_icmp_ne 18 dX11_readGuesser_10 (by decide) ⟨fun z => ?_, fun z => ?_⟩
  · replace h := h.1 z
    refine gx_aload_n 0 dX11_readGuesser_13 rfl rfl ?_
    refine gx_iconst (v := 4) dX11_readGuesser_14 (by decide) ?_
    refine gx_callV 11 (As := [.int 4]) (st := []) dX11_readGuesser_15 ml_X11_121 mm_X11_fails rfl rfl rfl rfl rfl rfl ⟨rfl, rfl⟩ h (fun v h2 hq => ?_)
    clear h
    obtain ⟨I1, L2, c3, rfl, rfl, h⟩ := hq
    show Z_M_readGuesser g Q 18 [(0, .ref 59), (1, .int (I 63 0))] [] I1 L2 c3
    refine gx_aload_n 0 dX11_readGuesser_18 rfl rfl ?_
    refine gx_geti 11 11 (v := (I1 59 11)) dX11_readGuesser_19 fl_X11_109 rfl rfl rfl ?_
    refine gx_if_eq 26 dX11_readGuesser_22 (by decide) ⟨fun z => ?_, fun z => ?_⟩
    · replace h := h.1 z
      refine gx_aload_n 0 dX11_readGuesser_26 rfl rfl ?_
      refine gx_callV 11 (As := []) (st := []) dX11_readGuesser_27 ml_X11_118 mm_X11_next rfl rfl rfl rfl rfl rfl ⟨rfl, rfl⟩ h (fun v h2 hq => ?_)
      clear h
      obtain ⟨I4, L5, c6, rfl, rfl, h⟩ := hq
      show Z_M_readGuesser g Q 30 [(0, .ref 59), (1, .int (I 63 0))] [] I4 L5 c6
      refine gx_aload_n 0 dX11_readGuesser_30 rfl rfl ?_
      refine gx_iconst (v := 1) dX11_readGuesser_31 (by decide) ?_
      refine gx_sipush (v := 200) dX11_readGuesser_32 (by decide) ?_
      refine gx_callV 11 (As := [.int 1, .int 200]) (st := []) dX11_readGuesser_35 ml_X11_129 mm_X11_takes rfl rfl rfl rfl rfl rfl ⟨rfl, rfl⟩ h (fun v h2 hq => ?_)
      clear h
      obtain ⟨r10, I7, L8, c9, rfl, rfl, h⟩ := hq
      show Z_M_readGuesser g Q 38 [(0, .ref 59), (1, .int (I 63 0))] [.int r10] I7 L8 c9
      refine gx_istore_n (lv' := [(0, .ref 59), (1, .int (I 63 0)), (2, .int r10)]) dX11_readGuesser_38 rfl rfl rfl ?_
      refine gx_aload_n 0 dX11_readGuesser_39 rfl rfl ?_
      refine gx_iconst (v := 0) dX11_readGuesser_40 (by decide) ?_
      refine gx_bipush (v := 20) dX11_readGuesser_41 (by decide) ?_
      refine gx_callV 11 (As := [.int 0, .int 20]) (st := []) dX11_readGuesser_43 ml_X11_129 mm_X11_takes rfl rfl rfl rfl rfl rfl ⟨rfl, rfl⟩ h (fun v h2 hq => ?_)
      clear h
      obtain ⟨r14, I11, L12, c13, rfl, rfl, h⟩ := hq
      show Z_M_readGuesser g Q 46 [(0, .ref 59), (1, .int (I 63 0)), (2, .int r10)] [.int r14] I11 L12 c13
      refine gx_istore_n (lv' := [(0, .ref 59), (1, .int (I 63 0)), (2, .int r10), (3, .int r14)]) dX11_readGuesser_46 rfl rfl rfl ?_
      refine gx_aload_n 0 dX11_readGuesser_47 rfl rfl ?_
      refine gx_iconst (v := 3) dX11_readGuesser_48 (by decide) ?_
      refine gx_callV 11 (As := [.int 3]) (st := []) dX11_readGuesser_49 ml_X11_133 mm_X11_eats rfl rfl rfl rfl rfl rfl ⟨rfl, rfl⟩ h (fun v h2 hq => ?_)
      clear h
      obtain ⟨b18, I15, L16, c17, rfl, rfl, h⟩ := hq
      show Z_M_readGuesser g Q 52 [(0, .ref 59), (1, .int (I 63 0)), (2, .int r10), (3, .int r14)] [.int (gm_b b18)] I15 L16 c17
      refine gx_if_eq 65 dX11_readGuesser_52 (by decide) ⟨fun z => ?_, fun z => ?_⟩
      · replace h := h.1 (gm_b0.mp z)
        refine gx_iconst (v := 0) dX11_readGuesser_65 (by decide) ?_
        refine gx_istore (lv' := [(0, .ref 59), (1, .int (I 63 0)), (2, .int r10), (3, .int r14), (4, .int 0)]) dX11_readGuesser_66 rfl rfl ?_
        refine gx_aload_n 0 dX11_readGuesser_68 rfl rfl ?_
        refine gx_geti 11 11 (v := (I15 59 11)) dX11_readGuesser_69 fl_X11_109 rfl rfl rfl ?_
        refine gx_if_eq 76 dX11_readGuesser_72 (by decide) ⟨fun z => ?_, fun z => ?_⟩
        · replace h := h.1 z
          refine gx_aload_n 0 dX11_readGuesser_76 rfl rfl ?_
          refine gx_getr 11 4 (v := 63) dX11_readGuesser_77 fl_X11_24 rfl rfl rfl ?_
          refine gx_bipush (v := 11) dX11_readGuesser_80 (by decide) ?_
          refine gx_iload_n 1 dX11_readGuesser_82 rfl rfl ?_
          refine gx_iadd dX11_readGuesser_83 ?_
          refine gx_iload_n 2 dX11_readGuesser_84 rfl rfl ?_
          obtain ⟨hi, h⟩ := h
          refine gx_iast dX11_readGuesser_85 rfl rfl hi (k := (Int32.toNatClampNeg (11 + (I 63 0)))) rfl ?_
          show Z_M_readGuesser g Q 86 [(0, .ref 59), (1, .int (I 63 0)), (2, .int r10), (3, .int r14), (4, .int 0)] [] (gm_u I15 63 (Int32.toNatClampNeg (11 + (I 63 0))) r10) L16 c17
          refine gx_aload_n 0 dX11_readGuesser_86 rfl rfl ?_
          refine gx_getr 11 4 (v := 63) dX11_readGuesser_87 fl_X11_24 rfl rfl rfl ?_
          refine gx_bipush (v := 17) dX11_readGuesser_90 (by decide) ?_
          refine gx_iload_n 1 dX11_readGuesser_92 rfl rfl ?_
          refine gx_iadd dX11_readGuesser_93 ?_
          refine gx_iload_n 3 dX11_readGuesser_94 rfl rfl ?_
          obtain ⟨hi, h⟩ := h
          refine gx_iast dX11_readGuesser_95 rfl rfl hi (k := (Int32.toNatClampNeg (17 + (I 63 0)))) rfl ?_
          show Z_M_readGuesser g Q 96 [(0, .ref 59), (1, .int (I 63 0)), (2, .int r10), (3, .int r14), (4, .int 0)] [] (gm_u (gm_u I15 63 (Int32.toNatClampNeg (11 + (I 63 0))) r10) 63 (Int32.toNatClampNeg (17 + (I 63 0))) r14) L16 c17
          refine gx_aload_n 0 dX11_readGuesser_96 rfl rfl ?_
          refine gx_getr 11 4 (v := 63) dX11_readGuesser_97 fl_X11_24 rfl rfl rfl ?_
          refine gx_bipush (v := 23) dX11_readGuesser_100 (by decide) ?_
          refine gx_iload_n 1 dX11_readGuesser_102 rfl rfl ?_
          refine gx_iadd dX11_readGuesser_103 ?_
          refine gx_iload 4 dX11_readGuesser_104 rfl ?_
          obtain ⟨hi, h⟩ := h
          refine gx_iast dX11_readGuesser_106 rfl rfl hi (k := (Int32.toNatClampNeg (23 + (I 63 0)))) rfl ?_
          show Z_M_readGuesser g Q 107 [(0, .ref 59), (1, .int (I 63 0)), (2, .int r10), (3, .int r14), (4, .int 0)] [] (gm_u (gm_u (gm_u I15 63 (Int32.toNatClampNeg (11 + (I 63 0))) r10) 63 (Int32.toNatClampNeg (17 + (I 63 0))) r14) 63 (Int32.toNatClampNeg (23 + (I 63 0))) 0) L16 c17
          refine gx_aload_n 0 dX11_readGuesser_107 rfl rfl ?_
          refine gx_getr 11 4 (v := 63) dX11_readGuesser_108 fl_X11_24 rfl rfl rfl ?_
          refine gx_iconst (v := 0) dX11_readGuesser_111 (by decide) ?_
          refine gx_dup2 dX11_readGuesser_112 rfl rfl ?_
          refine gx_iald (v := ((gm_u (gm_u (gm_u I15 63 (Int32.toNatClampNeg (11 + (I 63 0))) r10) 63 (Int32.toNatClampNeg (17 + (I 63 0))) r14) 63 (Int32.toNatClampNeg (23 + (I 63 0))) 0) 63 0)) dX11_readGuesser_113 rfl rfl (gm_vin rfl) (k := 0) rfl rfl ?_
          refine gx_iconst (v := 1) dX11_readGuesser_114 (by decide) ?_
          refine gx_iadd dX11_readGuesser_115 ?_
          refine gx_iast dX11_readGuesser_116 rfl rfl (gm_vin rfl) (k := 0) rfl ?_
          show Z_M_readGuesser g Q 117 [(0, .ref 59), (1, .int (I 63 0)), (2, .int r10), (3, .int r14), (4, .int 0)] [] (gm_u (gm_u (gm_u (gm_u I15 63 (Int32.toNatClampNeg (11 + (I 63 0))) r10) 63 (Int32.toNatClampNeg (17 + (I 63 0))) r14) 63 (Int32.toNatClampNeg (23 + (I 63 0))) 0) 63 0 (((gm_u (gm_u (gm_u I15 63 (Int32.toNatClampNeg (11 + (I 63 0))) r10) 63 (Int32.toNatClampNeg (17 + (I 63 0))) r14) 63 (Int32.toNatClampNeg (23 + (I 63 0))) 0) 63 0) + 1)) L16 c17
          exact gx_vret dX11_readGuesser_117 rfl rfl rfl ⟨_, _, _, rfl, rfl, h⟩
        · replace h := h.2 z
          exact gx_vret dX11_readGuesser_75 rfl rfl rfl ⟨_, _, _, rfl, rfl, h⟩
      · replace h := h.2 (gm_bn0 z)
        refine gx_aload_n 0 dX11_readGuesser_55 rfl rfl ?_
        refine gx_iconst (v := 0) dX11_readGuesser_56 (by decide) ?_
        refine gx_bipush (v := 10) dX11_readGuesser_57 (by decide) ?_
        refine gx_callV 11 (As := [.int 0, .int 10]) (st := []) dX11_readGuesser_59 ml_X11_129 mm_X11_takes rfl rfl rfl rfl rfl rfl ⟨rfl, rfl⟩ h (fun v h2 hq => ?_)
        clear h
        obtain ⟨r22, I19, L20, c21, rfl, rfl, h⟩ := hq
        show Z_M_readGuesser g Q 62 [(0, .ref 59), (1, .int (I 63 0)), (2, .int r10), (3, .int r14)] [.int r22] I19 L20 c21
        refine gx_goto 66 dX11_readGuesser_62 (by decide) ?_
        refine gx_istore (lv' := [(0, .ref 59), (1, .int (I 63 0)), (2, .int r10), (3, .int r14), (4, .int r22)]) dX11_readGuesser_66 rfl rfl ?_
        refine gx_aload_n 0 dX11_readGuesser_68 rfl rfl ?_
        refine gx_geti 11 11 (v := (I19 59 11)) dX11_readGuesser_69 fl_X11_109 rfl rfl rfl ?_
        refine gx_if_eq 76 dX11_readGuesser_72 (by decide) ⟨fun z => ?_, fun z => ?_⟩
        · replace h := h.1 z
          refine gx_aload_n 0 dX11_readGuesser_76 rfl rfl ?_
          refine gx_getr 11 4 (v := 63) dX11_readGuesser_77 fl_X11_24 rfl rfl rfl ?_
          refine gx_bipush (v := 11) dX11_readGuesser_80 (by decide) ?_
          refine gx_iload_n 1 dX11_readGuesser_82 rfl rfl ?_
          refine gx_iadd dX11_readGuesser_83 ?_
          refine gx_iload_n 2 dX11_readGuesser_84 rfl rfl ?_
          obtain ⟨hi, h⟩ := h
          refine gx_iast dX11_readGuesser_85 rfl rfl hi (k := (Int32.toNatClampNeg (11 + (I 63 0)))) rfl ?_
          show Z_M_readGuesser g Q 86 [(0, .ref 59), (1, .int (I 63 0)), (2, .int r10), (3, .int r14), (4, .int r22)] [] (gm_u I19 63 (Int32.toNatClampNeg (11 + (I 63 0))) r10) L20 c21
          refine gx_aload_n 0 dX11_readGuesser_86 rfl rfl ?_
          refine gx_getr 11 4 (v := 63) dX11_readGuesser_87 fl_X11_24 rfl rfl rfl ?_
          refine gx_bipush (v := 17) dX11_readGuesser_90 (by decide) ?_
          refine gx_iload_n 1 dX11_readGuesser_92 rfl rfl ?_
          refine gx_iadd dX11_readGuesser_93 ?_
          refine gx_iload_n 3 dX11_readGuesser_94 rfl rfl ?_
          obtain ⟨hi, h⟩ := h
          refine gx_iast dX11_readGuesser_95 rfl rfl hi (k := (Int32.toNatClampNeg (17 + (I 63 0)))) rfl ?_
          show Z_M_readGuesser g Q 96 [(0, .ref 59), (1, .int (I 63 0)), (2, .int r10), (3, .int r14), (4, .int r22)] [] (gm_u (gm_u I19 63 (Int32.toNatClampNeg (11 + (I 63 0))) r10) 63 (Int32.toNatClampNeg (17 + (I 63 0))) r14) L20 c21
          refine gx_aload_n 0 dX11_readGuesser_96 rfl rfl ?_
          refine gx_getr 11 4 (v := 63) dX11_readGuesser_97 fl_X11_24 rfl rfl rfl ?_
          refine gx_bipush (v := 23) dX11_readGuesser_100 (by decide) ?_
          refine gx_iload_n 1 dX11_readGuesser_102 rfl rfl ?_
          refine gx_iadd dX11_readGuesser_103 ?_
          refine gx_iload 4 dX11_readGuesser_104 rfl ?_
          obtain ⟨hi, h⟩ := h
          refine gx_iast dX11_readGuesser_106 rfl rfl hi (k := (Int32.toNatClampNeg (23 + (I 63 0)))) rfl ?_
          show Z_M_readGuesser g Q 107 [(0, .ref 59), (1, .int (I 63 0)), (2, .int r10), (3, .int r14), (4, .int r22)] [] (gm_u (gm_u (gm_u I19 63 (Int32.toNatClampNeg (11 + (I 63 0))) r10) 63 (Int32.toNatClampNeg (17 + (I 63 0))) r14) 63 (Int32.toNatClampNeg (23 + (I 63 0))) r22) L20 c21
          refine gx_aload_n 0 dX11_readGuesser_107 rfl rfl ?_
          refine gx_getr 11 4 (v := 63) dX11_readGuesser_108 fl_X11_24 rfl rfl rfl ?_
          refine gx_iconst (v := 0) dX11_readGuesser_111 (by decide) ?_
          refine gx_dup2 dX11_readGuesser_112 rfl rfl ?_
          refine gx_iald (v := ((gm_u (gm_u (gm_u I19 63 (Int32.toNatClampNeg (11 + (I 63 0))) r10) 63 (Int32.toNatClampNeg (17 + (I 63 0))) r14) 63 (Int32.toNatClampNeg (23 + (I 63 0))) r22) 63 0)) dX11_readGuesser_113 rfl rfl (gm_vin rfl) (k := 0) rfl rfl ?_
          refine gx_iconst (v := 1) dX11_readGuesser_114 (by decide) ?_
          refine gx_iadd dX11_readGuesser_115 ?_
          refine gx_iast dX11_readGuesser_116 rfl rfl (gm_vin rfl) (k := 0) rfl ?_
          show Z_M_readGuesser g Q 117 [(0, .ref 59), (1, .int (I 63 0)), (2, .int r10), (3, .int r14), (4, .int r22)] [] (gm_u (gm_u (gm_u (gm_u I19 63 (Int32.toNatClampNeg (11 + (I 63 0))) r10) 63 (Int32.toNatClampNeg (17 + (I 63 0))) r14) 63 (Int32.toNatClampNeg (23 + (I 63 0))) r22) 63 0 (((gm_u (gm_u (gm_u I19 63 (Int32.toNatClampNeg (11 + (I 63 0))) r10) 63 (Int32.toNatClampNeg (17 + (I 63 0))) r14) 63 (Int32.toNatClampNeg (23 + (I 63 0))) r22) 63 0) + 1)) L20 c21
          exact gx_vret dX11_readGuesser_117 rfl rfl rfl ⟨_, _, _, rfl, rfl, h⟩
        · replace h := h.2 z
          exact gx_vret dX11_readGuesser_75 rfl rfl rfl ⟨_, _, _, rfl, rfl, h⟩
    · replace h := h.2 z
      exact gx_vret dX11_readGuesser_25 rfl rfl rfl ⟨_, _, _, rfl, rfl, h⟩
  · replace h := h.2 z
    refine gx_aload_n 0 dX11_readGuesser_18 rfl rfl ?_
    refine gx_geti 11 11 (v := (I 59 11)) dX11_readGuesser_19 fl_X11_109 rfl rfl rfl ?_
    refine gx_if_eq 26 dX11_readGuesser_22 (by decide) ⟨fun z => ?_, fun z => ?_⟩
    · replace h := h.1 z
      refine gx_aload_n 0 dX11_readGuesser_26 rfl rfl ?_
      refine gx_callV 11 (As := []) (st := []) dX11_readGuesser_27 ml_X11_118 mm_X11_next rfl rfl rfl rfl rfl rfl ⟨rfl, rfl⟩ h (fun v h2 hq => ?_)
      clear h
      obtain ⟨I23, L24, c25, rfl, rfl, h⟩ := hq
      show Z_M_readGuesser g Q 30 [(0, .ref 59), (1, .int (I 63 0))] [] I23 L24 c25
      refine gx_aload_n 0 dX11_readGuesser_30 rfl rfl ?_
      refine gx_iconst (v := 1) dX11_readGuesser_31 (by decide) ?_
      refine gx_sipush (v := 200) dX11_readGuesser_32 (by decide) ?_
      refine gx_callV 11 (As := [.int 1, .int 200]) (st := []) dX11_readGuesser_35 ml_X11_129 mm_X11_takes rfl rfl rfl rfl rfl rfl ⟨rfl, rfl⟩ h (fun v h2 hq => ?_)
      clear h
      obtain ⟨r29, I26, L27, c28, rfl, rfl, h⟩ := hq
      show Z_M_readGuesser g Q 38 [(0, .ref 59), (1, .int (I 63 0))] [.int r29] I26 L27 c28
      refine gx_istore_n (lv' := [(0, .ref 59), (1, .int (I 63 0)), (2, .int r29)]) dX11_readGuesser_38 rfl rfl rfl ?_
      refine gx_aload_n 0 dX11_readGuesser_39 rfl rfl ?_
      refine gx_iconst (v := 0) dX11_readGuesser_40 (by decide) ?_
      refine gx_bipush (v := 20) dX11_readGuesser_41 (by decide) ?_
      refine gx_callV 11 (As := [.int 0, .int 20]) (st := []) dX11_readGuesser_43 ml_X11_129 mm_X11_takes rfl rfl rfl rfl rfl rfl ⟨rfl, rfl⟩ h (fun v h2 hq => ?_)
      clear h
      obtain ⟨r33, I30, L31, c32, rfl, rfl, h⟩ := hq
      show Z_M_readGuesser g Q 46 [(0, .ref 59), (1, .int (I 63 0)), (2, .int r29)] [.int r33] I30 L31 c32
      refine gx_istore_n (lv' := [(0, .ref 59), (1, .int (I 63 0)), (2, .int r29), (3, .int r33)]) dX11_readGuesser_46 rfl rfl rfl ?_
      refine gx_aload_n 0 dX11_readGuesser_47 rfl rfl ?_
      refine gx_iconst (v := 3) dX11_readGuesser_48 (by decide) ?_
      refine gx_callV 11 (As := [.int 3]) (st := []) dX11_readGuesser_49 ml_X11_133 mm_X11_eats rfl rfl rfl rfl rfl rfl ⟨rfl, rfl⟩ h (fun v h2 hq => ?_)
      clear h
      obtain ⟨b37, I34, L35, c36, rfl, rfl, h⟩ := hq
      show Z_M_readGuesser g Q 52 [(0, .ref 59), (1, .int (I 63 0)), (2, .int r29), (3, .int r33)] [.int (gm_b b37)] I34 L35 c36
      refine gx_if_eq 65 dX11_readGuesser_52 (by decide) ⟨fun z => ?_, fun z => ?_⟩
      · replace h := h.1 (gm_b0.mp z)
        refine gx_iconst (v := 0) dX11_readGuesser_65 (by decide) ?_
        refine gx_istore (lv' := [(0, .ref 59), (1, .int (I 63 0)), (2, .int r29), (3, .int r33), (4, .int 0)]) dX11_readGuesser_66 rfl rfl ?_
        refine gx_aload_n 0 dX11_readGuesser_68 rfl rfl ?_
        refine gx_geti 11 11 (v := (I34 59 11)) dX11_readGuesser_69 fl_X11_109 rfl rfl rfl ?_
        refine gx_if_eq 76 dX11_readGuesser_72 (by decide) ⟨fun z => ?_, fun z => ?_⟩
        · replace h := h.1 z
          refine gx_aload_n 0 dX11_readGuesser_76 rfl rfl ?_
          refine gx_getr 11 4 (v := 63) dX11_readGuesser_77 fl_X11_24 rfl rfl rfl ?_
          refine gx_bipush (v := 11) dX11_readGuesser_80 (by decide) ?_
          refine gx_iload_n 1 dX11_readGuesser_82 rfl rfl ?_
          refine gx_iadd dX11_readGuesser_83 ?_
          refine gx_iload_n 2 dX11_readGuesser_84 rfl rfl ?_
          obtain ⟨hi, h⟩ := h
          refine gx_iast dX11_readGuesser_85 rfl rfl hi (k := (Int32.toNatClampNeg (11 + (I 63 0)))) rfl ?_
          show Z_M_readGuesser g Q 86 [(0, .ref 59), (1, .int (I 63 0)), (2, .int r29), (3, .int r33), (4, .int 0)] [] (gm_u I34 63 (Int32.toNatClampNeg (11 + (I 63 0))) r29) L35 c36
          refine gx_aload_n 0 dX11_readGuesser_86 rfl rfl ?_
          refine gx_getr 11 4 (v := 63) dX11_readGuesser_87 fl_X11_24 rfl rfl rfl ?_
          refine gx_bipush (v := 17) dX11_readGuesser_90 (by decide) ?_
          refine gx_iload_n 1 dX11_readGuesser_92 rfl rfl ?_
          refine gx_iadd dX11_readGuesser_93 ?_
          refine gx_iload_n 3 dX11_readGuesser_94 rfl rfl ?_
          obtain ⟨hi, h⟩ := h
          refine gx_iast dX11_readGuesser_95 rfl rfl hi (k := (Int32.toNatClampNeg (17 + (I 63 0)))) rfl ?_
          show Z_M_readGuesser g Q 96 [(0, .ref 59), (1, .int (I 63 0)), (2, .int r29), (3, .int r33), (4, .int 0)] [] (gm_u (gm_u I34 63 (Int32.toNatClampNeg (11 + (I 63 0))) r29) 63 (Int32.toNatClampNeg (17 + (I 63 0))) r33) L35 c36
          refine gx_aload_n 0 dX11_readGuesser_96 rfl rfl ?_
          refine gx_getr 11 4 (v := 63) dX11_readGuesser_97 fl_X11_24 rfl rfl rfl ?_
          refine gx_bipush (v := 23) dX11_readGuesser_100 (by decide) ?_
          refine gx_iload_n 1 dX11_readGuesser_102 rfl rfl ?_
          refine gx_iadd dX11_readGuesser_103 ?_
          refine gx_iload 4 dX11_readGuesser_104 rfl ?_
          obtain ⟨hi, h⟩ := h
          refine gx_iast dX11_readGuesser_106 rfl rfl hi (k := (Int32.toNatClampNeg (23 + (I 63 0)))) rfl ?_
          show Z_M_readGuesser g Q 107 [(0, .ref 59), (1, .int (I 63 0)), (2, .int r29), (3, .int r33), (4, .int 0)] [] (gm_u (gm_u (gm_u I34 63 (Int32.toNatClampNeg (11 + (I 63 0))) r29) 63 (Int32.toNatClampNeg (17 + (I 63 0))) r33) 63 (Int32.toNatClampNeg (23 + (I 63 0))) 0) L35 c36
          refine gx_aload_n 0 dX11_readGuesser_107 rfl rfl ?_
          refine gx_getr 11 4 (v := 63) dX11_readGuesser_108 fl_X11_24 rfl rfl rfl ?_
          refine gx_iconst (v := 0) dX11_readGuesser_111 (by decide) ?_
          refine gx_dup2 dX11_readGuesser_112 rfl rfl ?_
          refine gx_iald (v := ((gm_u (gm_u (gm_u I34 63 (Int32.toNatClampNeg (11 + (I 63 0))) r29) 63 (Int32.toNatClampNeg (17 + (I 63 0))) r33) 63 (Int32.toNatClampNeg (23 + (I 63 0))) 0) 63 0)) dX11_readGuesser_113 rfl rfl (gm_vin rfl) (k := 0) rfl rfl ?_
          refine gx_iconst (v := 1) dX11_readGuesser_114 (by decide) ?_
          refine gx_iadd dX11_readGuesser_115 ?_
          refine gx_iast dX11_readGuesser_116 rfl rfl (gm_vin rfl) (k := 0) rfl ?_
          show Z_M_readGuesser g Q 117 [(0, .ref 59), (1, .int (I 63 0)), (2, .int r29), (3, .int r33), (4, .int 0)] [] (gm_u (gm_u (gm_u (gm_u I34 63 (Int32.toNatClampNeg (11 + (I 63 0))) r29) 63 (Int32.toNatClampNeg (17 + (I 63 0))) r33) 63 (Int32.toNatClampNeg (23 + (I 63 0))) 0) 63 0 (((gm_u (gm_u (gm_u I34 63 (Int32.toNatClampNeg (11 + (I 63 0))) r29) 63 (Int32.toNatClampNeg (17 + (I 63 0))) r33) 63 (Int32.toNatClampNeg (23 + (I 63 0))) 0) 63 0) + 1)) L35 c36
          exact gx_vret dX11_readGuesser_117 rfl rfl rfl ⟨_, _, _, rfl, rfl, h⟩
        · replace h := h.2 z
          exact gx_vret dX11_readGuesser_75 rfl rfl rfl ⟨_, _, _, rfl, rfl, h⟩
      · replace h := h.2 (gm_bn0 z)
        refine gx_aload_n 0 dX11_readGuesser_55 rfl rfl ?_
        refine gx_iconst (v := 0) dX11_readGuesser_56 (by decide) ?_
        refine gx_bipush (v := 10) dX11_readGuesser_57 (by decide) ?_
        refine gx_callV 11 (As := [.int 0, .int 10]) (st := []) dX11_readGuesser_59 ml_X11_129 mm_X11_takes rfl rfl rfl rfl rfl rfl ⟨rfl, rfl⟩ h (fun v h2 hq => ?_)
        clear h
        obtain ⟨r41, I38, L39, c40, rfl, rfl, h⟩ := hq
        show Z_M_readGuesser g Q 62 [(0, .ref 59), (1, .int (I 63 0)), (2, .int r29), (3, .int r33)] [.int r41] I38 L39 c40
        refine gx_goto 66 dX11_readGuesser_62 (by decide) ?_
        refine gx_istore (lv' := [(0, .ref 59), (1, .int (I 63 0)), (2, .int r29), (3, .int r33), (4, .int r41)]) dX11_readGuesser_66 rfl rfl ?_
        refine gx_aload_n 0 dX11_readGuesser_68 rfl rfl ?_
        refine gx_geti 11 11 (v := (I38 59 11)) dX11_readGuesser_69 fl_X11_109 rfl rfl rfl ?_
        refine gx_if_eq 76 dX11_readGuesser_72 (by decide) ⟨fun z => ?_, fun z => ?_⟩
        · replace h := h.1 z
          refine gx_aload_n 0 dX11_readGuesser_76 rfl rfl ?_
          refine gx_getr 11 4 (v := 63) dX11_readGuesser_77 fl_X11_24 rfl rfl rfl ?_
          refine gx_bipush (v := 11) dX11_readGuesser_80 (by decide) ?_
          refine gx_iload_n 1 dX11_readGuesser_82 rfl rfl ?_
          refine gx_iadd dX11_readGuesser_83 ?_
          refine gx_iload_n 2 dX11_readGuesser_84 rfl rfl ?_
          obtain ⟨hi, h⟩ := h
          refine gx_iast dX11_readGuesser_85 rfl rfl hi (k := (Int32.toNatClampNeg (11 + (I 63 0)))) rfl ?_
          show Z_M_readGuesser g Q 86 [(0, .ref 59), (1, .int (I 63 0)), (2, .int r29), (3, .int r33), (4, .int r41)] [] (gm_u I38 63 (Int32.toNatClampNeg (11 + (I 63 0))) r29) L39 c40
          refine gx_aload_n 0 dX11_readGuesser_86 rfl rfl ?_
          refine gx_getr 11 4 (v := 63) dX11_readGuesser_87 fl_X11_24 rfl rfl rfl ?_
          refine gx_bipush (v := 17) dX11_readGuesser_90 (by decide) ?_
          refine gx_iload_n 1 dX11_readGuesser_92 rfl rfl ?_
          refine gx_iadd dX11_readGuesser_93 ?_
          refine gx_iload_n 3 dX11_readGuesser_94 rfl rfl ?_
          obtain ⟨hi, h⟩ := h
          refine gx_iast dX11_readGuesser_95 rfl rfl hi (k := (Int32.toNatClampNeg (17 + (I 63 0)))) rfl ?_
          show Z_M_readGuesser g Q 96 [(0, .ref 59), (1, .int (I 63 0)), (2, .int r29), (3, .int r33), (4, .int r41)] [] (gm_u (gm_u I38 63 (Int32.toNatClampNeg (11 + (I 63 0))) r29) 63 (Int32.toNatClampNeg (17 + (I 63 0))) r33) L39 c40
          refine gx_aload_n 0 dX11_readGuesser_96 rfl rfl ?_
          refine gx_getr 11 4 (v := 63) dX11_readGuesser_97 fl_X11_24 rfl rfl rfl ?_
          refine gx_bipush (v := 23) dX11_readGuesser_100 (by decide) ?_
          refine gx_iload_n 1 dX11_readGuesser_102 rfl rfl ?_
          refine gx_iadd dX11_readGuesser_103 ?_
          refine gx_iload 4 dX11_readGuesser_104 rfl ?_
          obtain ⟨hi, h⟩ := h
          refine gx_iast dX11_readGuesser_106 rfl rfl hi (k := (Int32.toNatClampNeg (23 + (I 63 0)))) rfl ?_
          show Z_M_readGuesser g Q 107 [(0, .ref 59), (1, .int (I 63 0)), (2, .int r29), (3, .int r33), (4, .int r41)] [] (gm_u (gm_u (gm_u I38 63 (Int32.toNatClampNeg (11 + (I 63 0))) r29) 63 (Int32.toNatClampNeg (17 + (I 63 0))) r33) 63 (Int32.toNatClampNeg (23 + (I 63 0))) r41) L39 c40
          refine gx_aload_n 0 dX11_readGuesser_107 rfl rfl ?_
          refine gx_getr 11 4 (v := 63) dX11_readGuesser_108 fl_X11_24 rfl rfl rfl ?_
          refine gx_iconst (v := 0) dX11_readGuesser_111 (by decide) ?_
          refine gx_dup2 dX11_readGuesser_112 rfl rfl ?_
          refine gx_iald (v := ((gm_u (gm_u (gm_u I38 63 (Int32.toNatClampNeg (11 + (I 63 0))) r29) 63 (Int32.toNatClampNeg (17 + (I 63 0))) r33) 63 (Int32.toNatClampNeg (23 + (I 63 0))) r41) 63 0)) dX11_readGuesser_113 rfl rfl (gm_vin rfl) (k := 0) rfl rfl ?_
          refine gx_iconst (v := 1) dX11_readGuesser_114 (by decide) ?_
          refine gx_iadd dX11_readGuesser_115 ?_
          refine gx_iast dX11_readGuesser_116 rfl rfl (gm_vin rfl) (k := 0) rfl ?_
          show Z_M_readGuesser g Q 117 [(0, .ref 59), (1, .int (I 63 0)), (2, .int r29), (3, .int r33), (4, .int r41)] [] (gm_u (gm_u (gm_u (gm_u I38 63 (Int32.toNatClampNeg (11 + (I 63 0))) r29) 63 (Int32.toNatClampNeg (17 + (I 63 0))) r33) 63 (Int32.toNatClampNeg (23 + (I 63 0))) r41) 63 0 (((gm_u (gm_u (gm_u I38 63 (Int32.toNatClampNeg (11 + (I 63 0))) r29) 63 (Int32.toNatClampNeg (17 + (I 63 0))) r33) 63 (Int32.toNatClampNeg (23 + (I 63 0))) r41) 63 0) + 1)) L39 c40
          exact gx_vret dX11_readGuesser_117 rfl rfl rfl ⟨_, _, _, rfl, rfl, h⟩
        · replace h := h.2 z
          exact gx_vret dX11_readGuesser_75 rfl rfl rfl ⟨_, _, _, rfl, rfl, h⟩
    · replace h := h.2 z
      exact gx_vret dX11_readGuesser_25 rfl rfl rfl ⟨_, _, _, rfl, rfl, h⟩
abbrev Z_M_readLine (g : gm_G) (Q : mI → mL → gm_cfg → Prop) (pc : Nat) (lv : List (Nat × Value)) (st : List Value) (I : mI) (L : mL) (c : gm_cfg) : Prop := gm_X g RX11 "readLine" cX11_readLine 1 none 9 0 0 (qV Q) 0 0 pc lv st (SH, I, L, RR c)
abbrev C_M_readLine (g : gm_G) (I : mI) (L : mL) (c : gm_cfg) (Q : mI → mL → gm_cfg → Prop) : Prop := gm_Met g yX11_readLine cX11_readLine 1 none 9 0 0 [.ref 59] (SH, I, L, RR c) (qV Q)
set_option maxRecDepth 100000 in
theorem e_M_readLine {g : gm_G} {Q : mI → mL → gm_cfg → Prop} {I : mI} {L : mL} {c : gm_cfg} (h : (C_M_eats g 0 I L c (fun b4 I1 L2 c3 => ((b4 = false → (C_M_eats g 1 I1 L2 c3 (fun b8 I5 L6 c7 => ((b8 = false → (C_M_is g 2 I5 L6 c7 (fun b12 I9 L10 c11 => ((b12 = false → (C_M_eats g 4 I9 L10 c11 (fun b16 I13 L14 c15 => ((b16 = false → (C_M_eats g 5 I13 L14 c15 (fun b20 I17 L18 c19 => ((b20 = false → (C_M_eats g 6 I17 L18 c19 (fun b24 I21 L22 c23 => ((b24 = false → (C_M_eats g 7 I21 L22 c23 (fun b28 I25 L26 c27 => ((b28 = false → (C_M_fails g 2 I25 L26 c27 (fun I29 L30 c31 => (C_M_eats g 10 I29 L30 c31 (fun b35 I32 L33 c34 => ((b35 = false → (C_M_fails g 2 I32 L33 c34 (fun I36 L37 c38 => Q (gm_u I36 63 8 ((I36 63 8) + 1)) L37 c38))) ∧ (b35 = true → Q (gm_u I32 63 8 ((I32 63 8) + 1)) L33 c34))))))) ∧ (b28 = true → (C_M_takes g 1 999 I25 L26 c27 (fun r42 I39 L40 c41 => (C_M_eats g 10 (gm_u I39 63 6 r42) L40 c41 (fun b46 I43 L44 c45 => ((b46 = false → (C_M_fails g 2 I43 L44 c45 (fun I47 L48 c49 => Q (gm_u I47 63 8 ((I47 63 8) + 1)) L48 c49))) ∧ (b46 = true → Q (gm_u I43 63 8 ((I43 63 8) + 1)) L44 c45))))))))))) ∧ (b24 = true → (C_M_takes g 0 9999 I21 L22 c23 (fun r53 I50 L51 c52 => (C_M_eats g 10 (gm_u I50 63 5 r53) L51 c52 (fun b57 I54 L55 c56 => ((b57 = false → (C_M_fails g 2 I54 L55 c56 (fun I58 L59 c60 => Q (gm_u I58 63 8 ((I58 63 8) + 1)) L59 c60))) ∧ (b57 = true → Q (gm_u I54 63 8 ((I54 63 8) + 1)) L55 c56))))))))))) ∧ (b20 = true → (C_M_takes g 0 99 I17 L18 c19 (fun r64 I61 L62 c63 => (C_M_eats g 10 (gm_u I61 63 4 r64) L62 c63 (fun b68 I65 L66 c67 => ((b68 = false → (C_M_fails g 2 I65 L66 c67 (fun I69 L70 c71 => Q (gm_u I69 63 8 ((I69 63 8) + 1)) L70 c71))) ∧ (b68 = true → Q (gm_u I65 63 8 ((I65 63 8) + 1)) L66 c67))))))))))) ∧ (b16 = true → (C_M_eats g 10 (gm_u I13 63 7 1) L14 c15 (fun b75 I72 L73 c74 => ((b75 = false → (C_M_fails g 2 I72 L73 c74 (fun I76 L77 c78 => Q (gm_u I76 63 8 ((I76 63 8) + 1)) L77 c78))) ∧ (b75 = true → Q (gm_u I72 63 8 ((I72 63 8) + 1)) L73 c74))))))))) ∧ (b12 = true → (C_M_readGuesser g I9 L10 c11 (fun I79 L80 c81 => (C_M_eats g 10 I79 L80 c81 (fun b85 I82 L83 c84 => ((b85 = false → (C_M_fails g 2 I82 L83 c84 (fun I86 L87 c88 => Q (gm_u I86 63 8 ((I86 63 8) + 1)) L87 c88))) ∧ (b85 = true → Q (gm_u I82 63 8 ((I82 63 8) + 1)) L83 c84))))))))))) ∧ (b8 = true → (C_M_takes g 0 999 I5 L6 c7 (fun r92 I89 L90 c91 => (C_M_takes g 0 8 (gm_u I89 63 9 r92) L90 c91 (fun r96 I93 L94 c95 => (C_M_eats g 10 (gm_u I93 63 10 r96) L94 c95 (fun b100 I97 L98 c99 => ((b100 = false → (C_M_fails g 2 I97 L98 c99 (fun I101 L102 c103 => Q (gm_u I101 63 8 ((I101 63 8) + 1)) L102 c103))) ∧ (b100 = true → Q (gm_u I97 63 8 ((I97 63 8) + 1)) L98 c99))))))))))))) ∧ (b4 = true → (C_M_takes g 1 999 I1 L2 c3 (fun r107 I104 L105 c106 => (C_M_takes g r107 ((r107 + 200) - 1) (gm_u I104 63 2 r107) L105 c106 (fun r111 I108 L109 c110 => (C_M_eats g 10 (gm_u I108 63 3 r111) L109 c110 (fun b115 I112 L113 c114 => ((b115 = false → (C_M_fails g 2 I112 L113 c114 (fun I116 L117 c118 => Q (gm_u I116 63 8 ((I116 63 8) + 1)) L117 c118))) ∧ (b115 = true → Q (gm_u I112 63 8 ((I112 63 8) + 1)) L113 c114))))))))))))) : C_M_readLine g  I L c Q := by
  refine gm_enter (lv := [(0, .ref 59)]) (by decide) rfl rfl rfl rfl ?_
  show Z_M_readLine g Q 0 [(0, .ref 59)] [] I L c
  refine gx_aload_n 0 dX11_readLine_0 rfl rfl ?_
  refine gx_iconst (v := 0) dX11_readLine_1 (by decide) ?_
  refine gx_callV 11 (As := [.int 0]) (st := []) dX11_readLine_2 ml_X11_133 mm_X11_eats rfl rfl rfl rfl rfl rfl ⟨rfl, rfl⟩ h (fun v h2 hq => ?_)
  clear h
  obtain ⟨b4, I1, L2, c3, rfl, rfl, h⟩ := hq
  show Z_M_readLine g Q 5 [(0, .ref 59)] [.int (gm_b b4)] I1 L2 c3
  refine gx_if_eq 53 dX11_readLine_5 (by decide) ⟨fun z => ?_, fun z => ?_⟩
  · replace h := h.1 (gm_b0.mp z)
    refine gx_aload_n 0 dX11_readLine_53 rfl rfl ?_
    refine gx_iconst (v := 1) dX11_readLine_54 (by decide) ?_
    refine gx_callV 11 (As := [.int 1]) (st := []) dX11_readLine_55 ml_X11_133 mm_X11_eats rfl rfl rfl rfl rfl rfl ⟨rfl, rfl⟩ h (fun v h2 hq => ?_)
    clear h
    obtain ⟨b8, I5, L6, c7, rfl, rfl, h⟩ := hq
    show Z_M_readLine g Q 58 [(0, .ref 59)] [.int (gm_b b8)] I5 L6 c7
    refine gx_if_eq 93 dX11_readLine_58 (by decide) ⟨fun z => ?_, fun z => ?_⟩
    · replace h := h.1 (gm_b0.mp z)
      refine gx_aload_n 0 dX11_readLine_93 rfl rfl ?_
      refine gx_iconst (v := 2) dX11_readLine_94 (by decide) ?_
      refine gx_callV 11 (As := [.int 2]) (st := []) dX11_readLine_95 ml_X11_115 mm_X11_is rfl rfl rfl rfl rfl rfl ⟨rfl, rfl⟩ h (fun v h2 hq => ?_)
      clear h
      obtain ⟨b12, I9, L10, c11, rfl, rfl, h⟩ := hq
      show Z_M_readLine g Q 98 [(0, .ref 59)] [.int (gm_b b12)] I9 L10 c11
      refine gx_if_eq 108 dX11_readLine_98 (by decide) ⟨fun z => ?_, fun z => ?_⟩
      · replace h := h.1 (gm_b0.mp z)
        refine gx_aload_n 0 dX11_readLine_108 rfl rfl ?_
        refine gx_iconst (v := 4) dX11_readLine_109 (by decide) ?_
        refine gx_callV 11 (As := [.int 4]) (st := []) dX11_readLine_110 ml_X11_133 mm_X11_eats rfl rfl rfl rfl rfl rfl ⟨rfl, rfl⟩ h (fun v h2 hq => ?_)
        clear h
        obtain ⟨b16, I13, L14, c15, rfl, rfl, h⟩ := hq
        show Z_M_readLine g Q 113 [(0, .ref 59)] [.int (gm_b b16)] I13 L14 c15
        refine gx_if_eq 127 dX11_readLine_113 (by decide) ⟨fun z => ?_, fun z => ?_⟩
        · replace h := h.1 (gm_b0.mp z)
          refine gx_aload_n 0 dX11_readLine_127 rfl rfl ?_
          refine gx_iconst (v := 5) dX11_readLine_128 (by decide) ?_
          refine gx_callV 11 (As := [.int 5]) (st := []) dX11_readLine_129 ml_X11_133 mm_X11_eats rfl rfl rfl rfl rfl rfl ⟨rfl, rfl⟩ h (fun v h2 hq => ?_)
          clear h
          obtain ⟨b20, I17, L18, c19, rfl, rfl, h⟩ := hq
          show Z_M_readLine g Q 132 [(0, .ref 59)] [.int (gm_b b20)] I17 L18 c19
          refine gx_if_eq 151 dX11_readLine_132 (by decide) ⟨fun z => ?_, fun z => ?_⟩
          · replace h := h.1 (gm_b0.mp z)
            refine gx_aload_n 0 dX11_readLine_151 rfl rfl ?_
            refine gx_bipush (v := 6) dX11_readLine_152 (by decide) ?_
            refine gx_callV 11 (As := [.int 6]) (st := []) dX11_readLine_154 ml_X11_133 mm_X11_eats rfl rfl rfl rfl rfl rfl ⟨rfl, rfl⟩ h (fun v h2 hq => ?_)
            clear h
            obtain ⟨b24, I21, L22, c23, rfl, rfl, h⟩ := hq
            show Z_M_readLine g Q 157 [(0, .ref 59)] [.int (gm_b b24)] I21 L22 c23
            refine gx_if_eq 177 dX11_readLine_157 (by decide) ⟨fun z => ?_, fun z => ?_⟩
            · replace h := h.1 (gm_b0.mp z)
              refine gx_aload_n 0 dX11_readLine_177 rfl rfl ?_
              refine gx_bipush (v := 7) dX11_readLine_178 (by decide) ?_
              refine gx_callV 11 (As := [.int 7]) (st := []) dX11_readLine_180 ml_X11_133 mm_X11_eats rfl rfl rfl rfl rfl rfl ⟨rfl, rfl⟩ h (fun v h2 hq => ?_)
              clear h
              obtain ⟨b28, I25, L26, c27, rfl, rfl, h⟩ := hq
              show Z_M_readLine g Q 183 [(0, .ref 59)] [.int (gm_b b28)] I25 L26 c27
              refine gx_if_eq 204 dX11_readLine_183 (by decide) ⟨fun z => ?_, fun z => ?_⟩
              · replace h := h.1 (gm_b0.mp z)
                refine gx_aload_n 0 dX11_readLine_204 rfl rfl ?_
                refine gx_iconst (v := 2) dX11_readLine_205 (by decide) ?_
                refine gx_callV 11 (As := [.int 2]) (st := []) dX11_readLine_206 ml_X11_121 mm_X11_fails rfl rfl rfl rfl rfl rfl ⟨rfl, rfl⟩ h (fun v h2 hq => ?_)
                clear h
                obtain ⟨I29, L30, c31, rfl, rfl, h⟩ := hq
                show Z_M_readLine g Q 209 [(0, .ref 59)] [] I29 L30 c31
                refine gx_aload_n 0 dX11_readLine_209 rfl rfl ?_
                refine gx_bipush (v := 10) dX11_readLine_210 (by decide) ?_
                refine gx_callV 11 (As := [.int 10]) (st := []) dX11_readLine_212 ml_X11_133 mm_X11_eats rfl rfl rfl rfl rfl rfl ⟨rfl, rfl⟩ h (fun v h2 hq => ?_)
                clear h
                obtain ⟨b35, I32, L33, c34, rfl, rfl, h⟩ := hq
                show Z_M_readLine g Q 215 [(0, .ref 59)] [.int (gm_b b35)] I32 L33 c34
                refine gx_if_ne 223 dX11_readLine_215 (by decide) ⟨fun z => ?_, fun z => ?_⟩
                · replace h := h.1 (gm_b0.mp z)
                  refine gx_aload_n 0 dX11_readLine_218 rfl rfl ?_
                  refine gx_iconst (v := 2) dX11_readLine_219 (by decide) ?_
                  refine gx_callV 11 (As := [.int 2]) (st := []) dX11_readLine_220 ml_X11_121 mm_X11_fails rfl rfl rfl rfl rfl rfl ⟨rfl, rfl⟩ h (fun v h2 hq => ?_)
                  clear h
                  obtain ⟨I36, L37, c38, rfl, rfl, h⟩ := hq
                  show Z_M_readLine g Q 223 [(0, .ref 59)] [] I36 L37 c38
                  refine gx_aload_n 0 dX11_readLine_223 rfl rfl ?_
                  refine gx_getr 11 4 (v := 63) dX11_readLine_224 fl_X11_24 rfl rfl rfl ?_
                  refine gx_bipush (v := 8) dX11_readLine_227 (by decide) ?_
                  refine gx_dup2 dX11_readLine_229 rfl rfl ?_
                  refine gx_iald (v := (I36 63 8)) dX11_readLine_230 rfl rfl (gm_vin rfl) (k := 8) rfl rfl ?_
                  refine gx_iconst (v := 1) dX11_readLine_231 (by decide) ?_
                  refine gx_iadd dX11_readLine_232 ?_
                  refine gx_iast dX11_readLine_233 rfl rfl (gm_vin rfl) (k := 8) rfl ?_
                  show Z_M_readLine g Q 234 [(0, .ref 59)] [] (gm_u I36 63 8 ((I36 63 8) + 1)) L37 c38
                  exact gx_vret dX11_readLine_234 rfl rfl rfl ⟨_, _, _, rfl, rfl, h⟩
                · replace h := h.2 (gm_bn0 z)
                  refine gx_aload_n 0 dX11_readLine_223 rfl rfl ?_
                  refine gx_getr 11 4 (v := 63) dX11_readLine_224 fl_X11_24 rfl rfl rfl ?_
                  refine gx_bipush (v := 8) dX11_readLine_227 (by decide) ?_
                  refine gx_dup2 dX11_readLine_229 rfl rfl ?_
                  refine gx_iald (v := (I32 63 8)) dX11_readLine_230 rfl rfl (gm_vin rfl) (k := 8) rfl rfl ?_
                  refine gx_iconst (v := 1) dX11_readLine_231 (by decide) ?_
                  refine gx_iadd dX11_readLine_232 ?_
                  refine gx_iast dX11_readLine_233 rfl rfl (gm_vin rfl) (k := 8) rfl ?_
                  show Z_M_readLine g Q 234 [(0, .ref 59)] [] (gm_u I32 63 8 ((I32 63 8) + 1)) L33 c34
                  exact gx_vret dX11_readLine_234 rfl rfl rfl ⟨_, _, _, rfl, rfl, h⟩
              · replace h := h.2 (gm_bn0 z)
                refine gx_aload_n 0 dX11_readLine_186 rfl rfl ?_
                refine gx_getr 11 4 (v := 63) dX11_readLine_187 fl_X11_24 rfl rfl rfl ?_
                refine gx_bipush (v := 6) dX11_readLine_190 (by decide) ?_
                refine gx_aload_n 0 dX11_readLine_192 rfl rfl ?_
                refine gx_iconst (v := 1) dX11_readLine_193 (by decide) ?_
                refine gx_sipush (v := 999) dX11_readLine_194 (by decide) ?_
                refine gx_callV 11 (As := [.int 1, .int 999]) (st := [.int 6, .ref 63]) dX11_readLine_197 ml_X11_129 mm_X11_takes rfl rfl rfl rfl rfl rfl ⟨rfl, rfl⟩ h (fun v h2 hq => ?_)
                clear h
                obtain ⟨r42, I39, L40, c41, rfl, rfl, h⟩ := hq
                show Z_M_readLine g Q 200 [(0, .ref 59)] [.int r42, .int 6, .ref 63] I39 L40 c41
                refine gx_iast dX11_readLine_200 rfl rfl (gm_vin rfl) (k := 6) rfl ?_
                show Z_M_readLine g Q 201 [(0, .ref 59)] [] (gm_u I39 63 6 r42) L40 c41
                refine gx_goto 209 dX11_readLine_201 (by decide) ?_
                refine gx_aload_n 0 dX11_readLine_209 rfl rfl ?_
                refine gx_bipush (v := 10) dX11_readLine_210 (by decide) ?_
                refine gx_callV 11 (As := [.int 10]) (st := []) dX11_readLine_212 ml_X11_133 mm_X11_eats rfl rfl rfl rfl rfl rfl ⟨rfl, rfl⟩ h (fun v h2 hq => ?_)
                clear h
                obtain ⟨b46, I43, L44, c45, rfl, rfl, h⟩ := hq
                show Z_M_readLine g Q 215 [(0, .ref 59)] [.int (gm_b b46)] I43 L44 c45
                refine gx_if_ne 223 dX11_readLine_215 (by decide) ⟨fun z => ?_, fun z => ?_⟩
                · replace h := h.1 (gm_b0.mp z)
                  refine gx_aload_n 0 dX11_readLine_218 rfl rfl ?_
                  refine gx_iconst (v := 2) dX11_readLine_219 (by decide) ?_
                  refine gx_callV 11 (As := [.int 2]) (st := []) dX11_readLine_220 ml_X11_121 mm_X11_fails rfl rfl rfl rfl rfl rfl ⟨rfl, rfl⟩ h (fun v h2 hq => ?_)
                  clear h
                  obtain ⟨I47, L48, c49, rfl, rfl, h⟩ := hq
                  show Z_M_readLine g Q 223 [(0, .ref 59)] [] I47 L48 c49
                  refine gx_aload_n 0 dX11_readLine_223 rfl rfl ?_
                  refine gx_getr 11 4 (v := 63) dX11_readLine_224 fl_X11_24 rfl rfl rfl ?_
                  refine gx_bipush (v := 8) dX11_readLine_227 (by decide) ?_
                  refine gx_dup2 dX11_readLine_229 rfl rfl ?_
                  refine gx_iald (v := (I47 63 8)) dX11_readLine_230 rfl rfl (gm_vin rfl) (k := 8) rfl rfl ?_
                  refine gx_iconst (v := 1) dX11_readLine_231 (by decide) ?_
                  refine gx_iadd dX11_readLine_232 ?_
                  refine gx_iast dX11_readLine_233 rfl rfl (gm_vin rfl) (k := 8) rfl ?_
                  show Z_M_readLine g Q 234 [(0, .ref 59)] [] (gm_u I47 63 8 ((I47 63 8) + 1)) L48 c49
                  exact gx_vret dX11_readLine_234 rfl rfl rfl ⟨_, _, _, rfl, rfl, h⟩
                · replace h := h.2 (gm_bn0 z)
                  refine gx_aload_n 0 dX11_readLine_223 rfl rfl ?_
                  refine gx_getr 11 4 (v := 63) dX11_readLine_224 fl_X11_24 rfl rfl rfl ?_
                  refine gx_bipush (v := 8) dX11_readLine_227 (by decide) ?_
                  refine gx_dup2 dX11_readLine_229 rfl rfl ?_
                  refine gx_iald (v := (I43 63 8)) dX11_readLine_230 rfl rfl (gm_vin rfl) (k := 8) rfl rfl ?_
                  refine gx_iconst (v := 1) dX11_readLine_231 (by decide) ?_
                  refine gx_iadd dX11_readLine_232 ?_
                  refine gx_iast dX11_readLine_233 rfl rfl (gm_vin rfl) (k := 8) rfl ?_
                  show Z_M_readLine g Q 234 [(0, .ref 59)] [] (gm_u I43 63 8 ((I43 63 8) + 1)) L44 c45
                  exact gx_vret dX11_readLine_234 rfl rfl rfl ⟨_, _, _, rfl, rfl, h⟩
            · replace h := h.2 (gm_bn0 z)
              refine gx_aload_n 0 dX11_readLine_160 rfl rfl ?_
              refine gx_getr 11 4 (v := 63) dX11_readLine_161 fl_X11_24 rfl rfl rfl ?_
              refine gx_iconst (v := 5) dX11_readLine_164 (by decide) ?_
              refine gx_aload_n 0 dX11_readLine_165 rfl rfl ?_
              refine gx_iconst (v := 0) dX11_readLine_166 (by decide) ?_
              refine gx_sipush (v := 9999) dX11_readLine_167 (by decide) ?_
              refine gx_callV 11 (As := [.int 0, .int 9999]) (st := [.int 5, .ref 63]) dX11_readLine_170 ml_X11_129 mm_X11_takes rfl rfl rfl rfl rfl rfl ⟨rfl, rfl⟩ h (fun v h2 hq => ?_)
              clear h
              obtain ⟨r53, I50, L51, c52, rfl, rfl, h⟩ := hq
              show Z_M_readLine g Q 173 [(0, .ref 59)] [.int r53, .int 5, .ref 63] I50 L51 c52
              refine gx_iast dX11_readLine_173 rfl rfl (gm_vin rfl) (k := 5) rfl ?_
              show Z_M_readLine g Q 174 [(0, .ref 59)] [] (gm_u I50 63 5 r53) L51 c52
              refine gx_goto 209 dX11_readLine_174 (by decide) ?_
              refine gx_aload_n 0 dX11_readLine_209 rfl rfl ?_
              refine gx_bipush (v := 10) dX11_readLine_210 (by decide) ?_
              refine gx_callV 11 (As := [.int 10]) (st := []) dX11_readLine_212 ml_X11_133 mm_X11_eats rfl rfl rfl rfl rfl rfl ⟨rfl, rfl⟩ h (fun v h2 hq => ?_)
              clear h
              obtain ⟨b57, I54, L55, c56, rfl, rfl, h⟩ := hq
              show Z_M_readLine g Q 215 [(0, .ref 59)] [.int (gm_b b57)] I54 L55 c56
              refine gx_if_ne 223 dX11_readLine_215 (by decide) ⟨fun z => ?_, fun z => ?_⟩
              · replace h := h.1 (gm_b0.mp z)
                refine gx_aload_n 0 dX11_readLine_218 rfl rfl ?_
                refine gx_iconst (v := 2) dX11_readLine_219 (by decide) ?_
                refine gx_callV 11 (As := [.int 2]) (st := []) dX11_readLine_220 ml_X11_121 mm_X11_fails rfl rfl rfl rfl rfl rfl ⟨rfl, rfl⟩ h (fun v h2 hq => ?_)
                clear h
                obtain ⟨I58, L59, c60, rfl, rfl, h⟩ := hq
                show Z_M_readLine g Q 223 [(0, .ref 59)] [] I58 L59 c60
                refine gx_aload_n 0 dX11_readLine_223 rfl rfl ?_
                refine gx_getr 11 4 (v := 63) dX11_readLine_224 fl_X11_24 rfl rfl rfl ?_
                refine gx_bipush (v := 8) dX11_readLine_227 (by decide) ?_
                refine gx_dup2 dX11_readLine_229 rfl rfl ?_
                refine gx_iald (v := (I58 63 8)) dX11_readLine_230 rfl rfl (gm_vin rfl) (k := 8) rfl rfl ?_
                refine gx_iconst (v := 1) dX11_readLine_231 (by decide) ?_
                refine gx_iadd dX11_readLine_232 ?_
                refine gx_iast dX11_readLine_233 rfl rfl (gm_vin rfl) (k := 8) rfl ?_
                show Z_M_readLine g Q 234 [(0, .ref 59)] [] (gm_u I58 63 8 ((I58 63 8) + 1)) L59 c60
                exact gx_vret dX11_readLine_234 rfl rfl rfl ⟨_, _, _, rfl, rfl, h⟩
              · replace h := h.2 (gm_bn0 z)
                refine gx_aload_n 0 dX11_readLine_223 rfl rfl ?_
                refine gx_getr 11 4 (v := 63) dX11_readLine_224 fl_X11_24 rfl rfl rfl ?_
                refine gx_bipush (v := 8) dX11_readLine_227 (by decide) ?_
                refine gx_dup2 dX11_readLine_229 rfl rfl ?_
                refine gx_iald (v := (I54 63 8)) dX11_readLine_230 rfl rfl (gm_vin rfl) (k := 8) rfl rfl ?_
                refine gx_iconst (v := 1) dX11_readLine_231 (by decide) ?_
                refine gx_iadd dX11_readLine_232 ?_
                refine gx_iast dX11_readLine_233 rfl rfl (gm_vin rfl) (k := 8) rfl ?_
                show Z_M_readLine g Q 234 [(0, .ref 59)] [] (gm_u I54 63 8 ((I54 63 8) + 1)) L55 c56
                exact gx_vret dX11_readLine_234 rfl rfl rfl ⟨_, _, _, rfl, rfl, h⟩
          · replace h := h.2 (gm_bn0 z)
            refine gx_aload_n 0 dX11_readLine_135 rfl rfl ?_
            refine gx_getr 11 4 (v := 63) dX11_readLine_136 fl_X11_24 rfl rfl rfl ?_
            refine gx_iconst (v := 4) dX11_readLine_139 (by decide) ?_
            refine gx_aload_n 0 dX11_readLine_140 rfl rfl ?_
            refine gx_iconst (v := 0) dX11_readLine_141 (by decide) ?_
            refine gx_bipush (v := 99) dX11_readLine_142 (by decide) ?_
            refine gx_callV 11 (As := [.int 0, .int 99]) (st := [.int 4, .ref 63]) dX11_readLine_144 ml_X11_129 mm_X11_takes rfl rfl rfl rfl rfl rfl ⟨rfl, rfl⟩ h (fun v h2 hq => ?_)
            clear h
            obtain ⟨r64, I61, L62, c63, rfl, rfl, h⟩ := hq
            show Z_M_readLine g Q 147 [(0, .ref 59)] [.int r64, .int 4, .ref 63] I61 L62 c63
            refine gx_iast dX11_readLine_147 rfl rfl (gm_vin rfl) (k := 4) rfl ?_
            show Z_M_readLine g Q 148 [(0, .ref 59)] [] (gm_u I61 63 4 r64) L62 c63
            refine gx_goto 209 dX11_readLine_148 (by decide) ?_
            refine gx_aload_n 0 dX11_readLine_209 rfl rfl ?_
            refine gx_bipush (v := 10) dX11_readLine_210 (by decide) ?_
            refine gx_callV 11 (As := [.int 10]) (st := []) dX11_readLine_212 ml_X11_133 mm_X11_eats rfl rfl rfl rfl rfl rfl ⟨rfl, rfl⟩ h (fun v h2 hq => ?_)
            clear h
            obtain ⟨b68, I65, L66, c67, rfl, rfl, h⟩ := hq
            show Z_M_readLine g Q 215 [(0, .ref 59)] [.int (gm_b b68)] I65 L66 c67
            refine gx_if_ne 223 dX11_readLine_215 (by decide) ⟨fun z => ?_, fun z => ?_⟩
            · replace h := h.1 (gm_b0.mp z)
              refine gx_aload_n 0 dX11_readLine_218 rfl rfl ?_
              refine gx_iconst (v := 2) dX11_readLine_219 (by decide) ?_
              refine gx_callV 11 (As := [.int 2]) (st := []) dX11_readLine_220 ml_X11_121 mm_X11_fails rfl rfl rfl rfl rfl rfl ⟨rfl, rfl⟩ h (fun v h2 hq => ?_)
              clear h
              obtain ⟨I69, L70, c71, rfl, rfl, h⟩ := hq
              show Z_M_readLine g Q 223 [(0, .ref 59)] [] I69 L70 c71
              refine gx_aload_n 0 dX11_readLine_223 rfl rfl ?_
              refine gx_getr 11 4 (v := 63) dX11_readLine_224 fl_X11_24 rfl rfl rfl ?_
              refine gx_bipush (v := 8) dX11_readLine_227 (by decide) ?_
              refine gx_dup2 dX11_readLine_229 rfl rfl ?_
              refine gx_iald (v := (I69 63 8)) dX11_readLine_230 rfl rfl (gm_vin rfl) (k := 8) rfl rfl ?_
              refine gx_iconst (v := 1) dX11_readLine_231 (by decide) ?_
              refine gx_iadd dX11_readLine_232 ?_
              refine gx_iast dX11_readLine_233 rfl rfl (gm_vin rfl) (k := 8) rfl ?_
              show Z_M_readLine g Q 234 [(0, .ref 59)] [] (gm_u I69 63 8 ((I69 63 8) + 1)) L70 c71
              exact gx_vret dX11_readLine_234 rfl rfl rfl ⟨_, _, _, rfl, rfl, h⟩
            · replace h := h.2 (gm_bn0 z)
              refine gx_aload_n 0 dX11_readLine_223 rfl rfl ?_
              refine gx_getr 11 4 (v := 63) dX11_readLine_224 fl_X11_24 rfl rfl rfl ?_
              refine gx_bipush (v := 8) dX11_readLine_227 (by decide) ?_
              refine gx_dup2 dX11_readLine_229 rfl rfl ?_
              refine gx_iald (v := (I65 63 8)) dX11_readLine_230 rfl rfl (gm_vin rfl) (k := 8) rfl rfl ?_
              refine gx_iconst (v := 1) dX11_readLine_231 (by decide) ?_
              refine gx_iadd dX11_readLine_232 ?_
              refine gx_iast dX11_readLine_233 rfl rfl (gm_vin rfl) (k := 8) rfl ?_
              show Z_M_readLine g Q 234 [(0, .ref 59)] [] (gm_u I65 63 8 ((I65 63 8) + 1)) L66 c67
              exact gx_vret dX11_readLine_234 rfl rfl rfl ⟨_, _, _, rfl, rfl, h⟩
        · replace h := h.2 (gm_bn0 z)
          refine gx_aload_n 0 dX11_readLine_116 rfl rfl ?_
          refine gx_getr 11 4 (v := 63) dX11_readLine_117 fl_X11_24 rfl rfl rfl ?_
          refine gx_bipush (v := 7) dX11_readLine_120 (by decide) ?_
          refine gx_iconst (v := 1) dX11_readLine_122 (by decide) ?_
          refine gx_iast dX11_readLine_123 rfl rfl (gm_vin rfl) (k := 7) rfl ?_
          show Z_M_readLine g Q 124 [(0, .ref 59)] [] (gm_u I13 63 7 1) L14 c15
          refine gx_goto 209 dX11_readLine_124 (by decide) ?_
          refine gx_aload_n 0 dX11_readLine_209 rfl rfl ?_
          refine gx_bipush (v := 10) dX11_readLine_210 (by decide) ?_
          refine gx_callV 11 (As := [.int 10]) (st := []) dX11_readLine_212 ml_X11_133 mm_X11_eats rfl rfl rfl rfl rfl rfl ⟨rfl, rfl⟩ h (fun v h2 hq => ?_)
          clear h
          obtain ⟨b75, I72, L73, c74, rfl, rfl, h⟩ := hq
          show Z_M_readLine g Q 215 [(0, .ref 59)] [.int (gm_b b75)] I72 L73 c74
          refine gx_if_ne 223 dX11_readLine_215 (by decide) ⟨fun z => ?_, fun z => ?_⟩
          · replace h := h.1 (gm_b0.mp z)
            refine gx_aload_n 0 dX11_readLine_218 rfl rfl ?_
            refine gx_iconst (v := 2) dX11_readLine_219 (by decide) ?_
            refine gx_callV 11 (As := [.int 2]) (st := []) dX11_readLine_220 ml_X11_121 mm_X11_fails rfl rfl rfl rfl rfl rfl ⟨rfl, rfl⟩ h (fun v h2 hq => ?_)
            clear h
            obtain ⟨I76, L77, c78, rfl, rfl, h⟩ := hq
            show Z_M_readLine g Q 223 [(0, .ref 59)] [] I76 L77 c78
            refine gx_aload_n 0 dX11_readLine_223 rfl rfl ?_
            refine gx_getr 11 4 (v := 63) dX11_readLine_224 fl_X11_24 rfl rfl rfl ?_
            refine gx_bipush (v := 8) dX11_readLine_227 (by decide) ?_
            refine gx_dup2 dX11_readLine_229 rfl rfl ?_
            refine gx_iald (v := (I76 63 8)) dX11_readLine_230 rfl rfl (gm_vin rfl) (k := 8) rfl rfl ?_
            refine gx_iconst (v := 1) dX11_readLine_231 (by decide) ?_
            refine gx_iadd dX11_readLine_232 ?_
            refine gx_iast dX11_readLine_233 rfl rfl (gm_vin rfl) (k := 8) rfl ?_
            show Z_M_readLine g Q 234 [(0, .ref 59)] [] (gm_u I76 63 8 ((I76 63 8) + 1)) L77 c78
            exact gx_vret dX11_readLine_234 rfl rfl rfl ⟨_, _, _, rfl, rfl, h⟩
          · replace h := h.2 (gm_bn0 z)
            refine gx_aload_n 0 dX11_readLine_223 rfl rfl ?_
            refine gx_getr 11 4 (v := 63) dX11_readLine_224 fl_X11_24 rfl rfl rfl ?_
            refine gx_bipush (v := 8) dX11_readLine_227 (by decide) ?_
            refine gx_dup2 dX11_readLine_229 rfl rfl ?_
            refine gx_iald (v := (I72 63 8)) dX11_readLine_230 rfl rfl (gm_vin rfl) (k := 8) rfl rfl ?_
            refine gx_iconst (v := 1) dX11_readLine_231 (by decide) ?_
            refine gx_iadd dX11_readLine_232 ?_
            refine gx_iast dX11_readLine_233 rfl rfl (gm_vin rfl) (k := 8) rfl ?_
            show Z_M_readLine g Q 234 [(0, .ref 59)] [] (gm_u I72 63 8 ((I72 63 8) + 1)) L73 c74
            exact gx_vret dX11_readLine_234 rfl rfl rfl ⟨_, _, _, rfl, rfl, h⟩
      · replace h := h.2 (gm_bn0 z)
        refine gx_aload_n 0 dX11_readLine_101 rfl rfl ?_
        refine gx_callV 11 (As := []) (st := []) dX11_readLine_102 ml_X11_136 mm_X11_readGuesser rfl rfl rfl rfl rfl rfl ⟨rfl, rfl⟩ h (fun v h2 hq => ?_)
        clear h
        obtain ⟨I79, L80, c81, rfl, rfl, h⟩ := hq
        show Z_M_readLine g Q 105 [(0, .ref 59)] [] I79 L80 c81
        refine gx_goto 209 dX11_readLine_105 (by decide) ?_
        refine gx_aload_n 0 dX11_readLine_209 rfl rfl ?_
        refine gx_bipush (v := 10) dX11_readLine_210 (by decide) ?_
        refine gx_callV 11 (As := [.int 10]) (st := []) dX11_readLine_212 ml_X11_133 mm_X11_eats rfl rfl rfl rfl rfl rfl ⟨rfl, rfl⟩ h (fun v h2 hq => ?_)
        clear h
        obtain ⟨b85, I82, L83, c84, rfl, rfl, h⟩ := hq
        show Z_M_readLine g Q 215 [(0, .ref 59)] [.int (gm_b b85)] I82 L83 c84
        refine gx_if_ne 223 dX11_readLine_215 (by decide) ⟨fun z => ?_, fun z => ?_⟩
        · replace h := h.1 (gm_b0.mp z)
          refine gx_aload_n 0 dX11_readLine_218 rfl rfl ?_
          refine gx_iconst (v := 2) dX11_readLine_219 (by decide) ?_
          refine gx_callV 11 (As := [.int 2]) (st := []) dX11_readLine_220 ml_X11_121 mm_X11_fails rfl rfl rfl rfl rfl rfl ⟨rfl, rfl⟩ h (fun v h2 hq => ?_)
          clear h
          obtain ⟨I86, L87, c88, rfl, rfl, h⟩ := hq
          show Z_M_readLine g Q 223 [(0, .ref 59)] [] I86 L87 c88
          refine gx_aload_n 0 dX11_readLine_223 rfl rfl ?_
          refine gx_getr 11 4 (v := 63) dX11_readLine_224 fl_X11_24 rfl rfl rfl ?_
          refine gx_bipush (v := 8) dX11_readLine_227 (by decide) ?_
          refine gx_dup2 dX11_readLine_229 rfl rfl ?_
          refine gx_iald (v := (I86 63 8)) dX11_readLine_230 rfl rfl (gm_vin rfl) (k := 8) rfl rfl ?_
          refine gx_iconst (v := 1) dX11_readLine_231 (by decide) ?_
          refine gx_iadd dX11_readLine_232 ?_
          refine gx_iast dX11_readLine_233 rfl rfl (gm_vin rfl) (k := 8) rfl ?_
          show Z_M_readLine g Q 234 [(0, .ref 59)] [] (gm_u I86 63 8 ((I86 63 8) + 1)) L87 c88
          exact gx_vret dX11_readLine_234 rfl rfl rfl ⟨_, _, _, rfl, rfl, h⟩
        · replace h := h.2 (gm_bn0 z)
          refine gx_aload_n 0 dX11_readLine_223 rfl rfl ?_
          refine gx_getr 11 4 (v := 63) dX11_readLine_224 fl_X11_24 rfl rfl rfl ?_
          refine gx_bipush (v := 8) dX11_readLine_227 (by decide) ?_
          refine gx_dup2 dX11_readLine_229 rfl rfl ?_
          refine gx_iald (v := (I82 63 8)) dX11_readLine_230 rfl rfl (gm_vin rfl) (k := 8) rfl rfl ?_
          refine gx_iconst (v := 1) dX11_readLine_231 (by decide) ?_
          refine gx_iadd dX11_readLine_232 ?_
          refine gx_iast dX11_readLine_233 rfl rfl (gm_vin rfl) (k := 8) rfl ?_
          show Z_M_readLine g Q 234 [(0, .ref 59)] [] (gm_u I82 63 8 ((I82 63 8) + 1)) L83 c84
          exact gx_vret dX11_readLine_234 rfl rfl rfl ⟨_, _, _, rfl, rfl, h⟩
    · replace h := h.2 (gm_bn0 z)
      refine gx_aload_n 0 dX11_readLine_61 rfl rfl ?_
      refine gx_getr 11 4 (v := 63) dX11_readLine_62 fl_X11_24 rfl rfl rfl ?_
      refine gx_bipush (v := 9) dX11_readLine_65 (by decide) ?_
      refine gx_aload_n 0 dX11_readLine_67 rfl rfl ?_
      refine gx_iconst (v := 0) dX11_readLine_68 (by decide) ?_
      refine gx_sipush (v := 999) dX11_readLine_69 (by decide) ?_
      refine gx_callV 11 (As := [.int 0, .int 999]) (st := [.int 9, .ref 63]) dX11_readLine_72 ml_X11_129 mm_X11_takes rfl rfl rfl rfl rfl rfl ⟨rfl, rfl⟩ h (fun v h2 hq => ?_)
      clear h
      obtain ⟨r92, I89, L90, c91, rfl, rfl, h⟩ := hq
      show Z_M_readLine g Q 75 [(0, .ref 59)] [.int r92, .int 9, .ref 63] I89 L90 c91
      refine gx_iast dX11_readLine_75 rfl rfl (gm_vin rfl) (k := 9) rfl ?_
      show Z_M_readLine g Q 76 [(0, .ref 59)] [] (gm_u I89 63 9 r92) L90 c91
      refine gx_aload_n 0 dX11_readLine_76 rfl rfl ?_
      refine gx_getr 11 4 (v := 63) dX11_readLine_77 fl_X11_24 rfl rfl rfl ?_
      refine gx_bipush (v := 10) dX11_readLine_80 (by decide) ?_
      refine gx_aload_n 0 dX11_readLine_82 rfl rfl ?_
      refine gx_iconst (v := 0) dX11_readLine_83 (by decide) ?_
      refine gx_bipush (v := 8) dX11_readLine_84 (by decide) ?_
      refine gx_callV 11 (As := [.int 0, .int 8]) (st := [.int 10, .ref 63]) dX11_readLine_86 ml_X11_129 mm_X11_takes rfl rfl rfl rfl rfl rfl ⟨rfl, rfl⟩ h (fun v h2 hq => ?_)
      clear h
      obtain ⟨r96, I93, L94, c95, rfl, rfl, h⟩ := hq
      show Z_M_readLine g Q 89 [(0, .ref 59)] [.int r96, .int 10, .ref 63] I93 L94 c95
      refine gx_iast dX11_readLine_89 rfl rfl (gm_vin rfl) (k := 10) rfl ?_
      show Z_M_readLine g Q 90 [(0, .ref 59)] [] (gm_u I93 63 10 r96) L94 c95
      refine gx_goto 209 dX11_readLine_90 (by decide) ?_
      refine gx_aload_n 0 dX11_readLine_209 rfl rfl ?_
      refine gx_bipush (v := 10) dX11_readLine_210 (by decide) ?_
      refine gx_callV 11 (As := [.int 10]) (st := []) dX11_readLine_212 ml_X11_133 mm_X11_eats rfl rfl rfl rfl rfl rfl ⟨rfl, rfl⟩ h (fun v h2 hq => ?_)
      clear h
      obtain ⟨b100, I97, L98, c99, rfl, rfl, h⟩ := hq
      show Z_M_readLine g Q 215 [(0, .ref 59)] [.int (gm_b b100)] I97 L98 c99
      refine gx_if_ne 223 dX11_readLine_215 (by decide) ⟨fun z => ?_, fun z => ?_⟩
      · replace h := h.1 (gm_b0.mp z)
        refine gx_aload_n 0 dX11_readLine_218 rfl rfl ?_
        refine gx_iconst (v := 2) dX11_readLine_219 (by decide) ?_
        refine gx_callV 11 (As := [.int 2]) (st := []) dX11_readLine_220 ml_X11_121 mm_X11_fails rfl rfl rfl rfl rfl rfl ⟨rfl, rfl⟩ h (fun v h2 hq => ?_)
        clear h
        obtain ⟨I101, L102, c103, rfl, rfl, h⟩ := hq
        show Z_M_readLine g Q 223 [(0, .ref 59)] [] I101 L102 c103
        refine gx_aload_n 0 dX11_readLine_223 rfl rfl ?_
        refine gx_getr 11 4 (v := 63) dX11_readLine_224 fl_X11_24 rfl rfl rfl ?_
        refine gx_bipush (v := 8) dX11_readLine_227 (by decide) ?_
        refine gx_dup2 dX11_readLine_229 rfl rfl ?_
        refine gx_iald (v := (I101 63 8)) dX11_readLine_230 rfl rfl (gm_vin rfl) (k := 8) rfl rfl ?_
        refine gx_iconst (v := 1) dX11_readLine_231 (by decide) ?_
        refine gx_iadd dX11_readLine_232 ?_
        refine gx_iast dX11_readLine_233 rfl rfl (gm_vin rfl) (k := 8) rfl ?_
        show Z_M_readLine g Q 234 [(0, .ref 59)] [] (gm_u I101 63 8 ((I101 63 8) + 1)) L102 c103
        exact gx_vret dX11_readLine_234 rfl rfl rfl ⟨_, _, _, rfl, rfl, h⟩
      · replace h := h.2 (gm_bn0 z)
        refine gx_aload_n 0 dX11_readLine_223 rfl rfl ?_
        refine gx_getr 11 4 (v := 63) dX11_readLine_224 fl_X11_24 rfl rfl rfl ?_
        refine gx_bipush (v := 8) dX11_readLine_227 (by decide) ?_
        refine gx_dup2 dX11_readLine_229 rfl rfl ?_
        refine gx_iald (v := (I97 63 8)) dX11_readLine_230 rfl rfl (gm_vin rfl) (k := 8) rfl rfl ?_
        refine gx_iconst (v := 1) dX11_readLine_231 (by decide) ?_
        refine gx_iadd dX11_readLine_232 ?_
        refine gx_iast dX11_readLine_233 rfl rfl (gm_vin rfl) (k := 8) rfl ?_
        show Z_M_readLine g Q 234 [(0, .ref 59)] [] (gm_u I97 63 8 ((I97 63 8) + 1)) L98 c99
        exact gx_vret dX11_readLine_234 rfl rfl rfl ⟨_, _, _, rfl, rfl, h⟩
  · replace h := h.2 (gm_bn0 z)
    refine gx_aload_n 0 dX11_readLine_8 rfl rfl ?_
    refine gx_getr 11 4 (v := 63) dX11_readLine_9 fl_X11_24 rfl rfl rfl ?_
    refine gx_iconst (v := 2) dX11_readLine_12 (by decide) ?_
    refine gx_aload_n 0 dX11_readLine_13 rfl rfl ?_
    refine gx_iconst (v := 1) dX11_readLine_14 (by decide) ?_
    refine gx_sipush (v := 999) dX11_readLine_15 (by decide) ?_
    refine gx_callV 11 (As := [.int 1, .int 999]) (st := [.int 2, .ref 63]) dX11_readLine_18 ml_X11_129 mm_X11_takes rfl rfl rfl rfl rfl rfl ⟨rfl, rfl⟩ h (fun v h2 hq => ?_)
    clear h
    obtain ⟨r107, I104, L105, c106, rfl, rfl, h⟩ := hq
    show Z_M_readLine g Q 21 [(0, .ref 59)] [.int r107, .int 2, .ref 63] I104 L105 c106
    refine gx_iast dX11_readLine_21 rfl rfl (gm_vin rfl) (k := 2) rfl ?_
    show Z_M_readLine g Q 22 [(0, .ref 59)] [] (gm_u I104 63 2 r107) L105 c106
    refine gx_aload_n 0 dX11_readLine_22 rfl rfl ?_
    refine gx_getr 11 4 (v := 63) dX11_readLine_23 fl_X11_24 rfl rfl rfl ?_
    refine gx_iconst (v := 3) dX11_readLine_26 (by decide) ?_
    refine gx_aload_n 0 dX11_readLine_27 rfl rfl ?_
    refine gx_aload_n 0 dX11_readLine_28 rfl rfl ?_
    refine gx_getr 11 4 (v := 63) dX11_readLine_29 fl_X11_24 rfl rfl rfl ?_
    refine gx_iconst (v := 2) dX11_readLine_32 (by decide) ?_
    refine gx_iald (v := r107) dX11_readLine_33 rfl rfl (gm_vin rfl) (k := 2) rfl rfl ?_
    refine gx_aload_n 0 dX11_readLine_34 rfl rfl ?_
    refine gx_getr 11 4 (v := 63) dX11_readLine_35 fl_X11_24 rfl rfl rfl ?_
    refine gx_iconst (v := 2) dX11_readLine_38 (by decide) ?_
    refine gx_iald (v := r107) dX11_readLine_39 rfl rfl (gm_vin rfl) (k := 2) rfl rfl ?_
    refine gx_sipush (v := 200) dX11_readLine_40 (by decide) ?_
    refine gx_iadd dX11_readLine_43 ?_
    refine gx_iconst (v := 1) dX11_readLine_44 (by decide) ?_
    refine gx_isub dX11_readLine_45 ?_
    refine gx_callV 11 (As := [.int r107, .int ((r107 + 200) - 1)]) (st := [.int 3, .ref 63]) dX11_readLine_46 ml_X11_129 mm_X11_takes rfl rfl rfl rfl rfl rfl ⟨rfl, rfl⟩ h (fun v h2 hq => ?_)
    clear h
    obtain ⟨r111, I108, L109, c110, rfl, rfl, h⟩ := hq
    show Z_M_readLine g Q 49 [(0, .ref 59)] [.int r111, .int 3, .ref 63] I108 L109 c110
    refine gx_iast dX11_readLine_49 rfl rfl (gm_vin rfl) (k := 3) rfl ?_
    show Z_M_readLine g Q 50 [(0, .ref 59)] [] (gm_u I108 63 3 r111) L109 c110
    refine gx_goto 209 dX11_readLine_50 (by decide) ?_
    refine gx_aload_n 0 dX11_readLine_209 rfl rfl ?_
    refine gx_bipush (v := 10) dX11_readLine_210 (by decide) ?_
    refine gx_callV 11 (As := [.int 10]) (st := []) dX11_readLine_212 ml_X11_133 mm_X11_eats rfl rfl rfl rfl rfl rfl ⟨rfl, rfl⟩ h (fun v h2 hq => ?_)
    clear h
    obtain ⟨b115, I112, L113, c114, rfl, rfl, h⟩ := hq
    show Z_M_readLine g Q 215 [(0, .ref 59)] [.int (gm_b b115)] I112 L113 c114
    refine gx_if_ne 223 dX11_readLine_215 (by decide) ⟨fun z => ?_, fun z => ?_⟩
    · replace h := h.1 (gm_b0.mp z)
      refine gx_aload_n 0 dX11_readLine_218 rfl rfl ?_
      refine gx_iconst (v := 2) dX11_readLine_219 (by decide) ?_
      refine gx_callV 11 (As := [.int 2]) (st := []) dX11_readLine_220 ml_X11_121 mm_X11_fails rfl rfl rfl rfl rfl rfl ⟨rfl, rfl⟩ h (fun v h2 hq => ?_)
      clear h
      obtain ⟨I116, L117, c118, rfl, rfl, h⟩ := hq
      show Z_M_readLine g Q 223 [(0, .ref 59)] [] I116 L117 c118
      refine gx_aload_n 0 dX11_readLine_223 rfl rfl ?_
      refine gx_getr 11 4 (v := 63) dX11_readLine_224 fl_X11_24 rfl rfl rfl ?_
      refine gx_bipush (v := 8) dX11_readLine_227 (by decide) ?_
      refine gx_dup2 dX11_readLine_229 rfl rfl ?_
      refine gx_iald (v := (I116 63 8)) dX11_readLine_230 rfl rfl (gm_vin rfl) (k := 8) rfl rfl ?_
      refine gx_iconst (v := 1) dX11_readLine_231 (by decide) ?_
      refine gx_iadd dX11_readLine_232 ?_
      refine gx_iast dX11_readLine_233 rfl rfl (gm_vin rfl) (k := 8) rfl ?_
      show Z_M_readLine g Q 234 [(0, .ref 59)] [] (gm_u I116 63 8 ((I116 63 8) + 1)) L117 c118
      exact gx_vret dX11_readLine_234 rfl rfl rfl ⟨_, _, _, rfl, rfl, h⟩
    · replace h := h.2 (gm_bn0 z)
      refine gx_aload_n 0 dX11_readLine_223 rfl rfl ?_
      refine gx_getr 11 4 (v := 63) dX11_readLine_224 fl_X11_24 rfl rfl rfl ?_
      refine gx_bipush (v := 8) dX11_readLine_227 (by decide) ?_
      refine gx_dup2 dX11_readLine_229 rfl rfl ?_
      refine gx_iald (v := (I112 63 8)) dX11_readLine_230 rfl rfl (gm_vin rfl) (k := 8) rfl rfl ?_
      refine gx_iconst (v := 1) dX11_readLine_231 (by decide) ?_
      refine gx_iadd dX11_readLine_232 ?_
      refine gx_iast dX11_readLine_233 rfl rfl (gm_vin rfl) (k := 8) rfl ?_
      show Z_M_readLine g Q 234 [(0, .ref 59)] [] (gm_u I112 63 8 ((I112 63 8) + 1)) L113 c114
      exact gx_vret dX11_readLine_234 rfl rfl rfl ⟨_, _, _, rfl, rfl, h⟩
abbrev Z_M_fete (g : gm_G) (Q : Int32 → mI → mL → gm_cfg → Prop) (pc : Nat) (lv : List (Nat × Value)) (st : List Value) (I : mI) (L : mL) (c : gm_cfg) : Prop := gm_X g RX11 "fete" cX11_fete 3 (some .int) 10 0 0 (qI Q) 0 0 pc lv st (SH, I, L, RR c)
abbrev C_M_fete (g : gm_G) (x1 : Int32) (I : mI) (L : mL) (c : gm_cfg) (Q : Int32 → mI → mL → gm_cfg → Prop) : Prop := gm_Met g yX11_fete cX11_fete 3 (some .int) 10 0 0 [.ref 59, .int x1] (SH, I, L, RR c) (qI Q)
set_option maxRecDepth 100000 in
theorem e_M_fete {g : gm_G} {Q : Int32 → mI → mL → gm_cfg → Prop} {x1 : Int32} {I : mI} {L : mL} {c : gm_cfg} (h : (C_M_within g (Int32.toInt64 x1) 0 (Int32.toInt64 (I 59 5)) (gm_u I 59 0 0) L c (fun b4 I1 L2 c3 => ((b4 = false → Q (-3) I1 L2 c3) ∧ (b4 = true → (C_M_plain_63 g (gm_u (gm_u (gm_u (gm_u I1 59 8 x1) 59 5 0) 59 7 0) 59 11 0) L2 c3 (fun I5 L6 c7 => (C_M_next g I5 L6 c7 (fun I8 L9 c10 => Z_M_fete g Q 53 [(0, .ref 59), (1, .int x1)] [] I8 L9 c10))))))))) : C_M_fete g x1 I L c Q := by
  refine gm_enter (lv := [(0, .ref 59), (1, .int x1)]) (by decide) rfl rfl rfl rfl ?_
  show Z_M_fete g Q 0 [(0, .ref 59), (1, .int x1)] [] I L c
  refine gx_aload_n 0 dX11_fete_0 rfl rfl ?_
  refine gx_iconst (v := 0) dX11_fete_1 (by decide) ?_
  refine gx_puti 11 0 dX11_fete_2 fl_X11_1 rfl rfl rfl ⟨rfl, rfl⟩ ?_
  show Z_M_fete g Q 5 [(0, .ref 59), (1, .int x1)] [] (gm_u I 59 0 0) L c
  refine gx_iload_n 1 dX11_fete_5 rfl rfl ?_
  refine gx_i2l dX11_fete_6 ?_
  refine gx_lconst (v := 0) dX11_fete_7 (by decide) ?_
  refine gx_aload_n 0 dX11_fete_8 rfl rfl ?_
  refine gx_geti 11 5 (v := (I 59 5)) dX11_fete_9 fl_X11_65 rfl rfl rfl ?_
  refine gx_i2l dX11_fete_12 ?_
  refine gx_callS (As := [.long (Int32.toInt64 x1), .long 0, .long (Int32.toInt64 (I 59 5))]) (st := []) dX11_fete_13 ml_X11_125 mm_X11_within rfl rfl rfl rfl ⟨rfl, rfl⟩ h (fun v h2 hq => ?_)
  clear h
  obtain ⟨b4, I1, L2, c3, rfl, rfl, h⟩ := hq
  show Z_M_fete g Q 16 [(0, .ref 59), (1, .int x1)] [.int (gm_b b4)] I1 L2 c3
  refine gx_if_ne 22 dX11_fete_16 (by decide) ⟨fun z => ?_, fun z => ?_⟩
  · replace h := h.1 (gm_b0.mp z)
    refine gx_bipush (v := (-3)) dX11_fete_19 (by decide) ?_
    exact gx_iret dX11_fete_21 rfl rfl rfl ⟨_, _, _, _, rfl, rfl, h⟩
  · replace h := h.2 (gm_bn0 z)
    refine gx_aload_n 0 dX11_fete_22 rfl rfl ?_
    refine gx_iload_n 1 dX11_fete_23 rfl rfl ?_
    refine gx_puti 11 8 dX11_fete_24 fl_X11_68 rfl rfl rfl ⟨rfl, rfl⟩ ?_
    show Z_M_fete g Q 27 [(0, .ref 59), (1, .int x1)] [] (gm_u I1 59 8 x1) L2 c3
    refine gx_aload_n 0 dX11_fete_27 rfl rfl ?_
    refine gx_iconst (v := 0) dX11_fete_28 (by decide) ?_
    refine gx_puti 11 5 dX11_fete_29 fl_X11_65 rfl rfl rfl ⟨rfl, rfl⟩ ?_
    show Z_M_fete g Q 32 [(0, .ref 59), (1, .int x1)] [] (gm_u (gm_u I1 59 8 x1) 59 5 0) L2 c3
    refine gx_aload_n 0 dX11_fete_32 rfl rfl ?_
    refine gx_iconst (v := 0) dX11_fete_33 (by decide) ?_
    refine gx_puti 11 7 dX11_fete_34 fl_X11_86 rfl rfl rfl ⟨rfl, rfl⟩ ?_
    show Z_M_fete g Q 37 [(0, .ref 59), (1, .int x1)] [] (gm_u (gm_u (gm_u I1 59 8 x1) 59 5 0) 59 7 0) L2 c3
    refine gx_aload_n 0 dX11_fete_37 rfl rfl ?_
    refine gx_iconst (v := 0) dX11_fete_38 (by decide) ?_
    refine gx_puti 11 11 dX11_fete_39 fl_X11_109 rfl rfl rfl ⟨rfl, rfl⟩ ?_
    show Z_M_fete g Q 42 [(0, .ref 59), (1, .int x1)] [] (gm_u (gm_u (gm_u (gm_u I1 59 8 x1) 59 5 0) 59 7 0) 59 11 0) L2 c3
    refine gx_aload_n 0 dX11_fete_42 rfl rfl ?_
    refine gx_getr 11 4 (v := 63) dX11_fete_43 fl_X11_24 rfl rfl rfl ?_
    refine gx_callS (As := [.ref 63]) (st := []) dX11_fete_46 ml_X11_61 mm_X11_plain rfl rfl rfl rfl ⟨rfl, rfl⟩ h (fun v h2 hq => ?_)
    clear h
    obtain ⟨I5, L6, c7, rfl, rfl, h⟩ := hq
    show Z_M_fete g Q 49 [(0, .ref 59), (1, .int x1)] [] I5 L6 c7
    refine gx_aload_n 0 dX11_fete_49 rfl rfl ?_
    refine gx_callV 11 (As := []) (st := []) dX11_fete_50 ml_X11_118 mm_X11_next rfl rfl rfl rfl rfl rfl ⟨rfl, rfl⟩ h (fun v h2 hq => ?_)
    clear h
    obtain ⟨I8, L9, c10, rfl, rfl, h⟩ := hq
    show Z_M_fete g Q 53 [(0, .ref 59), (1, .int x1)] [] I8 L9 c10
    exact h
set_option maxRecDepth 100000 in
theorem r_M_fete_53 {g : gm_G} {Q : Int32 → mI → mL → gm_cfg → Prop} {x1 : Int32} {I : mI} {L : mL} {c : gm_cfg} (h : (((I 59 11) = 0 → (((I 59 9) = 11 → (((I 59 11) = 0 → (((I 59 11) = 0 → Z_M_fete g Q 120 [(0, .ref 59), (1, .int x1), (2, .int 0)] [] (gm_u (gm_u I 59 13 (I 59 11)) 59 14 (-1)) L c) ∧ (¬ (I 59 11) = 0 → Q ((-30) - (I 59 11)) (gm_u (gm_u I 59 13 (I 59 11)) 59 14 (-1)) L c))) ∧ (¬ (I 59 11) = 0 → (((I 59 11) = 0 → Z_M_fete g Q 120 [(0, .ref 59), (1, .int x1), (2, .int 0)] [] (gm_u (gm_u I 59 13 (I 59 11)) 59 14 (I 59 12)) L c) ∧ (¬ (I 59 11) = 0 → Q ((-30) - (I 59 11)) (gm_u (gm_u I 59 13 (I 59 11)) 59 14 (I 59 12)) L c))))) ∧ (¬ (I 59 9) = 11 → (C_M_readLine g I L c (fun I1 L2 c3 => Z_M_fete g Q 53 [(0, .ref 59), (1, .int x1)] [] I1 L2 c3))))) ∧ (¬ (I 59 11) = 0 → (((I 59 11) = 0 → (((I 59 11) = 0 → Z_M_fete g Q 120 [(0, .ref 59), (1, .int x1), (2, .int 0)] [] (gm_u (gm_u I 59 13 (I 59 11)) 59 14 (-1)) L c) ∧ (¬ (I 59 11) = 0 → Q ((-30) - (I 59 11)) (gm_u (gm_u I 59 13 (I 59 11)) 59 14 (-1)) L c))) ∧ (¬ (I 59 11) = 0 → (((I 59 11) = 0 → Z_M_fete g Q 120 [(0, .ref 59), (1, .int x1), (2, .int 0)] [] (gm_u (gm_u I 59 13 (I 59 11)) 59 14 (I 59 12)) L c) ∧ (¬ (I 59 11) = 0 → Q ((-30) - (I 59 11)) (gm_u (gm_u I 59 13 (I 59 11)) 59 14 (I 59 12)) L c))))))) : Z_M_fete g Q 53 [(0, .ref 59), (1, .int x1)] [] I L c := by
  refine gx_aload_n 0 dX11_fete_53 rfl rfl ?_
  refine gx_geti 11 11 (v := (I 59 11)) dX11_fete_54 fl_X11_109 rfl rfl rfl ?_
  refine gx_if_ne 76 dX11_fete_57 (by decide) ⟨fun z => ?_, fun z => ?_⟩
  · replace h := h.1 z
    refine gx_aload_n 0 dX11_fete_60 rfl rfl ?_
    refine gx_geti 11 9 (v := (I 59 9)) dX11_fete_61 fl_X11_93 rfl rfl rfl ?_
    refine gx_bipush (v := 11) dX11_fete_64 (by decide) ?_
    refine gx_icmp_eq 76 dX11_fete_66 (by decide) ⟨fun z => ?_, fun z => ?_⟩
    · replace h := h.1 z
      refine gx_aload_n 0 dX11_fete_76 rfl rfl ?_
      refine gx_aload_n 0 dX11_fete_77 rfl rfl ?_
      refine gx_geti 11 11 (v := (I 59 11)) dX11_fete_78 fl_X11_109 rfl rfl rfl ?_
      refine gx_puti 11 13 dX11_fete_81 fl_X11_142 rfl rfl rfl ⟨rfl, rfl⟩ ?_
      show Z_M_fete g Q 84 [(0, .ref 59), (1, .int x1)] [] (gm_u I 59 13 (I 59 11)) L c
      refine gx_aload_n 0 dX11_fete_84 rfl rfl ?_
      refine gx_aload_n 0 dX11_fete_85 rfl rfl ?_
      refine gx_geti 11 11 (v := (I 59 11)) dX11_fete_86 fl_X11_109 rfl rfl rfl ?_
      refine gx_if_ne 96 dX11_fete_89 (by decide) ⟨fun z => ?_, fun z => ?_⟩
      · replace h := h.1 z
        refine gx_iconst (v := (-1)) dX11_fete_92 (by decide) ?_
        refine gx_goto 100 dX11_fete_93 (by decide) ?_
        refine gx_puti 11 14 dX11_fete_100 fl_X11_27 rfl rfl rfl ⟨rfl, rfl⟩ ?_
        show Z_M_fete g Q 103 [(0, .ref 59), (1, .int x1)] [] (gm_u (gm_u I 59 13 (I 59 11)) 59 14 (-1)) L c
        refine gx_aload_n 0 dX11_fete_103 rfl rfl ?_
        refine gx_geti 11 11 (v := (I 59 11)) dX11_fete_104 fl_X11_109 rfl rfl rfl ?_
        refine gx_if_eq 118 dX11_fete_107 (by decide) ⟨fun z => ?_, fun z => ?_⟩
        · replace h := h.1 z
          refine gx_iconst (v := 0) dX11_fete_118 (by decide) ?_
          refine gx_istore_n (lv' := [(0, .ref 59), (1, .int x1), (2, .int 0)]) dX11_fete_119 rfl rfl rfl ?_
          exact h
        · replace h := h.2 z
          refine gx_bipush (v := (-30)) dX11_fete_110 (by decide) ?_
          refine gx_aload_n 0 dX11_fete_112 rfl rfl ?_
          refine gx_geti 11 11 (v := (I 59 11)) dX11_fete_113 fl_X11_109 rfl rfl rfl ?_
          refine gx_isub dX11_fete_116 ?_
          exact gx_iret dX11_fete_117 rfl rfl rfl ⟨_, _, _, _, rfl, rfl, h⟩
      · replace h := h.2 z
        refine gx_aload_n 0 dX11_fete_96 rfl rfl ?_
        refine gx_geti 11 12 (v := (I 59 12)) dX11_fete_97 fl_X11_112 rfl rfl rfl ?_
        refine gx_puti 11 14 dX11_fete_100 fl_X11_27 rfl rfl rfl ⟨rfl, rfl⟩ ?_
        show Z_M_fete g Q 103 [(0, .ref 59), (1, .int x1)] [] (gm_u (gm_u I 59 13 (I 59 11)) 59 14 (I 59 12)) L c
        refine gx_aload_n 0 dX11_fete_103 rfl rfl ?_
        refine gx_geti 11 11 (v := (I 59 11)) dX11_fete_104 fl_X11_109 rfl rfl rfl ?_
        refine gx_if_eq 118 dX11_fete_107 (by decide) ⟨fun z => ?_, fun z => ?_⟩
        · replace h := h.1 z
          refine gx_iconst (v := 0) dX11_fete_118 (by decide) ?_
          refine gx_istore_n (lv' := [(0, .ref 59), (1, .int x1), (2, .int 0)]) dX11_fete_119 rfl rfl rfl ?_
          exact h
        · replace h := h.2 z
          refine gx_bipush (v := (-30)) dX11_fete_110 (by decide) ?_
          refine gx_aload_n 0 dX11_fete_112 rfl rfl ?_
          refine gx_geti 11 11 (v := (I 59 11)) dX11_fete_113 fl_X11_109 rfl rfl rfl ?_
          refine gx_isub dX11_fete_116 ?_
          exact gx_iret dX11_fete_117 rfl rfl rfl ⟨_, _, _, _, rfl, rfl, h⟩
    · replace h := h.2 z
      refine gx_aload_n 0 dX11_fete_69 rfl rfl ?_
      refine gx_callV 11 (As := []) (st := []) dX11_fete_70 ml_X11_139 mm_X11_readLine rfl rfl rfl rfl rfl rfl ⟨rfl, rfl⟩ h (fun v h2 hq => ?_)
      clear h
      obtain ⟨I1, L2, c3, rfl, rfl, h⟩ := hq
      show Z_M_fete g Q 73 [(0, .ref 59), (1, .int x1)] [] I1 L2 c3
      refine gx_goto 53 dX11_fete_73 (by decide) ?_
      exact h
  · replace h := h.2 z
    refine gx_aload_n 0 dX11_fete_76 rfl rfl ?_
    refine gx_aload_n 0 dX11_fete_77 rfl rfl ?_
    refine gx_geti 11 11 (v := (I 59 11)) dX11_fete_78 fl_X11_109 rfl rfl rfl ?_
    refine gx_puti 11 13 dX11_fete_81 fl_X11_142 rfl rfl rfl ⟨rfl, rfl⟩ ?_
    show Z_M_fete g Q 84 [(0, .ref 59), (1, .int x1)] [] (gm_u I 59 13 (I 59 11)) L c
    refine gx_aload_n 0 dX11_fete_84 rfl rfl ?_
    refine gx_aload_n 0 dX11_fete_85 rfl rfl ?_
    refine gx_geti 11 11 (v := (I 59 11)) dX11_fete_86 fl_X11_109 rfl rfl rfl ?_
    refine gx_if_ne 96 dX11_fete_89 (by decide) ⟨fun z => ?_, fun z => ?_⟩
    · replace h := h.1 z
      refine gx_iconst (v := (-1)) dX11_fete_92 (by decide) ?_
      refine gx_goto 100 dX11_fete_93 (by decide) ?_
      refine gx_puti 11 14 dX11_fete_100 fl_X11_27 rfl rfl rfl ⟨rfl, rfl⟩ ?_
      show Z_M_fete g Q 103 [(0, .ref 59), (1, .int x1)] [] (gm_u (gm_u I 59 13 (I 59 11)) 59 14 (-1)) L c
      refine gx_aload_n 0 dX11_fete_103 rfl rfl ?_
      refine gx_geti 11 11 (v := (I 59 11)) dX11_fete_104 fl_X11_109 rfl rfl rfl ?_
      refine gx_if_eq 118 dX11_fete_107 (by decide) ⟨fun z => ?_, fun z => ?_⟩
      · replace h := h.1 z
        refine gx_iconst (v := 0) dX11_fete_118 (by decide) ?_
        refine gx_istore_n (lv' := [(0, .ref 59), (1, .int x1), (2, .int 0)]) dX11_fete_119 rfl rfl rfl ?_
        exact h
      · replace h := h.2 z
        refine gx_bipush (v := (-30)) dX11_fete_110 (by decide) ?_
        refine gx_aload_n 0 dX11_fete_112 rfl rfl ?_
        refine gx_geti 11 11 (v := (I 59 11)) dX11_fete_113 fl_X11_109 rfl rfl rfl ?_
        refine gx_isub dX11_fete_116 ?_
        exact gx_iret dX11_fete_117 rfl rfl rfl ⟨_, _, _, _, rfl, rfl, h⟩
    · replace h := h.2 z
      refine gx_aload_n 0 dX11_fete_96 rfl rfl ?_
      refine gx_geti 11 12 (v := (I 59 12)) dX11_fete_97 fl_X11_112 rfl rfl rfl ?_
      refine gx_puti 11 14 dX11_fete_100 fl_X11_27 rfl rfl rfl ⟨rfl, rfl⟩ ?_
      show Z_M_fete g Q 103 [(0, .ref 59), (1, .int x1)] [] (gm_u (gm_u I 59 13 (I 59 11)) 59 14 (I 59 12)) L c
      refine gx_aload_n 0 dX11_fete_103 rfl rfl ?_
      refine gx_geti 11 11 (v := (I 59 11)) dX11_fete_104 fl_X11_109 rfl rfl rfl ?_
      refine gx_if_eq 118 dX11_fete_107 (by decide) ⟨fun z => ?_, fun z => ?_⟩
      · replace h := h.1 z
        refine gx_iconst (v := 0) dX11_fete_118 (by decide) ?_
        refine gx_istore_n (lv' := [(0, .ref 59), (1, .int x1), (2, .int 0)]) dX11_fete_119 rfl rfl rfl ?_
        exact h
      · replace h := h.2 z
        refine gx_bipush (v := (-30)) dX11_fete_110 (by decide) ?_
        refine gx_aload_n 0 dX11_fete_112 rfl rfl ?_
        refine gx_geti 11 11 (v := (I 59 11)) dX11_fete_113 fl_X11_109 rfl rfl rfl ?_
        refine gx_isub dX11_fete_116 ?_
        exact gx_iret dX11_fete_117 rfl rfl rfl ⟨_, _, _, _, rfl, rfl, h⟩
set_option maxRecDepth 100000 in
theorem r_M_fete_120 {g : gm_G} {Q : Int32 → mI → mL → gm_cfg → Prop} {x1 x2 : Int32} {I : mI} {L : mL} {c : gm_cfg} (h : ((110 ≤ x2 → Q (I 60 8) I L c) ∧ (¬ 110 ≤ x2 → (vp_in x2 110 ∧ (vp_in x2 330 ∧ Z_M_fete g Q 120 [(0, .ref 59), (1, .int x1), (2, .int (x2 + 1))] [] (gm_u I 60 (Int32.toNatClampNeg x2) (I 63 (Int32.toNatClampNeg x2))) L c))))) : Z_M_fete g Q 120 [(0, .ref 59), (1, .int x1), (2, .int x2)] [] I L c := by
  refine gx_iload_n 2 dX11_fete_120 rfl rfl ?_
  refine gx_bipush (v := 110) dX11_fete_121 (by decide) ?_
  refine gx_icmp_ge 144 dX11_fete_123 (by decide) ⟨fun z => ?_, fun z => ?_⟩
  · replace h := h.1 z
    refine gx_aload_n 0 dX11_fete_144 rfl rfl ?_
    refine gx_getr 11 1 (v := 60) dX11_fete_145 fl_X11_13 rfl rfl rfl ?_
    refine gx_bipush (v := 8) dX11_fete_148 (by decide) ?_
    refine gx_iald (v := (I 60 8)) dX11_fete_150 rfl rfl (gm_vin rfl) (k := 8) rfl rfl ?_
    exact gx_iret dX11_fete_151 rfl rfl rfl ⟨_, _, _, _, rfl, rfl, h⟩
  · replace h := h.2 z
    refine gx_aload_n 0 dX11_fete_126 rfl rfl ?_
    refine gx_getr 11 1 (v := 60) dX11_fete_127 fl_X11_13 rfl rfl rfl ?_
    refine gx_iload_n 2 dX11_fete_130 rfl rfl ?_
    refine gx_aload_n 0 dX11_fete_131 rfl rfl ?_
    refine gx_getr 11 4 (v := 63) dX11_fete_132 fl_X11_24 rfl rfl rfl ?_
    refine gx_iload_n 2 dX11_fete_135 rfl rfl ?_
    obtain ⟨hi, h⟩ := h
    refine gx_iald (v := (I 63 (Int32.toNatClampNeg x2))) dX11_fete_136 rfl rfl hi (k := (Int32.toNatClampNeg x2)) rfl rfl ?_
    obtain ⟨hi, h⟩ := h
    refine gx_iast dX11_fete_137 rfl rfl hi (k := (Int32.toNatClampNeg x2)) rfl ?_
    show Z_M_fete g Q 138 [(0, .ref 59), (1, .int x1), (2, .int x2)] [] (gm_u I 60 (Int32.toNatClampNeg x2) (I 63 (Int32.toNatClampNeg x2))) L c
    refine gx_iinc (v := (x2 + 1)) (lv' := [(0, .ref 59), (1, .int x1), (2, .int (x2 + 1))]) 2 dX11_fete_138 rfl rfl rfl rfl ?_
    refine gx_goto 120 dX11_fete_141 (by decide) ?_
    exact h
abbrev Z_M_fault (g : gm_G) (Q : Int32 → mI → mL → gm_cfg → Prop) (pc : Nat) (lv : List (Nat × Value)) (st : List Value) (I : mI) (L : mL) (c : gm_cfg) : Prop := gm_X g RX11 "fault" cX11_fault 2 (some .int) 1 0 0 (qI Q) 0 0 pc lv st (SH, I, L, RR c)
abbrev C_M_fault (g : gm_G) (x1 : Int32) (I : mI) (L : mL) (c : gm_cfg) (Q : Int32 → mI → mL → gm_cfg → Prop) : Prop := gm_Met g yX11_fault cX11_fault 2 (some .int) 1 0 0 [.ref 59, .int x1] (SH, I, L, RR c) (qI Q)
set_option maxRecDepth 100000 in
theorem e_M_fault {g : gm_G} {Q : Int32 → mI → mL → gm_cfg → Prop} {x1 : Int32} {I : mI} {L : mL} {c : gm_cfg} (h : ((x1 = 0 → Q (I 59 13) (gm_u I 59 0 0) L c) ∧ (¬ x1 = 0 → ((x1 = 1 → Q (I 59 14) (gm_u I 59 0 0) L c) ∧ (¬ x1 = 1 → Q (-1) (gm_u I 59 0 0) L c))))) : C_M_fault g x1 I L c Q := by
  refine gm_enter (lv := [(0, .ref 59), (1, .int x1)]) (by decide) rfl rfl rfl rfl ?_
  show Z_M_fault g Q 0 [(0, .ref 59), (1, .int x1)] [] I L c
  refine gx_aload_n 0 dX11_fault_0 rfl rfl ?_
  refine gx_iconst (v := 0) dX11_fault_1 (by decide) ?_
  refine gx_puti 11 0 dX11_fault_2 fl_X11_1 rfl rfl rfl ⟨rfl, rfl⟩ ?_
  show Z_M_fault g Q 5 [(0, .ref 59), (1, .int x1)] [] (gm_u I 59 0 0) L c
  refine gx_iload_n 1 dX11_fault_5 rfl rfl ?_
  refine gx_if_ne 16 dX11_fault_6 (by decide) ⟨fun z => ?_, fun z => ?_⟩
  · replace h := h.1 z
    refine gx_aload_n 0 dX11_fault_9 rfl rfl ?_
    refine gx_geti 11 13 (v := (I 59 13)) dX11_fault_10 fl_X11_142 rfl rfl rfl ?_
    refine gx_goto 29 dX11_fault_13 (by decide) ?_
    exact gx_iret dX11_fault_29 rfl rfl rfl ⟨_, _, _, _, rfl, rfl, h⟩
  · replace h := h.2 z
    refine gx_iload_n 1 dX11_fault_16 rfl rfl ?_
    refine gx_iconst (v := 1) dX11_fault_17 (by decide) ?_
    refine gx_icmp_ne 28 dX11_fault_18 (by decide) ⟨fun z => ?_, fun z => ?_⟩
    · replace h := h.1 z
      refine gx_aload_n 0 dX11_fault_21 rfl rfl ?_
      refine gx_geti 11 14 (v := (I 59 14)) dX11_fault_22 fl_X11_27 rfl rfl rfl ?_
      refine gx_goto 29 dX11_fault_25 (by decide) ?_
      exact gx_iret dX11_fault_29 rfl rfl rfl ⟨_, _, _, _, rfl, rfl, h⟩
    · replace h := h.2 z
      refine gx_iconst (v := (-1)) dX11_fault_28 (by decide) ?_
      exact gx_iret dX11_fault_29 rfl rfl rfl ⟨_, _, _, _, rfl, rfl, h⟩
abbrev Z_M_isGuesser (g : gm_G) (Q : Bool → mI → mL → gm_cfg → Prop) (pc : Nat) (lv : List (Nat × Value)) (st : List Value) (I : mI) (L : mL) (c : gm_cfg) : Prop := gm_X g RX11 "isGuesser" cX11_isGuesser 3 (some .boolean) 2 0 0 (qZ Q) 0 0 pc lv st (SH, I, L, RR c)
abbrev C_M_isGuesser (g : gm_G) (x1 : Int64) (I : mI) (L : mL) (c : gm_cfg) (Q : Bool → mI → mL → gm_cfg → Prop) : Prop := gm_Met g yX11_isGuesser cX11_isGuesser 3 (some .boolean) 2 0 0 [.ref 59, .long x1] (SH, I, L, RR c) (qZ Q)
set_option maxRecDepth 100000 in
theorem e_M_isGuesser {g : gm_G} {Q : Bool → mI → mL → gm_cfg → Prop} {x1 : Int64} {I : mI} {L : mL} {c : gm_cfg} (h : (C_M_within g x1 0 (Int32.toInt64 ((I 60 0) - 1)) I L c (fun b4 I1 L2 c3 => Q b4 I1 L2 c3))) : C_M_isGuesser g x1 I L c Q := by
  refine gm_enter (lv := [(0, .ref 59), (1, .long x1)]) (by decide) rfl rfl rfl rfl ?_
  show Z_M_isGuesser g Q 0 [(0, .ref 59), (1, .long x1)] [] I L c
  refine gx_lload_n 1 dX11_isGuesser_0 rfl rfl ?_
  refine gx_lconst (v := 0) dX11_isGuesser_1 (by decide) ?_
  refine gx_aload_n 0 dX11_isGuesser_2 rfl rfl ?_
  refine gx_getr 11 1 (v := 60) dX11_isGuesser_3 fl_X11_13 rfl rfl rfl ?_
  refine gx_iconst (v := 0) dX11_isGuesser_6 (by decide) ?_
  refine gx_iald (v := (I 60 0)) dX11_isGuesser_7 rfl rfl (gm_vin rfl) (k := 0) rfl rfl ?_
  refine gx_iconst (v := 1) dX11_isGuesser_8 (by decide) ?_
  refine gx_isub dX11_isGuesser_9 ?_
  refine gx_i2l dX11_isGuesser_10 ?_
  refine gx_callS (As := [.long x1, .long 0, .long (Int32.toInt64 ((I 60 0) - 1))]) (st := []) dX11_isGuesser_11 ml_X11_125 mm_X11_within rfl rfl rfl rfl ⟨rfl, rfl⟩ h (fun v h2 hq => ?_)
  clear h
  obtain ⟨b4, I1, L2, c3, rfl, rfl, h⟩ := hq
  show Z_M_isGuesser g Q 14 [(0, .ref 59), (1, .long x1)] [.int (gm_b b4)] I1 L2 c3
  exact gx_zret .boolean dX11_isGuesser_14 rfl (gm_b_nar _) rfl rfl ⟨b4, _, _, _, rfl, rfl, h⟩
abbrev Z_M_guessesOf (g : gm_G) (Q : Int32 → mI → mL → gm_cfg → Prop) (pc : Nat) (lv : List (Nat × Value)) (st : List Value) (I : mI) (L : mL) (c : gm_cfg) : Prop := gm_X g RX11 "guessesOf" cX11_guessesOf 4 (some .int) 1 0 0 (qI Q) 0 0 pc lv st (SH, I, L, RR c)
abbrev C_M_guessesOf (g : gm_G) (x1 : Int32) (I : mI) (L : mL) (c : gm_cfg) (Q : Int32 → mI → mL → gm_cfg → Prop) : Prop := gm_Met g yX11_guessesOf cX11_guessesOf 4 (some .int) 1 0 0 [.ref 59, .int x1] (SH, I, L, RR c) (qI Q)
set_option maxRecDepth 100000 in
theorem e_M_guessesOf {g : gm_G} {Q : Int32 → mI → mL → gm_cfg → Prop} {x1 : Int32} {I : mI} {L : mL} {c : gm_cfg} (h : Z_M_guessesOf g Q 4 [(0, .ref 59), (1, .int x1), (2, .int 0), (3, .int 0)] [] I L c) : C_M_guessesOf g x1 I L c Q := by
  refine gm_enter (lv := [(0, .ref 59), (1, .int x1)]) (by decide) rfl rfl rfl rfl ?_
  show Z_M_guessesOf g Q 0 [(0, .ref 59), (1, .int x1)] [] I L c
  refine gx_iconst (v := 0) dX11_guessesOf_0 (by decide) ?_
  refine gx_istore_n (lv' := [(0, .ref 59), (1, .int x1), (2, .int 0)]) dX11_guessesOf_1 rfl rfl rfl ?_
  refine gx_iconst (v := 0) dX11_guessesOf_2 (by decide) ?_
  refine gx_istore_n (lv' := [(0, .ref 59), (1, .int x1), (2, .int 0), (3, .int 0)]) dX11_guessesOf_3 rfl rfl rfl ?_
  exact h
set_option maxRecDepth 100000 in
theorem r_M_guessesOf_4 {g : gm_G} {Q : Int32 → mI → mL → gm_cfg → Prop} {x1 x2 x3 : Int32} {I : mI} {L : mL} {c : gm_cfg} (h : (((I 60 1) ≤ x3 → Q x2 I L c) ∧ (¬ (I 60 1) ≤ x3 → (vp_in (29 + x3) 330 ∧ (((I 60 (Int32.toNatClampNeg (29 + x3))) = x1 → Z_M_guessesOf g Q 4 [(0, .ref 59), (1, .int x1), (2, .int (x2 + 1)), (3, .int (x3 + 1))] [] I L c) ∧ (¬ (I 60 (Int32.toNatClampNeg (29 + x3))) = x1 → Z_M_guessesOf g Q 4 [(0, .ref 59), (1, .int x1), (2, .int (x2 + 0)), (3, .int (x3 + 1))] [] I L c)))))) : Z_M_guessesOf g Q 4 [(0, .ref 59), (1, .int x1), (2, .int x2), (3, .int x3)] [] I L c := by
  refine gx_iload_n 3 dX11_guessesOf_4 rfl rfl ?_
  refine gx_aload_n 0 dX11_guessesOf_5 rfl rfl ?_
  refine gx_getr 11 1 (v := 60) dX11_guessesOf_6 fl_X11_13 rfl rfl rfl ?_
  refine gx_iconst (v := 1) dX11_guessesOf_9 (by decide) ?_
  refine gx_iald (v := (I 60 1)) dX11_guessesOf_10 rfl rfl (gm_vin rfl) (k := 1) rfl rfl ?_
  refine gx_icmp_ge 41 dX11_guessesOf_11 (by decide) ⟨fun z => ?_, fun z => ?_⟩
  · replace h := h.1 z
    refine gx_iload_n 2 dX11_guessesOf_41 rfl rfl ?_
    exact gx_iret dX11_guessesOf_42 rfl rfl rfl ⟨_, _, _, _, rfl, rfl, h⟩
  · replace h := h.2 z
    refine gx_iload_n 2 dX11_guessesOf_14 rfl rfl ?_
    refine gx_aload_n 0 dX11_guessesOf_15 rfl rfl ?_
    refine gx_getr 11 1 (v := 60) dX11_guessesOf_16 fl_X11_13 rfl rfl rfl ?_
    refine gx_bipush (v := 29) dX11_guessesOf_19 (by decide) ?_
    refine gx_iload_n 3 dX11_guessesOf_21 rfl rfl ?_
    refine gx_iadd dX11_guessesOf_22 ?_
    obtain ⟨hi, h⟩ := h
    refine gx_iald (v := (I 60 (Int32.toNatClampNeg (29 + x3)))) dX11_guessesOf_23 rfl rfl hi (k := (Int32.toNatClampNeg (29 + x3))) rfl rfl ?_
    refine gx_iload_n 1 dX11_guessesOf_24 rfl rfl ?_
    refine gx_icmp_ne 32 dX11_guessesOf_25 (by decide) ⟨fun z => ?_, fun z => ?_⟩
    · replace h := h.1 z
      refine gx_iconst (v := 1) dX11_guessesOf_28 (by decide) ?_
      refine gx_goto 33 dX11_guessesOf_29 (by decide) ?_
      refine gx_iadd dX11_guessesOf_33 ?_
      refine gx_istore_n (lv' := [(0, .ref 59), (1, .int x1), (2, .int (x2 + 1)), (3, .int x3)]) dX11_guessesOf_34 rfl rfl rfl ?_
      refine gx_iinc (v := (x3 + 1)) (lv' := [(0, .ref 59), (1, .int x1), (2, .int (x2 + 1)), (3, .int (x3 + 1))]) 3 dX11_guessesOf_35 rfl rfl rfl rfl ?_
      refine gx_goto 4 dX11_guessesOf_38 (by decide) ?_
      exact h
    · replace h := h.2 z
      refine gx_iconst (v := 0) dX11_guessesOf_32 (by decide) ?_
      refine gx_iadd dX11_guessesOf_33 ?_
      refine gx_istore_n (lv' := [(0, .ref 59), (1, .int x1), (2, .int (x2 + 0)), (3, .int x3)]) dX11_guessesOf_34 rfl rfl rfl ?_
      refine gx_iinc (v := (x3 + 1)) (lv' := [(0, .ref 59), (1, .int x1), (2, .int (x2 + 0)), (3, .int (x3 + 1))]) 3 dX11_guessesOf_35 rfl rfl rfl rfl ?_
      refine gx_goto 4 dX11_guessesOf_38 (by decide) ?_
      exact h
abbrev Z_M_latestOf (g : gm_G) (Q : Int32 → mI → mL → gm_cfg → Prop) (pc : Nat) (lv : List (Nat × Value)) (st : List Value) (I : mI) (L : mL) (c : gm_cfg) : Prop := gm_X g RX11 "latestOf" cX11_latestOf 3 (some .int) 1 0 0 (qI Q) 0 0 pc lv st (SH, I, L, RR c)
abbrev C_M_latestOf (g : gm_G) (x1 : Int32) (I : mI) (L : mL) (c : gm_cfg) (Q : Int32 → mI → mL → gm_cfg → Prop) : Prop := gm_Met g yX11_latestOf cX11_latestOf 3 (some .int) 1 0 0 [.ref 59, .int x1] (SH, I, L, RR c) (qI Q)
set_option maxRecDepth 100000 in
theorem e_M_latestOf {g : gm_G} {Q : Int32 → mI → mL → gm_cfg → Prop} {x1 : Int32} {I : mI} {L : mL} {c : gm_cfg} (h : Z_M_latestOf g Q 9 [(0, .ref 59), (1, .int x1), (2, .int ((I 60 1) - 1))] [] I L c) : C_M_latestOf g x1 I L c Q := by
  refine gm_enter (lv := [(0, .ref 59), (1, .int x1)]) (by decide) rfl rfl rfl rfl ?_
  show Z_M_latestOf g Q 0 [(0, .ref 59), (1, .int x1)] [] I L c
  refine gx_aload_n 0 dX11_latestOf_0 rfl rfl ?_
  refine gx_getr 11 1 (v := 60) dX11_latestOf_1 fl_X11_13 rfl rfl rfl ?_
  refine gx_iconst (v := 1) dX11_latestOf_4 (by decide) ?_
  refine gx_iald (v := (I 60 1)) dX11_latestOf_5 rfl rfl (gm_vin rfl) (k := 1) rfl rfl ?_
  refine gx_iconst (v := 1) dX11_latestOf_6 (by decide) ?_
  refine gx_isub dX11_latestOf_7 ?_
  refine gx_istore_n (lv' := [(0, .ref 59), (1, .int x1), (2, .int ((I 60 1) - 1))]) dX11_latestOf_8 rfl rfl rfl ?_
  exact h
set_option maxRecDepth 100000 in
theorem r_M_latestOf_9 {g : gm_G} {Q : Int32 → mI → mL → gm_cfg → Prop} {x1 x2 : Int32} {I : mI} {L : mL} {c : gm_cfg} (h : ((x2 < 0 → Q x2 I L c) ∧ (¬ x2 < 0 → (vp_in (29 + x2) 330 ∧ (((I 60 (Int32.toNatClampNeg (29 + x2))) = x1 → Q x2 I L c) ∧ (¬ (I 60 (Int32.toNatClampNeg (29 + x2))) = x1 → Z_M_latestOf g Q 9 [(0, .ref 59), (1, .int x1), (2, .int (x2 + (-1)))] [] I L c)))))) : Z_M_latestOf g Q 9 [(0, .ref 59), (1, .int x1), (2, .int x2)] [] I L c := by
  refine gx_iload_n 2 dX11_latestOf_9 rfl rfl ?_
  refine gx_if_lt 32 dX11_latestOf_10 (by decide) ⟨fun z => ?_, fun z => ?_⟩
  · replace h := h.1 z
    refine gx_iload_n 2 dX11_latestOf_32 rfl rfl ?_
    exact gx_iret dX11_latestOf_33 rfl rfl rfl ⟨_, _, _, _, rfl, rfl, h⟩
  · replace h := h.2 z
    refine gx_aload_n 0 dX11_latestOf_13 rfl rfl ?_
    refine gx_getr 11 1 (v := 60) dX11_latestOf_14 fl_X11_13 rfl rfl rfl ?_
    refine gx_bipush (v := 29) dX11_latestOf_17 (by decide) ?_
    refine gx_iload_n 2 dX11_latestOf_19 rfl rfl ?_
    refine gx_iadd dX11_latestOf_20 ?_
    obtain ⟨hi, h⟩ := h
    refine gx_iald (v := (I 60 (Int32.toNatClampNeg (29 + x2)))) dX11_latestOf_21 rfl rfl hi (k := (Int32.toNatClampNeg (29 + x2))) rfl rfl ?_
    refine gx_iload_n 1 dX11_latestOf_22 rfl rfl ?_
    refine gx_icmp_eq 32 dX11_latestOf_23 (by decide) ⟨fun z => ?_, fun z => ?_⟩
    · replace h := h.1 z
      refine gx_iload_n 2 dX11_latestOf_32 rfl rfl ?_
      exact gx_iret dX11_latestOf_33 rfl rfl rfl ⟨_, _, _, _, rfl, rfl, h⟩
    · replace h := h.2 z
      refine gx_iinc (v := (x2 + (-1))) (lv' := [(0, .ref 59), (1, .int x1), (2, .int (x2 + (-1)))]) 2 dX11_latestOf_26 rfl rfl rfl rfl ?_
      refine gx_goto 9 dX11_latestOf_29 (by decide) ?_
      exact h
abbrev Z_M_guesser (g : gm_G) (Q : Int32 → mI → mL → gm_cfg → Prop) (pc : Nat) (lv : List (Nat × Value)) (st : List Value) (I : mI) (L : mL) (c : gm_cfg) : Prop := gm_X g RX11 "guesser" cX11_guesser 3 (some .int) 3 0 0 (qI Q) 0 0 pc lv st (SH, I, L, RR c)
abbrev C_M_guesser (g : gm_G) (x1 : Int32) (x2 : Int32) (I : mI) (L : mL) (c : gm_cfg) (Q : Int32 → mI → mL → gm_cfg → Prop) : Prop := gm_Met g yX11_guesser cX11_guesser 3 (some .int) 3 0 0 [.ref 59, .int x1, .int x2] (SH, I, L, RR c) (qI Q)
set_option maxRecDepth 100000 in
theorem e_M_guesser {g : gm_G} {Q : Int32 → mI → mL → gm_cfg → Prop} {x1 x2 : Int32} {I : mI} {L : mL} {c : gm_cfg} (h : (C_M_isGuesser g (Int32.toInt64 x1) (gm_u I 59 0 0) L c (fun b4 I1 L2 c3 => ((b4 = false → Q (-2) I1 L2 c3) ∧ (b4 = true → (C_M_within g (Int32.toInt64 x2) 0 4 I1 L2 c3 (fun b8 I5 L6 c7 => ((b8 = false → Q (-2) I5 L6 c7) ∧ (b8 = true → ((3 ≤ x2 → ((x2 = 3 → (C_M_guessesOf g x1 I5 L6 c7 (fun r12 I9 L10 c11 => Q r12 I9 L10 c11))) ∧ (¬ x2 = 3 → (C_M_latestOf g x1 I5 L6 c7 (fun r16 I13 L14 c15 => Q r16 I13 L14 c15))))) ∧ (¬ 3 ≤ x2 → (vp_in ((11 + (6 * x2)) + x1) 330 ∧ Q (I5 60 (Int32.toNatClampNeg ((11 + (6 * x2)) + x1))) I5 L6 c7)))))))))))) : C_M_guesser g x1 x2 I L c Q := by
  refine gm_enter (lv := [(0, .ref 59), (1, .int x1), (2, .int x2)]) (by decide) rfl rfl rfl rfl ?_
  show Z_M_guesser g Q 0 [(0, .ref 59), (1, .int x1), (2, .int x2)] [] I L c
  refine gx_aload_n 0 dX11_guesser_0 rfl rfl ?_
  refine gx_iconst (v := 0) dX11_guesser_1 (by decide) ?_
  refine gx_puti 11 0 dX11_guesser_2 fl_X11_1 rfl rfl rfl ⟨rfl, rfl⟩ ?_
  show Z_M_guesser g Q 5 [(0, .ref 59), (1, .int x1), (2, .int x2)] [] (gm_u I 59 0 0) L c
  refine gx_aload_n 0 dX11_guesser_5 rfl rfl ?_
  refine gx_iload_n 1 dX11_guesser_6 rfl rfl ?_
  refine gx_i2l dX11_guesser_7 ?_
  refine gx_callV 11 (As := [.long (Int32.toInt64 x1)]) (st := []) dX11_guesser_8 ml_X11_145 mm_X11_isGuesser rfl rfl rfl rfl rfl rfl ⟨rfl, rfl⟩ h (fun v h2 hq => ?_)
  clear h
  obtain ⟨b4, I1, L2, c3, rfl, rfl, h⟩ := hq
  show Z_M_guesser g Q 11 [(0, .ref 59), (1, .int x1), (2, .int x2)] [.int (gm_b b4)] I1 L2 c3
  refine gx_if_eq 26 dX11_guesser_11 (by decide) ⟨fun z => ?_, fun z => ?_⟩
  · replace h := h.1 (gm_b0.mp z)
    refine gx_bipush (v := (-2)) dX11_guesser_26 (by decide) ?_
    exact gx_iret dX11_guesser_28 rfl rfl rfl ⟨_, _, _, _, rfl, rfl, h⟩
  · replace h := h.2 (gm_bn0 z)
    refine gx_iload_n 2 dX11_guesser_14 rfl rfl ?_
    refine gx_i2l dX11_guesser_15 ?_
    refine gx_lconst (v := 0) dX11_guesser_16 (by decide) ?_
    refine gx_ldc2 dX11_guesser_17 kl_X11_149 ?_
    refine gx_callS (As := [.long (Int32.toInt64 x2), .long 0, .long 4]) (st := []) dX11_guesser_20 ml_X11_125 mm_X11_within rfl rfl rfl rfl ⟨rfl, rfl⟩ h (fun v h2 hq => ?_)
    clear h
    obtain ⟨b8, I5, L6, c7, rfl, rfl, h⟩ := hq
    show Z_M_guesser g Q 23 [(0, .ref 59), (1, .int x1), (2, .int x2)] [.int (gm_b b8)] I5 L6 c7
    refine gx_if_ne 29 dX11_guesser_23 (by decide) ⟨fun z => ?_, fun z => ?_⟩
    · replace h := h.1 (gm_b0.mp z)
      refine gx_bipush (v := (-2)) dX11_guesser_26 (by decide) ?_
      exact gx_iret dX11_guesser_28 rfl rfl rfl ⟨_, _, _, _, rfl, rfl, h⟩
    · replace h := h.2 (gm_bn0 z)
      refine gx_iload_n 2 dX11_guesser_29 rfl rfl ?_
      refine gx_iconst (v := 3) dX11_guesser_30 (by decide) ?_
      refine gx_icmp_ge 51 dX11_guesser_31 (by decide) ⟨fun z => ?_, fun z => ?_⟩
      · replace h := h.1 z
        refine gx_iload_n 2 dX11_guesser_51 rfl rfl ?_
        refine gx_iconst (v := 3) dX11_guesser_52 (by decide) ?_
        refine gx_icmp_ne 64 dX11_guesser_53 (by decide) ⟨fun z => ?_, fun z => ?_⟩
        · replace h := h.1 z
          refine gx_aload_n 0 dX11_guesser_56 rfl rfl ?_
          refine gx_iload_n 1 dX11_guesser_57 rfl rfl ?_
          refine gx_callV 11 (As := [.int x1]) (st := []) dX11_guesser_58 ml_X11_151 mm_X11_guessesOf rfl rfl rfl rfl rfl rfl ⟨rfl, rfl⟩ h (fun v h2 hq => ?_)
          clear h
          obtain ⟨r12, I9, L10, c11, rfl, rfl, h⟩ := hq
          show Z_M_guesser g Q 61 [(0, .ref 59), (1, .int x1), (2, .int x2)] [.int r12] I9 L10 c11
          refine gx_goto 69 dX11_guesser_61 (by decide) ?_
          exact gx_iret dX11_guesser_69 rfl rfl rfl ⟨_, _, _, _, rfl, rfl, h⟩
        · replace h := h.2 z
          refine gx_aload_n 0 dX11_guesser_64 rfl rfl ?_
          refine gx_iload_n 1 dX11_guesser_65 rfl rfl ?_
          refine gx_callV 11 (As := [.int x1]) (st := []) dX11_guesser_66 ml_X11_154 mm_X11_latestOf rfl rfl rfl rfl rfl rfl ⟨rfl, rfl⟩ h (fun v h2 hq => ?_)
          clear h
          obtain ⟨r16, I13, L14, c15, rfl, rfl, h⟩ := hq
          show Z_M_guesser g Q 69 [(0, .ref 59), (1, .int x1), (2, .int x2)] [.int r16] I13 L14 c15
          exact gx_iret dX11_guesser_69 rfl rfl rfl ⟨_, _, _, _, rfl, rfl, h⟩
      · replace h := h.2 z
        refine gx_aload_n 0 dX11_guesser_34 rfl rfl ?_
        refine gx_getr 11 1 (v := 60) dX11_guesser_35 fl_X11_13 rfl rfl rfl ?_
        refine gx_bipush (v := 11) dX11_guesser_38 (by decide) ?_
        refine gx_bipush (v := 6) dX11_guesser_40 (by decide) ?_
        refine gx_iload_n 2 dX11_guesser_42 rfl rfl ?_
        refine gx_imul dX11_guesser_43 ?_
        refine gx_iadd dX11_guesser_44 ?_
        refine gx_iload_n 1 dX11_guesser_45 rfl rfl ?_
        refine gx_iadd dX11_guesser_46 ?_
        obtain ⟨hi, h⟩ := h
        refine gx_iald (v := (I5 60 (Int32.toNatClampNeg ((11 + (6 * x2)) + x1)))) dX11_guesser_47 rfl rfl hi (k := (Int32.toNatClampNeg ((11 + (6 * x2)) + x1))) rfl rfl ?_
        refine gx_goto 69 dX11_guesser_48 (by decide) ?_
        exact gx_iret dX11_guesser_69 rfl rfl rfl ⟨_, _, _, _, rfl, rfl, h⟩
abbrev Z_M_sightOf (g : gm_G) (Q : Int32 → mI → mL → gm_cfg → Prop) (pc : Nat) (lv : List (Nat × Value)) (st : List Value) (I : mI) (L : mL) (c : gm_cfg) : Prop := gm_X g RX11 "sightOf" cX11_sightOf 3 (some .int) 1 0 0 (qI Q) 0 0 pc lv st (SH, I, L, RR c)
abbrev C_M_sightOf (g : gm_G) (x1 : Int32) (x2 : Int32) (I : mI) (L : mL) (c : gm_cfg) (Q : Int32 → mI → mL → gm_cfg → Prop) : Prop := gm_Met g yX11_sightOf cX11_sightOf 3 (some .int) 1 0 0 [.ref 59, .int x1, .int x2] (SH, I, L, RR c) (qI Q)
set_option maxRecDepth 100000 in
theorem e_M_sightOf {g : gm_G} {Q : Int32 → mI → mL → gm_cfg → Prop} {x1 x2 : Int32} {I : mI} {L : mL} {c : gm_cfg} (h : (vp_in (11 + x1) 330 ∧ Q ((x2 * (I 60 (Int32.toNatClampNeg (11 + x1)))) / 100) I L c)) : C_M_sightOf g x1 x2 I L c Q := by
  refine gm_enter (lv := [(0, .ref 59), (1, .int x1), (2, .int x2)]) (by decide) rfl rfl rfl rfl ?_
  show Z_M_sightOf g Q 0 [(0, .ref 59), (1, .int x1), (2, .int x2)] [] I L c
  refine gx_iload_n 2 dX11_sightOf_0 rfl rfl ?_
  refine gx_aload_n 0 dX11_sightOf_1 rfl rfl ?_
  refine gx_getr 11 1 (v := 60) dX11_sightOf_2 fl_X11_13 rfl rfl rfl ?_
  refine gx_bipush (v := 11) dX11_sightOf_5 (by decide) ?_
  refine gx_iload_n 1 dX11_sightOf_7 rfl rfl ?_
  refine gx_iadd dX11_sightOf_8 ?_
  obtain ⟨hi, h⟩ := h
  refine gx_iald (v := (I 60 (Int32.toNatClampNeg (11 + x1)))) dX11_sightOf_9 rfl rfl hi (k := (Int32.toNatClampNeg (11 + x1))) rfl rfl ?_
  refine gx_imul dX11_sightOf_10 ?_
  refine gx_bipush (v := 100) dX11_sightOf_11 (by decide) ?_
  refine gx_idiv dX11_sightOf_13 (by decide) ?_
  exact gx_iret dX11_sightOf_14 rfl rfl rfl ⟨_, _, _, _, rfl, rfl, h⟩
abbrev Z_M_sight (g : gm_G) (Q : Int32 → mI → mL → gm_cfg → Prop) (pc : Nat) (lv : List (Nat × Value)) (st : List Value) (I : mI) (L : mL) (c : gm_cfg) : Prop := gm_X g RX11 "sight" cX11_sight 3 (some .int) 3 0 0 (qI Q) 0 0 pc lv st (SH, I, L, RR c)
abbrev C_M_sight (g : gm_G) (x1 : Int32) (x2 : Int32) (I : mI) (L : mL) (c : gm_cfg) (Q : Int32 → mI → mL → gm_cfg → Prop) : Prop := gm_Met g yX11_sight cX11_sight 3 (some .int) 3 0 0 [.ref 59, .int x1, .int x2] (SH, I, L, RR c) (qI Q)
set_option maxRecDepth 100000 in
theorem e_M_sight {g : gm_G} {Q : Int32 → mI → mL → gm_cfg → Prop} {x1 x2 : Int32} {I : mI} {L : mL} {c : gm_cfg} (h : (C_M_isGuesser g (Int32.toInt64 x1) (gm_u I 59 0 0) L c (fun b4 I1 L2 c3 => ((b4 = false → Q (-2) I1 L2 c3) ∧ (b4 = true → (C_M_within g (Int32.toInt64 x2) 1 999 I1 L2 c3 (fun b8 I5 L6 c7 => ((b8 = false → Q (-3) I5 L6 c7) ∧ (b8 = true → (C_M_sightOf g x1 x2 I5 L6 c7 (fun r12 I9 L10 c11 => Q r12 I9 L10 c11))))))))))) : C_M_sight g x1 x2 I L c Q := by
  refine gm_enter (lv := [(0, .ref 59), (1, .int x1), (2, .int x2)]) (by decide) rfl rfl rfl rfl ?_
  show Z_M_sight g Q 0 [(0, .ref 59), (1, .int x1), (2, .int x2)] [] I L c
  refine gx_aload_n 0 dX11_sight_0 rfl rfl ?_
  refine gx_iconst (v := 0) dX11_sight_1 (by decide) ?_
  refine gx_puti 11 0 dX11_sight_2 fl_X11_1 rfl rfl rfl ⟨rfl, rfl⟩ ?_
  show Z_M_sight g Q 5 [(0, .ref 59), (1, .int x1), (2, .int x2)] [] (gm_u I 59 0 0) L c
  refine gx_aload_n 0 dX11_sight_5 rfl rfl ?_
  refine gx_iload_n 1 dX11_sight_6 rfl rfl ?_
  refine gx_i2l dX11_sight_7 ?_
  refine gx_callV 11 (As := [.long (Int32.toInt64 x1)]) (st := []) dX11_sight_8 ml_X11_145 mm_X11_isGuesser rfl rfl rfl rfl rfl rfl ⟨rfl, rfl⟩ h (fun v h2 hq => ?_)
  clear h
  obtain ⟨b4, I1, L2, c3, rfl, rfl, h⟩ := hq
  show Z_M_sight g Q 11 [(0, .ref 59), (1, .int x1), (2, .int x2)] [.int (gm_b b4)] I1 L2 c3
  refine gx_if_ne 17 dX11_sight_11 (by decide) ⟨fun z => ?_, fun z => ?_⟩
  · replace h := h.1 (gm_b0.mp z)
    refine gx_bipush (v := (-2)) dX11_sight_14 (by decide) ?_
    exact gx_iret dX11_sight_16 rfl rfl rfl ⟨_, _, _, _, rfl, rfl, h⟩
  · replace h := h.2 (gm_bn0 z)
    refine gx_iload_n 2 dX11_sight_17 rfl rfl ?_
    refine gx_i2l dX11_sight_18 ?_
    refine gx_lconst (v := 1) dX11_sight_19 (by decide) ?_
    refine gx_ldc2 dX11_sight_20 kl_X11_157 ?_
    refine gx_callS (As := [.long (Int32.toInt64 x2), .long 1, .long 999]) (st := []) dX11_sight_23 ml_X11_125 mm_X11_within rfl rfl rfl rfl ⟨rfl, rfl⟩ h (fun v h2 hq => ?_)
    clear h
    obtain ⟨b8, I5, L6, c7, rfl, rfl, h⟩ := hq
    show Z_M_sight g Q 26 [(0, .ref 59), (1, .int x1), (2, .int x2)] [.int (gm_b b8)] I5 L6 c7
    refine gx_if_eq 38 dX11_sight_26 (by decide) ⟨fun z => ?_, fun z => ?_⟩
    · replace h := h.1 (gm_b0.mp z)
      refine gx_bipush (v := (-3)) dX11_sight_38 (by decide) ?_
      exact gx_iret dX11_sight_40 rfl rfl rfl ⟨_, _, _, _, rfl, rfl, h⟩
    · replace h := h.2 (gm_bn0 z)
      refine gx_aload_n 0 dX11_sight_29 rfl rfl ?_
      refine gx_iload_n 1 dX11_sight_30 rfl rfl ?_
      refine gx_iload_n 2 dX11_sight_31 rfl rfl ?_
      refine gx_callV 11 (As := [.int x1, .int x2]) (st := []) dX11_sight_32 ml_X11_159 mm_X11_sightOf rfl rfl rfl rfl rfl rfl ⟨rfl, rfl⟩ h (fun v h2 hq => ?_)
      clear h
      obtain ⟨r12, I9, L10, c11, rfl, rfl, h⟩ := hq
      show Z_M_sight g Q 35 [(0, .ref 59), (1, .int x1), (2, .int x2)] [.int r12] I9 L10 c11
      refine gx_goto 40 dX11_sight_35 (by decide) ?_
      exact gx_iret dX11_sight_40 rfl rfl rfl ⟨_, _, _, _, rfl, rfl, h⟩
abbrev Z_M_isGrid (g : gm_G) (Q : Bool → mI → mL → gm_cfg → Prop) (pc : Nat) (lv : List (Nat × Value)) (st : List Value) (I : mI) (L : mL) (c : gm_cfg) : Prop := gm_X g RX11 "isGrid" cX11_isGrid 2 (some .boolean) 2 0 0 (qZ Q) 0 0 pc lv st (SH, I, L, RR c)
abbrev C_M_isGrid (g : gm_G) (x1 : Int32) (I : mI) (L : mL) (c : gm_cfg) (Q : Bool → mI → mL → gm_cfg → Prop) : Prop := gm_Met g yX11_isGrid cX11_isGrid 2 (some .boolean) 2 0 0 [.ref 59, .int x1] (SH, I, L, RR c) (qZ Q)
set_option maxRecDepth 100000 in
theorem e_M_isGrid {g : gm_G} {Q : Bool → mI → mL → gm_cfg → Prop} {x1 : Int32} {I : mI} {L : mL} {c : gm_cfg} (h : (C_M_within g (Int32.toInt64 x1) (Int32.toInt64 (I 60 2)) (Int32.toInt64 (I 60 3)) I L c (fun b4 I1 L2 c3 => Q b4 I1 L2 c3))) : C_M_isGrid g x1 I L c Q := by
  refine gm_enter (lv := [(0, .ref 59), (1, .int x1)]) (by decide) rfl rfl rfl rfl ?_
  show Z_M_isGrid g Q 0 [(0, .ref 59), (1, .int x1)] [] I L c
  refine gx_iload_n 1 dX11_isGrid_0 rfl rfl ?_
  refine gx_i2l dX11_isGrid_1 ?_
  refine gx_aload_n 0 dX11_isGrid_2 rfl rfl ?_
  refine gx_getr 11 1 (v := 60) dX11_isGrid_3 fl_X11_13 rfl rfl rfl ?_
  refine gx_iconst (v := 2) dX11_isGrid_6 (by decide) ?_
  refine gx_iald (v := (I 60 2)) dX11_isGrid_7 rfl rfl (gm_vin rfl) (k := 2) rfl rfl ?_
  refine gx_i2l dX11_isGrid_8 ?_
  refine gx_aload_n 0 dX11_isGrid_9 rfl rfl ?_
  refine gx_getr 11 1 (v := 60) dX11_isGrid_10 fl_X11_13 rfl rfl rfl ?_
  refine gx_iconst (v := 3) dX11_isGrid_13 (by decide) ?_
  refine gx_iald (v := (I 60 3)) dX11_isGrid_14 rfl rfl (gm_vin rfl) (k := 3) rfl rfl ?_
  refine gx_i2l dX11_isGrid_15 ?_
  refine gx_callS (As := [.long (Int32.toInt64 x1), .long (Int32.toInt64 (I 60 2)), .long (Int32.toInt64 (I 60 3))]) (st := []) dX11_isGrid_16 ml_X11_125 mm_X11_within rfl rfl rfl rfl ⟨rfl, rfl⟩ h (fun v h2 hq => ?_)
  clear h
  obtain ⟨b4, I1, L2, c3, rfl, rfl, h⟩ := hq
  show Z_M_isGrid g Q 19 [(0, .ref 59), (1, .int x1)] [.int (gm_b b4)] I1 L2 c3
  exact gx_zret .boolean dX11_isGrid_19 rfl (gm_b_nar _) rfl rfl ⟨b4, _, _, _, rfl, rfl, h⟩
abbrev Z_M_off (g : gm_G) (Q : Int32 → mI → mL → gm_cfg → Prop) (pc : Nat) (lv : List (Nat × Value)) (st : List Value) (I : mI) (L : mL) (c : gm_cfg) : Prop := gm_X g RX11 "off" cX11_off 2 (some .int) 1 0 0 (qI Q) 0 0 pc lv st (SH, I, L, RR c)
abbrev C_M_off (g : gm_G) (x0 : Int32) (x1 : Int32) (I : mI) (L : mL) (c : gm_cfg) (Q : Int32 → mI → mL → gm_cfg → Prop) : Prop := gm_Met g yX11_off cX11_off 2 (some .int) 1 0 0 [.int x0, .int x1] (SH, I, L, RR c) (qI Q)
set_option maxRecDepth 100000 in
theorem e_M_off {g : gm_G} {Q : Int32 → mI → mL → gm_cfg → Prop} {x0 x1 : Int32} {I : mI} {L : mL} {c : gm_cfg} (h : ((x0 ≤ x1 → Q (x1 - x0) I L c) ∧ (¬ x0 ≤ x1 → Q (x0 - x1) I L c))) : C_M_off g x0 x1 I L c Q := by
  refine gm_enter (lv := [(0, .int x0), (1, .int x1)]) (by decide) rfl rfl rfl rfl ?_
  show Z_M_off g Q 0 [(0, .int x0), (1, .int x1)] [] I L c
  refine gx_iload_n 0 dX11_off_0 rfl rfl ?_
  refine gx_iload_n 1 dX11_off_1 rfl rfl ?_
  refine gx_icmp_le 11 dX11_off_2 (by decide) ⟨fun z => ?_, fun z => ?_⟩
  · replace h := h.1 z
    refine gx_iload_n 1 dX11_off_11 rfl rfl ?_
    refine gx_iload_n 0 dX11_off_12 rfl rfl ?_
    refine gx_isub dX11_off_13 ?_
    exact gx_iret dX11_off_14 rfl rfl rfl ⟨_, _, _, _, rfl, rfl, h⟩
  · replace h := h.2 z
    refine gx_iload_n 0 dX11_off_5 rfl rfl ?_
    refine gx_iload_n 1 dX11_off_6 rfl rfl ?_
    refine gx_isub dX11_off_7 ?_
    refine gx_goto 14 dX11_off_8 (by decide) ?_
    exact gx_iret dX11_off_14 rfl rfl rfl ⟨_, _, _, _, rfl, rfl, h⟩
abbrev Z_M_weightOf (g : gm_G) (Q : Int32 → mI → mL → gm_cfg → Prop) (pc : Nat) (lv : List (Nat × Value)) (st : List Value) (I : mI) (L : mL) (c : gm_cfg) : Prop := gm_X g RX11 "weightOf" cX11_weightOf 3 (some .int) 2 0 0 (qI Q) 0 0 pc lv st (SH, I, L, RR c)
abbrev C_M_weightOf (g : gm_G) (x1 : Int32) (I : mI) (L : mL) (c : gm_cfg) (Q : Int32 → mI → mL → gm_cfg → Prop) : Prop := gm_Met g yX11_weightOf cX11_weightOf 3 (some .int) 2 0 0 [.ref 59, .int x1] (SH, I, L, RR c) (qI Q)
set_option maxRecDepth 100000 in
theorem e_M_weightOf {g : gm_G} {Q : Int32 → mI → mL → gm_cfg → Prop} {x1 : Int32} {I : mI} {L : mL} {c : gm_cfg} (h : (((I 60 10) = (-1) → Q 1 I L c) ∧ (¬ (I 60 10) = (-1) → (C_M_off g x1 (I 60 9) I L c (fun r4 I1 L2 c3 => ((1 ≤ (9 - ((I 60 10) * r4)) → Q (9 - ((I 60 10) * r4)) I1 L2 c3) ∧ (¬ 1 ≤ (9 - ((I 60 10) * r4)) → Q 1 I1 L2 c3))))))) : C_M_weightOf g x1 I L c Q := by
  refine gm_enter (lv := [(0, .ref 59), (1, .int x1)]) (by decide) rfl rfl rfl rfl ?_
  show Z_M_weightOf g Q 0 [(0, .ref 59), (1, .int x1)] [] I L c
  refine gx_aload_n 0 dX11_weightOf_0 rfl rfl ?_
  refine gx_getr 11 1 (v := 60) dX11_weightOf_1 fl_X11_13 rfl rfl rfl ?_
  refine gx_bipush (v := 10) dX11_weightOf_4 (by decide) ?_
  refine gx_iald (v := (I 60 10)) dX11_weightOf_6 rfl rfl (gm_vin rfl) (k := 10) rfl rfl ?_
  refine gx_iconst (v := (-1)) dX11_weightOf_7 (by decide) ?_
  refine gx_icmp_ne 15 dX11_weightOf_8 (by decide) ⟨fun z => ?_, fun z => ?_⟩
  · replace h := h.1 z
    refine gx_iconst (v := 1) dX11_weightOf_11 (by decide) ?_
    refine gx_goto 37 dX11_weightOf_12 (by decide) ?_
    refine gx_istore_n (lv' := [(0, .ref 59), (1, .int x1), (2, .int 1)]) dX11_weightOf_37 rfl rfl rfl ?_
    refine gx_iload_n 2 dX11_weightOf_38 rfl rfl ?_
    refine gx_iconst (v := 1) dX11_weightOf_39 (by decide) ?_
    refine gx_icmp_ge 47 dX11_weightOf_40 (by decide) (br_t (by decide) ?_)
    refine gx_iload_n 2 dX11_weightOf_47 rfl rfl ?_
    exact gx_iret dX11_weightOf_48 rfl rfl rfl ⟨_, _, _, _, rfl, rfl, h⟩
  · replace h := h.2 z
    refine gx_bipush (v := 9) dX11_weightOf_15 (by decide) ?_
    refine gx_aload_n 0 dX11_weightOf_17 rfl rfl ?_
    refine gx_getr 11 1 (v := 60) dX11_weightOf_18 fl_X11_13 rfl rfl rfl ?_
    refine gx_bipush (v := 10) dX11_weightOf_21 (by decide) ?_
    refine gx_iald (v := (I 60 10)) dX11_weightOf_23 rfl rfl (gm_vin rfl) (k := 10) rfl rfl ?_
    refine gx_iload_n 1 dX11_weightOf_24 rfl rfl ?_
    refine gx_aload_n 0 dX11_weightOf_25 rfl rfl ?_
    refine gx_getr 11 1 (v := 60) dX11_weightOf_26 fl_X11_13 rfl rfl rfl ?_
    refine gx_bipush (v := 9) dX11_weightOf_29 (by decide) ?_
    refine gx_iald (v := (I 60 9)) dX11_weightOf_31 rfl rfl (gm_vin rfl) (k := 9) rfl rfl ?_
    refine gx_callS (As := [.int x1, .int (I 60 9)]) (st := [.int (I 60 10), .int 9]) dX11_weightOf_32 ml_X11_162 mm_X11_off rfl rfl rfl rfl ⟨rfl, rfl⟩ h (fun v h2 hq => ?_)
    clear h
    obtain ⟨r4, I1, L2, c3, rfl, rfl, h⟩ := hq
    show Z_M_weightOf g Q 35 [(0, .ref 59), (1, .int x1)] [.int r4, .int (I 60 10), .int 9] I1 L2 c3
    refine gx_imul dX11_weightOf_35 ?_
    refine gx_isub dX11_weightOf_36 ?_
    refine gx_istore_n (lv' := [(0, .ref 59), (1, .int x1), (2, .int (9 - ((I 60 10) * r4)))]) dX11_weightOf_37 rfl rfl rfl ?_
    refine gx_iload_n 2 dX11_weightOf_38 rfl rfl ?_
    refine gx_iconst (v := 1) dX11_weightOf_39 (by decide) ?_
    refine gx_icmp_ge 47 dX11_weightOf_40 (by decide) ⟨fun z => ?_, fun z => ?_⟩
    · replace h := h.1 z
      refine gx_iload_n 2 dX11_weightOf_47 rfl rfl ?_
      exact gx_iret dX11_weightOf_48 rfl rfl rfl ⟨_, _, _, _, rfl, rfl, h⟩
    · replace h := h.2 z
      refine gx_iconst (v := 1) dX11_weightOf_43 (by decide) ?_
      refine gx_goto 48 dX11_weightOf_44 (by decide) ?_
      exact gx_iret dX11_weightOf_48 rfl rfl rfl ⟨_, _, _, _, rfl, rfl, h⟩
abbrev Z_M_weight (g : gm_G) (Q : Int32 → mI → mL → gm_cfg → Prop) (pc : Nat) (lv : List (Nat × Value)) (st : List Value) (I : mI) (L : mL) (c : gm_cfg) : Prop := gm_X g RX11 "weight" cX11_weight 2 (some .int) 3 0 0 (qI Q) 0 0 pc lv st (SH, I, L, RR c)
abbrev C_M_weight (g : gm_G) (x1 : Int32) (I : mI) (L : mL) (c : gm_cfg) (Q : Int32 → mI → mL → gm_cfg → Prop) : Prop := gm_Met g yX11_weight cX11_weight 2 (some .int) 3 0 0 [.ref 59, .int x1] (SH, I, L, RR c) (qI Q)
set_option maxRecDepth 100000 in
theorem e_M_weight {g : gm_G} {Q : Int32 → mI → mL → gm_cfg → Prop} {x1 : Int32} {I : mI} {L : mL} {c : gm_cfg} (h : (C_M_isGrid g x1 (gm_u I 59 0 0) L c (fun b4 I1 L2 c3 => ((b4 = false → Q (-3) I1 L2 c3) ∧ (b4 = true → (C_M_weightOf g x1 I1 L2 c3 (fun r8 I5 L6 c7 => Q r8 I5 L6 c7))))))) : C_M_weight g x1 I L c Q := by
  refine gm_enter (lv := [(0, .ref 59), (1, .int x1)]) (by decide) rfl rfl rfl rfl ?_
  show Z_M_weight g Q 0 [(0, .ref 59), (1, .int x1)] [] I L c
  refine gx_aload_n 0 dX11_weight_0 rfl rfl ?_
  refine gx_iconst (v := 0) dX11_weight_1 (by decide) ?_
  refine gx_puti 11 0 dX11_weight_2 fl_X11_1 rfl rfl rfl ⟨rfl, rfl⟩ ?_
  show Z_M_weight g Q 5 [(0, .ref 59), (1, .int x1)] [] (gm_u I 59 0 0) L c
  refine gx_aload_n 0 dX11_weight_5 rfl rfl ?_
  refine gx_iload_n 1 dX11_weight_6 rfl rfl ?_
  refine gx_callV 11 (As := [.int x1]) (st := []) dX11_weight_7 ml_X11_165 mm_X11_isGrid rfl rfl rfl rfl rfl rfl ⟨rfl, rfl⟩ h (fun v h2 hq => ?_)
  clear h
  obtain ⟨b4, I1, L2, c3, rfl, rfl, h⟩ := hq
  show Z_M_weight g Q 10 [(0, .ref 59), (1, .int x1)] [.int (gm_b b4)] I1 L2 c3
  refine gx_if_eq 21 dX11_weight_10 (by decide) ⟨fun z => ?_, fun z => ?_⟩
  · replace h := h.1 (gm_b0.mp z)
    refine gx_bipush (v := (-3)) dX11_weight_21 (by decide) ?_
    exact gx_iret dX11_weight_23 rfl rfl rfl ⟨_, _, _, _, rfl, rfl, h⟩
  · replace h := h.2 (gm_bn0 z)
    refine gx_aload_n 0 dX11_weight_13 rfl rfl ?_
    refine gx_iload_n 1 dX11_weight_14 rfl rfl ?_
    refine gx_callV 11 (As := [.int x1]) (st := []) dX11_weight_15 ml_X11_168 mm_X11_weightOf rfl rfl rfl rfl rfl rfl ⟨rfl, rfl⟩ h (fun v h2 hq => ?_)
    clear h
    obtain ⟨r8, I5, L6, c7, rfl, rfl, h⟩ := hq
    show Z_M_weight g Q 18 [(0, .ref 59), (1, .int x1)] [.int r8] I5 L6 c7
    refine gx_goto 23 dX11_weight_18 (by decide) ?_
    exact gx_iret dX11_weight_23 rfl rfl rfl ⟨_, _, _, _, rfl, rfl, h⟩
abbrev Z_M_jar (g : gm_G) (Q : Int32 → mI → mL → gm_cfg → Prop) (pc : Nat) (lv : List (Nat × Value)) (st : List Value) (I : mI) (L : mL) (c : gm_cfg) : Prop := gm_X g RX11 "jar" cX11_jar 3 (some .int) 2 0 0 (qI Q) 0 0 pc lv st (SH, I, L, RR c)
abbrev C_M_jar (g : gm_G) (x1 : Int32) (I : mI) (L : mL) (c : gm_cfg) (Q : Int32 → mI → mL → gm_cfg → Prop) : Prop := gm_Met g yX11_jar cX11_jar 3 (some .int) 2 0 0 [.ref 59, .int x1] (SH, I, L, RR c) (qI Q)
set_option maxRecDepth 100000 in
theorem e_M_jar {g : gm_G} {Q : Int32 → mI → mL → gm_cfg → Prop} {x1 : Int32} {I : mI} {L : mL} {c : gm_cfg} (h : (C_M_within g (Int32.toInt64 x1) 0 999 (gm_u I 59 0 0) L c (fun b4 I1 L2 c3 => ((b4 = false → Q (-3) I1 L2 c3) ∧ (b4 = true → Q (I1 60 6) (gm_u I1 60 6 x1) L2 c3))))) : C_M_jar g x1 I L c Q := by
  refine gm_enter (lv := [(0, .ref 59), (1, .int x1)]) (by decide) rfl rfl rfl rfl ?_
  show Z_M_jar g Q 0 [(0, .ref 59), (1, .int x1)] [] I L c
  refine gx_aload_n 0 dX11_jar_0 rfl rfl ?_
  refine gx_iconst (v := 0) dX11_jar_1 (by decide) ?_
  refine gx_puti 11 0 dX11_jar_2 fl_X11_1 rfl rfl rfl ⟨rfl, rfl⟩ ?_
  show Z_M_jar g Q 5 [(0, .ref 59), (1, .int x1)] [] (gm_u I 59 0 0) L c
  refine gx_iload_n 1 dX11_jar_5 rfl rfl ?_
  refine gx_i2l dX11_jar_6 ?_
  refine gx_lconst (v := 0) dX11_jar_7 (by decide) ?_
  refine gx_ldc2 dX11_jar_8 kl_X11_157 ?_
  refine gx_callS (As := [.long (Int32.toInt64 x1), .long 0, .long 999]) (st := []) dX11_jar_11 ml_X11_125 mm_X11_within rfl rfl rfl rfl ⟨rfl, rfl⟩ h (fun v h2 hq => ?_)
  clear h
  obtain ⟨b4, I1, L2, c3, rfl, rfl, h⟩ := hq
  show Z_M_jar g Q 14 [(0, .ref 59), (1, .int x1)] [.int (gm_b b4)] I1 L2 c3
  refine gx_if_ne 20 dX11_jar_14 (by decide) ⟨fun z => ?_, fun z => ?_⟩
  · replace h := h.1 (gm_b0.mp z)
    refine gx_bipush (v := (-3)) dX11_jar_17 (by decide) ?_
    exact gx_iret dX11_jar_19 rfl rfl rfl ⟨_, _, _, _, rfl, rfl, h⟩
  · replace h := h.2 (gm_bn0 z)
    refine gx_aload_n 0 dX11_jar_20 rfl rfl ?_
    refine gx_getr 11 1 (v := 60) dX11_jar_21 fl_X11_13 rfl rfl rfl ?_
    refine gx_bipush (v := 6) dX11_jar_24 (by decide) ?_
    refine gx_iald (v := (I1 60 6)) dX11_jar_26 rfl rfl (gm_vin rfl) (k := 6) rfl rfl ?_
    refine gx_istore_n (lv' := [(0, .ref 59), (1, .int x1), (2, .int (I1 60 6))]) dX11_jar_27 rfl rfl rfl ?_
    refine gx_aload_n 0 dX11_jar_28 rfl rfl ?_
    refine gx_getr 11 1 (v := 60) dX11_jar_29 fl_X11_13 rfl rfl rfl ?_
    refine gx_bipush (v := 6) dX11_jar_32 (by decide) ?_
    refine gx_iload_n 1 dX11_jar_34 rfl rfl ?_
    refine gx_iast dX11_jar_35 rfl rfl (gm_vin rfl) (k := 6) rfl ?_
    show Z_M_jar g Q 36 [(0, .ref 59), (1, .int x1), (2, .int (I1 60 6))] [] (gm_u I1 60 6 x1) L2 c3
    refine gx_iload_n 2 dX11_jar_36 rfl rfl ?_
    exact gx_iret dX11_jar_37 rfl rfl rfl ⟨_, _, _, _, rfl, rfl, h⟩
abbrev Z_M_adds (g : gm_G) (Q : mI → mL → gm_cfg → Prop) (pc : Nat) (lv : List (Nat × Value)) (st : List Value) (I : mI) (L : mL) (c : gm_cfg) : Prop := gm_X g RX11 "adds" cX11_adds 3 none 1 0 0 (qV Q) 0 0 pc lv st (SH, I, L, RR c)
abbrev C_M_adds (g : gm_G) (x1 : Int32) (x2 : Int32) (I : mI) (L : mL) (c : gm_cfg) (Q : mI → mL → gm_cfg → Prop) : Prop := gm_Met g yX11_adds cX11_adds 3 none 1 0 0 [.ref 59, .int x1, .int x2] (SH, I, L, RR c) (qV Q)
set_option maxRecDepth 100000 in
theorem e_M_adds {g : gm_G} {Q : mI → mL → gm_cfg → Prop} {x1 x2 : Int32} {I : mI} {L : mL} {c : gm_cfg} (h : (vp_in (29 + (I 60 1)) 330 ∧ (vp_in (69 + ((gm_u I 60 (Int32.toNatClampNeg (29 + (I 60 1))) x1) 60 1)) 330 ∧ Q (gm_u (gm_u (gm_u I 60 (Int32.toNatClampNeg (29 + (I 60 1))) x1) 60 (Int32.toNatClampNeg (69 + ((gm_u I 60 (Int32.toNatClampNeg (29 + (I 60 1))) x1) 60 1))) x2) 60 1 (((gm_u (gm_u I 60 (Int32.toNatClampNeg (29 + (I 60 1))) x1) 60 (Int32.toNatClampNeg (69 + ((gm_u I 60 (Int32.toNatClampNeg (29 + (I 60 1))) x1) 60 1))) x2) 60 1) + 1)) L c))) : C_M_adds g x1 x2 I L c Q := by
  refine gm_enter (lv := [(0, .ref 59), (1, .int x1), (2, .int x2)]) (by decide) rfl rfl rfl rfl ?_
  show Z_M_adds g Q 0 [(0, .ref 59), (1, .int x1), (2, .int x2)] [] I L c
  refine gx_aload_n 0 dX11_adds_0 rfl rfl ?_
  refine gx_getr 11 1 (v := 60) dX11_adds_1 fl_X11_13 rfl rfl rfl ?_
  refine gx_bipush (v := 29) dX11_adds_4 (by decide) ?_
  refine gx_aload_n 0 dX11_adds_6 rfl rfl ?_
  refine gx_getr 11 1 (v := 60) dX11_adds_7 fl_X11_13 rfl rfl rfl ?_
  refine gx_iconst (v := 1) dX11_adds_10 (by decide) ?_
  refine gx_iald (v := (I 60 1)) dX11_adds_11 rfl rfl (gm_vin rfl) (k := 1) rfl rfl ?_
  refine gx_iadd dX11_adds_12 ?_
  refine gx_iload_n 1 dX11_adds_13 rfl rfl ?_
  obtain ⟨hi, h⟩ := h
  refine gx_iast dX11_adds_14 rfl rfl hi (k := (Int32.toNatClampNeg (29 + (I 60 1)))) rfl ?_
  show Z_M_adds g Q 15 [(0, .ref 59), (1, .int x1), (2, .int x2)] [] (gm_u I 60 (Int32.toNatClampNeg (29 + (I 60 1))) x1) L c
  refine gx_aload_n 0 dX11_adds_15 rfl rfl ?_
  refine gx_getr 11 1 (v := 60) dX11_adds_16 fl_X11_13 rfl rfl rfl ?_
  refine gx_bipush (v := 69) dX11_adds_19 (by decide) ?_
  refine gx_aload_n 0 dX11_adds_21 rfl rfl ?_
  refine gx_getr 11 1 (v := 60) dX11_adds_22 fl_X11_13 rfl rfl rfl ?_
  refine gx_iconst (v := 1) dX11_adds_25 (by decide) ?_
  refine gx_iald (v := ((gm_u I 60 (Int32.toNatClampNeg (29 + (I 60 1))) x1) 60 1)) dX11_adds_26 rfl rfl (gm_vin rfl) (k := 1) rfl rfl ?_
  refine gx_iadd dX11_adds_27 ?_
  refine gx_iload_n 2 dX11_adds_28 rfl rfl ?_
  obtain ⟨hi, h⟩ := h
  refine gx_iast dX11_adds_29 rfl rfl hi (k := (Int32.toNatClampNeg (69 + ((gm_u I 60 (Int32.toNatClampNeg (29 + (I 60 1))) x1) 60 1)))) rfl ?_
  show Z_M_adds g Q 30 [(0, .ref 59), (1, .int x1), (2, .int x2)] [] (gm_u (gm_u I 60 (Int32.toNatClampNeg (29 + (I 60 1))) x1) 60 (Int32.toNatClampNeg (69 + ((gm_u I 60 (Int32.toNatClampNeg (29 + (I 60 1))) x1) 60 1))) x2) L c
  refine gx_aload_n 0 dX11_adds_30 rfl rfl ?_
  refine gx_getr 11 1 (v := 60) dX11_adds_31 fl_X11_13 rfl rfl rfl ?_
  refine gx_iconst (v := 1) dX11_adds_34 (by decide) ?_
  refine gx_dup2 dX11_adds_35 rfl rfl ?_
  refine gx_iald (v := ((gm_u (gm_u I 60 (Int32.toNatClampNeg (29 + (I 60 1))) x1) 60 (Int32.toNatClampNeg (69 + ((gm_u I 60 (Int32.toNatClampNeg (29 + (I 60 1))) x1) 60 1))) x2) 60 1)) dX11_adds_36 rfl rfl (gm_vin rfl) (k := 1) rfl rfl ?_
  refine gx_iconst (v := 1) dX11_adds_37 (by decide) ?_
  refine gx_iadd dX11_adds_38 ?_
  refine gx_iast dX11_adds_39 rfl rfl (gm_vin rfl) (k := 1) rfl ?_
  show Z_M_adds g Q 40 [(0, .ref 59), (1, .int x1), (2, .int x2)] [] (gm_u (gm_u (gm_u I 60 (Int32.toNatClampNeg (29 + (I 60 1))) x1) 60 (Int32.toNatClampNeg (69 + ((gm_u I 60 (Int32.toNatClampNeg (29 + (I 60 1))) x1) 60 1))) x2) 60 1 (((gm_u (gm_u I 60 (Int32.toNatClampNeg (29 + (I 60 1))) x1) 60 (Int32.toNatClampNeg (69 + ((gm_u I 60 (Int32.toNatClampNeg (29 + (I 60 1))) x1) 60 1))) x2) 60 1) + 1)) L c
  exact gx_vret dX11_adds_40 rfl rfl rfl ⟨_, _, _, rfl, rfl, h⟩
abbrev Z_M_write (g : gm_G) (Q : Int32 → mI → mL → gm_cfg → Prop) (pc : Nat) (lv : List (Nat × Value)) (st : List Value) (I : mI) (L : mL) (c : gm_cfg) : Prop := gm_X g RX11 "write" cX11_write 3 (some .int) 3 0 0 (qI Q) 0 0 pc lv st (SH, I, L, RR c)
abbrev C_M_write (g : gm_G) (x1 : Int32) (x2 : Int32) (I : mI) (L : mL) (c : gm_cfg) (Q : Int32 → mI → mL → gm_cfg → Prop) : Prop := gm_Met g yX11_write cX11_write 3 (some .int) 3 0 0 [.ref 59, .int x1, .int x2] (SH, I, L, RR c) (qI Q)
set_option maxRecDepth 100000 in
theorem e_M_write {g : gm_G} {Q : Int32 → mI → mL → gm_cfg → Prop} {x1 x2 : Int32} {I : mI} {L : mL} {c : gm_cfg} (h : (C_M_isGuesser g (Int32.toInt64 x1) (gm_u I 59 0 0) L c (fun b4 I1 L2 c3 => ((b4 = false → Q (-2) I1 L2 c3) ∧ (b4 = true → (C_M_within g (Int32.toInt64 x2) 0 2000 I1 L2 c3 (fun b8 I5 L6 c7 => ((b8 = false → Q (-3) I5 L6 c7) ∧ (b8 = true → (((I5 60 1) = 40 → Q (-4) I5 L6 c7) ∧ (¬ (I5 60 1) = 40 → (C_M_adds g x1 x2 I5 L6 c7 (fun I9 L10 c11 => Q (I9 60 1) I9 L10 c11))))))))))))) : C_M_write g x1 x2 I L c Q := by
  refine gm_enter (lv := [(0, .ref 59), (1, .int x1), (2, .int x2)]) (by decide) rfl rfl rfl rfl ?_
  show Z_M_write g Q 0 [(0, .ref 59), (1, .int x1), (2, .int x2)] [] I L c
  refine gx_aload_n 0 dX11_write_0 rfl rfl ?_
  refine gx_iconst (v := 0) dX11_write_1 (by decide) ?_
  refine gx_puti 11 0 dX11_write_2 fl_X11_1 rfl rfl rfl ⟨rfl, rfl⟩ ?_
  show Z_M_write g Q 5 [(0, .ref 59), (1, .int x1), (2, .int x2)] [] (gm_u I 59 0 0) L c
  refine gx_aload_n 0 dX11_write_5 rfl rfl ?_
  refine gx_iload_n 1 dX11_write_6 rfl rfl ?_
  refine gx_i2l dX11_write_7 ?_
  refine gx_callV 11 (As := [.long (Int32.toInt64 x1)]) (st := []) dX11_write_8 ml_X11_145 mm_X11_isGuesser rfl rfl rfl rfl rfl rfl ⟨rfl, rfl⟩ h (fun v h2 hq => ?_)
  clear h
  obtain ⟨b4, I1, L2, c3, rfl, rfl, h⟩ := hq
  show Z_M_write g Q 11 [(0, .ref 59), (1, .int x1), (2, .int x2)] [.int (gm_b b4)] I1 L2 c3
  refine gx_if_ne 17 dX11_write_11 (by decide) ⟨fun z => ?_, fun z => ?_⟩
  · replace h := h.1 (gm_b0.mp z)
    refine gx_bipush (v := (-2)) dX11_write_14 (by decide) ?_
    exact gx_iret dX11_write_16 rfl rfl rfl ⟨_, _, _, _, rfl, rfl, h⟩
  · replace h := h.2 (gm_bn0 z)
    refine gx_iload_n 2 dX11_write_17 rfl rfl ?_
    refine gx_i2l dX11_write_18 ?_
    refine gx_lconst (v := 0) dX11_write_19 (by decide) ?_
    refine gx_ldc2 dX11_write_20 kl_X11_177 ?_
    refine gx_callS (As := [.long (Int32.toInt64 x2), .long 0, .long 2000]) (st := []) dX11_write_23 ml_X11_125 mm_X11_within rfl rfl rfl rfl ⟨rfl, rfl⟩ h (fun v h2 hq => ?_)
    clear h
    obtain ⟨b8, I5, L6, c7, rfl, rfl, h⟩ := hq
    show Z_M_write g Q 26 [(0, .ref 59), (1, .int x1), (2, .int x2)] [.int (gm_b b8)] I5 L6 c7
    refine gx_if_ne 32 dX11_write_26 (by decide) ⟨fun z => ?_, fun z => ?_⟩
    · replace h := h.1 (gm_b0.mp z)
      refine gx_bipush (v := (-3)) dX11_write_29 (by decide) ?_
      exact gx_iret dX11_write_31 rfl rfl rfl ⟨_, _, _, _, rfl, rfl, h⟩
    · replace h := h.2 (gm_bn0 z)
      refine gx_aload_n 0 dX11_write_32 rfl rfl ?_
      refine gx_getr 11 1 (v := 60) dX11_write_33 fl_X11_13 rfl rfl rfl ?_
      refine gx_iconst (v := 1) dX11_write_36 (by decide) ?_
      refine gx_iald (v := (I5 60 1)) dX11_write_37 rfl rfl (gm_vin rfl) (k := 1) rfl rfl ?_
      refine gx_bipush (v := 40) dX11_write_38 (by decide) ?_
      refine gx_icmp_ne 46 dX11_write_40 (by decide) ⟨fun z => ?_, fun z => ?_⟩
      · replace h := h.1 z
        refine gx_bipush (v := (-4)) dX11_write_43 (by decide) ?_
        exact gx_iret dX11_write_45 rfl rfl rfl ⟨_, _, _, _, rfl, rfl, h⟩
      · replace h := h.2 z
        refine gx_aload_n 0 dX11_write_46 rfl rfl ?_
        refine gx_iload_n 1 dX11_write_47 rfl rfl ?_
        refine gx_iload_n 2 dX11_write_48 rfl rfl ?_
        refine gx_callV 11 (As := [.int x1, .int x2]) (st := []) dX11_write_49 ml_X11_179 mm_X11_adds rfl rfl rfl rfl rfl rfl ⟨rfl, rfl⟩ h (fun v h2 hq => ?_)
        clear h
        obtain ⟨I9, L10, c11, rfl, rfl, h⟩ := hq
        show Z_M_write g Q 52 [(0, .ref 59), (1, .int x1), (2, .int x2)] [] I9 L10 c11
        refine gx_aload_n 0 dX11_write_52 rfl rfl ?_
        refine gx_getr 11 1 (v := 60) dX11_write_53 fl_X11_13 rfl rfl rfl ?_
        refine gx_iconst (v := 1) dX11_write_56 (by decide) ?_
        refine gx_iald (v := (I9 60 1)) dX11_write_57 rfl rfl (gm_vin rfl) (k := 1) rfl rfl ?_
        exact gx_iret dX11_write_58 rfl rfl rfl ⟨_, _, _, _, rfl, rfl, h⟩
abbrev Z_M_strike (g : gm_G) (Q : Int32 → mI → mL → gm_cfg → Prop) (pc : Nat) (lv : List (Nat × Value)) (st : List Value) (I : mI) (L : mL) (c : gm_cfg) : Prop := gm_X g RX11 "strike" cX11_strike 2 (some .int) 2 0 0 (qI Q) 0 0 pc lv st (SH, I, L, RR c)
abbrev C_M_strike (g : gm_G) (x1 : Int32) (I : mI) (L : mL) (c : gm_cfg) (Q : Int32 → mI → mL → gm_cfg → Prop) : Prop := gm_Met g yX11_strike cX11_strike 2 (some .int) 2 0 0 [.ref 59, .int x1] (SH, I, L, RR c) (qI Q)
set_option maxRecDepth 100000 in
theorem e_M_strike {g : gm_G} {Q : Int32 → mI → mL → gm_cfg → Prop} {x1 : Int32} {I : mI} {L : mL} {c : gm_cfg} (h : (C_M_within g (Int32.toInt64 x1) 0 (Int32.toInt64 (I 60 1)) (gm_u I 59 0 0) L c (fun b4 I1 L2 c3 => ((b4 = false → Q (-3) I1 L2 c3) ∧ (b4 = true → Q ((I1 60 1) - x1) (gm_u I1 60 1 ((I1 60 1) - x1)) L2 c3))))) : C_M_strike g x1 I L c Q := by
  refine gm_enter (lv := [(0, .ref 59), (1, .int x1)]) (by decide) rfl rfl rfl rfl ?_
  show Z_M_strike g Q 0 [(0, .ref 59), (1, .int x1)] [] I L c
  refine gx_aload_n 0 dX11_strike_0 rfl rfl ?_
  refine gx_iconst (v := 0) dX11_strike_1 (by decide) ?_
  refine gx_puti 11 0 dX11_strike_2 fl_X11_1 rfl rfl rfl ⟨rfl, rfl⟩ ?_
  show Z_M_strike g Q 5 [(0, .ref 59), (1, .int x1)] [] (gm_u I 59 0 0) L c
  refine gx_iload_n 1 dX11_strike_5 rfl rfl ?_
  refine gx_i2l dX11_strike_6 ?_
  refine gx_lconst (v := 0) dX11_strike_7 (by decide) ?_
  refine gx_aload_n 0 dX11_strike_8 rfl rfl ?_
  refine gx_getr 11 1 (v := 60) dX11_strike_9 fl_X11_13 rfl rfl rfl ?_
  refine gx_iconst (v := 1) dX11_strike_12 (by decide) ?_
  refine gx_iald (v := (I 60 1)) dX11_strike_13 rfl rfl (gm_vin rfl) (k := 1) rfl rfl ?_
  refine gx_i2l dX11_strike_14 ?_
  refine gx_callS (As := [.long (Int32.toInt64 x1), .long 0, .long (Int32.toInt64 (I 60 1))]) (st := []) dX11_strike_15 ml_X11_125 mm_X11_within rfl rfl rfl rfl ⟨rfl, rfl⟩ h (fun v h2 hq => ?_)
  clear h
  obtain ⟨b4, I1, L2, c3, rfl, rfl, h⟩ := hq
  show Z_M_strike g Q 18 [(0, .ref 59), (1, .int x1)] [.int (gm_b b4)] I1 L2 c3
  refine gx_if_ne 24 dX11_strike_18 (by decide) ⟨fun z => ?_, fun z => ?_⟩
  · replace h := h.1 (gm_b0.mp z)
    refine gx_bipush (v := (-3)) dX11_strike_21 (by decide) ?_
    exact gx_iret dX11_strike_23 rfl rfl rfl ⟨_, _, _, _, rfl, rfl, h⟩
  · replace h := h.2 (gm_bn0 z)
    refine gx_aload_n 0 dX11_strike_24 rfl rfl ?_
    refine gx_getr 11 1 (v := 60) dX11_strike_25 fl_X11_13 rfl rfl rfl ?_
    refine gx_iconst (v := 1) dX11_strike_28 (by decide) ?_
    refine gx_dup2 dX11_strike_29 rfl rfl ?_
    refine gx_iald (v := (I1 60 1)) dX11_strike_30 rfl rfl (gm_vin rfl) (k := 1) rfl rfl ?_
    refine gx_iload_n 1 dX11_strike_31 rfl rfl ?_
    refine gx_isub dX11_strike_32 ?_
    refine gx_iast dX11_strike_33 rfl rfl (gm_vin rfl) (k := 1) rfl ?_
    show Z_M_strike g Q 34 [(0, .ref 59), (1, .int x1)] [] (gm_u I1 60 1 ((I1 60 1) - x1)) L2 c3
    refine gx_aload_n 0 dX11_strike_34 rfl rfl ?_
    refine gx_getr 11 1 (v := 60) dX11_strike_35 fl_X11_13 rfl rfl rfl ?_
    refine gx_iconst (v := 1) dX11_strike_38 (by decide) ?_
    refine gx_iald (v := ((I1 60 1) - x1)) dX11_strike_39 rfl rfl (gm_vin rfl) (k := 1) rfl rfl ?_
    exact gx_iret dX11_strike_40 rfl rfl rfl ⟨_, _, _, _, rfl, rfl, h⟩
abbrev Z_M_isGuess (g : gm_G) (Q : Bool → mI → mL → gm_cfg → Prop) (pc : Nat) (lv : List (Nat × Value)) (st : List Value) (I : mI) (L : mL) (c : gm_cfg) : Prop := gm_X g RX11 "isGuess" cX11_isGuess 2 (some .boolean) 2 0 0 (qZ Q) 0 0 pc lv st (SH, I, L, RR c)
abbrev C_M_isGuess (g : gm_G) (x1 : Int32) (I : mI) (L : mL) (c : gm_cfg) (Q : Bool → mI → mL → gm_cfg → Prop) : Prop := gm_Met g yX11_isGuess cX11_isGuess 2 (some .boolean) 2 0 0 [.ref 59, .int x1] (SH, I, L, RR c) (qZ Q)
set_option maxRecDepth 100000 in
theorem e_M_isGuess {g : gm_G} {Q : Bool → mI → mL → gm_cfg → Prop} {x1 : Int32} {I : mI} {L : mL} {c : gm_cfg} (h : (C_M_within g (Int32.toInt64 x1) 0 (Int32.toInt64 ((I 60 1) - 1)) I L c (fun b4 I1 L2 c3 => Q b4 I1 L2 c3))) : C_M_isGuess g x1 I L c Q := by
  refine gm_enter (lv := [(0, .ref 59), (1, .int x1)]) (by decide) rfl rfl rfl rfl ?_
  show Z_M_isGuess g Q 0 [(0, .ref 59), (1, .int x1)] [] I L c
  refine gx_iload_n 1 dX11_isGuess_0 rfl rfl ?_
  refine gx_i2l dX11_isGuess_1 ?_
  refine gx_lconst (v := 0) dX11_isGuess_2 (by decide) ?_
  refine gx_aload_n 0 dX11_isGuess_3 rfl rfl ?_
  refine gx_getr 11 1 (v := 60) dX11_isGuess_4 fl_X11_13 rfl rfl rfl ?_
  refine gx_iconst (v := 1) dX11_isGuess_7 (by decide) ?_
  refine gx_iald (v := (I 60 1)) dX11_isGuess_8 rfl rfl (gm_vin rfl) (k := 1) rfl rfl ?_
  refine gx_iconst (v := 1) dX11_isGuess_9 (by decide) ?_
  refine gx_isub dX11_isGuess_10 ?_
  refine gx_i2l dX11_isGuess_11 ?_
  refine gx_callS (As := [.long (Int32.toInt64 x1), .long 0, .long (Int32.toInt64 ((I 60 1) - 1))]) (st := []) dX11_isGuess_12 ml_X11_125 mm_X11_within rfl rfl rfl rfl ⟨rfl, rfl⟩ h (fun v h2 hq => ?_)
  clear h
  obtain ⟨b4, I1, L2, c3, rfl, rfl, h⟩ := hq
  show Z_M_isGuess g Q 15 [(0, .ref 59), (1, .int x1)] [.int (gm_b b4)] I1 L2 c3
  exact gx_zret .boolean dX11_isGuess_15 rfl (gm_b_nar _) rfl rfl ⟨b4, _, _, _, rfl, rfl, h⟩
abbrev Z_M_numberOf (g : gm_G) (Q : Int32 → mI → mL → gm_cfg → Prop) (pc : Nat) (lv : List (Nat × Value)) (st : List Value) (I : mI) (L : mL) (c : gm_cfg) : Prop := gm_X g RX11 "numberOf" cX11_numberOf 2 (some .int) 1 0 0 (qI Q) 0 0 pc lv st (SH, I, L, RR c)
abbrev C_M_numberOf (g : gm_G) (x1 : Int32) (I : mI) (L : mL) (c : gm_cfg) (Q : Int32 → mI → mL → gm_cfg → Prop) : Prop := gm_Met g yX11_numberOf cX11_numberOf 2 (some .int) 1 0 0 [.ref 59, .int x1] (SH, I, L, RR c) (qI Q)
set_option maxRecDepth 100000 in
theorem e_M_numberOf {g : gm_G} {Q : Int32 → mI → mL → gm_cfg → Prop} {x1 : Int32} {I : mI} {L : mL} {c : gm_cfg} (h : (vp_in (69 + x1) 330 ∧ Q (I 60 (Int32.toNatClampNeg (69 + x1))) I L c)) : C_M_numberOf g x1 I L c Q := by
  refine gm_enter (lv := [(0, .ref 59), (1, .int x1)]) (by decide) rfl rfl rfl rfl ?_
  show Z_M_numberOf g Q 0 [(0, .ref 59), (1, .int x1)] [] I L c
  refine gx_aload_n 0 dX11_numberOf_0 rfl rfl ?_
  refine gx_getr 11 1 (v := 60) dX11_numberOf_1 fl_X11_13 rfl rfl rfl ?_
  refine gx_bipush (v := 69) dX11_numberOf_4 (by decide) ?_
  refine gx_iload_n 1 dX11_numberOf_6 rfl rfl ?_
  refine gx_iadd dX11_numberOf_7 ?_
  obtain ⟨hi, h⟩ := h
  refine gx_iald (v := (I 60 (Int32.toNatClampNeg (69 + x1)))) dX11_numberOf_8 rfl rfl hi (k := (Int32.toNatClampNeg (69 + x1))) rfl rfl ?_
  exact gx_iret dX11_numberOf_9 rfl rfl rfl ⟨_, _, _, _, rfl, rfl, h⟩
abbrev Z_M_meanOf (g : gm_G) (Q : Int32 → mI → mL → gm_cfg → Prop) (pc : Nat) (lv : List (Nat × Value)) (st : List Value) (I : mI) (L : mL) (c : gm_cfg) : Prop := gm_X g RX11 "meanOf" cX11_meanOf 4 (some .int) 2 0 0 (qI Q) 0 0 pc lv st (SH, I, L, RR c)
abbrev C_M_meanOf (g : gm_G) (x1 : Int32) (I : mI) (L : mL) (c : gm_cfg) (Q : Int32 → mI → mL → gm_cfg → Prop) : Prop := gm_Met g yX11_meanOf cX11_meanOf 4 (some .int) 2 0 0 [.ref 59, .int x1] (SH, I, L, RR c) (qI Q)
set_option maxRecDepth 100000 in
theorem e_M_meanOf {g : gm_G} {Q : Int32 → mI → mL → gm_cfg → Prop} {x1 : Int32} {I : mI} {L : mL} {c : gm_cfg} (h : Z_M_meanOf g Q 4 [(0, .ref 59), (1, .int x1), (2, .int 0), (3, .int 0)] [] I L c) : C_M_meanOf g x1 I L c Q := by
  refine gm_enter (lv := [(0, .ref 59), (1, .int x1)]) (by decide) rfl rfl rfl rfl ?_
  show Z_M_meanOf g Q 0 [(0, .ref 59), (1, .int x1)] [] I L c
  refine gx_iconst (v := 0) dX11_meanOf_0 (by decide) ?_
  refine gx_istore_n (lv' := [(0, .ref 59), (1, .int x1), (2, .int 0)]) dX11_meanOf_1 rfl rfl rfl ?_
  refine gx_iconst (v := 0) dX11_meanOf_2 (by decide) ?_
  refine gx_istore_n (lv' := [(0, .ref 59), (1, .int x1), (2, .int 0), (3, .int 0)]) dX11_meanOf_3 rfl rfl rfl ?_
  exact h
set_option maxRecDepth 100000 in
theorem r_M_meanOf_4 {g : gm_G} {Q : Int32 → mI → mL → gm_cfg → Prop} {x1 x2 x3 : Int32} {I : mI} {L : mL} {c : gm_cfg} (h : ((x1 ≤ x3 → ((x1 = 0 → Q (-1) I L c) ∧ (¬ x1 = 0 → (¬ x1 = 0 ∧ Q (x2 / x1) I L c)))) ∧ (¬ x1 ≤ x3 → (C_M_numberOf g x3 I L c (fun r4 I1 L2 c3 => Z_M_meanOf g Q 4 [(0, .ref 59), (1, .int x1), (2, .int (x2 + r4)), (3, .int (x3 + 1))] [] I1 L2 c3))))) : Z_M_meanOf g Q 4 [(0, .ref 59), (1, .int x1), (2, .int x2), (3, .int x3)] [] I L c := by
  refine gx_iload_n 3 dX11_meanOf_4 rfl rfl ?_
  refine gx_iload_n 1 dX11_meanOf_5 rfl rfl ?_
  refine gx_icmp_ge 23 dX11_meanOf_6 (by decide) ⟨fun z => ?_, fun z => ?_⟩
  · replace h := h.1 z
    refine gx_iload_n 1 dX11_meanOf_23 rfl rfl ?_
    refine gx_if_ne 31 dX11_meanOf_24 (by decide) ⟨fun z => ?_, fun z => ?_⟩
    · replace h := h.1 z
      refine gx_iconst (v := (-1)) dX11_meanOf_27 (by decide) ?_
      refine gx_goto 34 dX11_meanOf_28 (by decide) ?_
      exact gx_iret dX11_meanOf_34 rfl rfl rfl ⟨_, _, _, _, rfl, rfl, h⟩
    · replace h := h.2 z
      refine gx_iload_n 2 dX11_meanOf_31 rfl rfl ?_
      refine gx_iload_n 1 dX11_meanOf_32 rfl rfl ?_
      obtain ⟨hn, h⟩ := h
      refine gx_idiv dX11_meanOf_33 hn ?_
      exact gx_iret dX11_meanOf_34 rfl rfl rfl ⟨_, _, _, _, rfl, rfl, h⟩
  · replace h := h.2 z
    refine gx_iload_n 2 dX11_meanOf_9 rfl rfl ?_
    refine gx_aload_n 0 dX11_meanOf_10 rfl rfl ?_
    refine gx_iload_n 3 dX11_meanOf_11 rfl rfl ?_
    refine gx_callV 11 (As := [.int x3]) (st := [.int x2]) dX11_meanOf_12 ml_X11_171 mm_X11_numberOf rfl rfl rfl rfl rfl rfl ⟨rfl, rfl⟩ h (fun v h2 hq => ?_)
    clear h
    obtain ⟨r4, I1, L2, c3, rfl, rfl, h⟩ := hq
    show Z_M_meanOf g Q 15 [(0, .ref 59), (1, .int x1), (2, .int x2), (3, .int x3)] [.int r4, .int x2] I1 L2 c3
    refine gx_iadd dX11_meanOf_15 ?_
    refine gx_istore_n (lv' := [(0, .ref 59), (1, .int x1), (2, .int (x2 + r4)), (3, .int x3)]) dX11_meanOf_16 rfl rfl rfl ?_
    refine gx_iinc (v := (x3 + 1)) (lv' := [(0, .ref 59), (1, .int x1), (2, .int (x2 + r4)), (3, .int (x3 + 1))]) 3 dX11_meanOf_17 rfl rfl rfl rfl ?_
    refine gx_goto 4 dX11_meanOf_20 (by decide) ?_
    exact h
abbrev Z_M_goalAt (g : gm_G) (Q : Int32 → mI → mL → gm_cfg → Prop) (pc : Nat) (lv : List (Nat × Value)) (st : List Value) (I : mI) (L : mL) (c : gm_cfg) : Prop := gm_X g RX11 "goalAt" cX11_goalAt 2 (some .int) 3 0 0 (qI Q) 0 0 pc lv st (SH, I, L, RR c)
abbrev C_M_goalAt (g : gm_G) (x1 : Int32) (I : mI) (L : mL) (c : gm_cfg) (Q : Int32 → mI → mL → gm_cfg → Prop) : Prop := gm_Met g yX11_goalAt cX11_goalAt 2 (some .int) 3 0 0 [.ref 59, .int x1] (SH, I, L, RR c) (qI Q)
set_option maxRecDepth 100000 in
theorem e_M_goalAt {g : gm_G} {Q : Int32 → mI → mL → gm_cfg → Prop} {x1 : Int32} {I : mI} {L : mL} {c : gm_cfg} (h : (((I 60 7) = 1 → Q (-1) I L c) ∧ (¬ (I 60 7) = 1 → (C_M_meanOf g x1 I L c (fun r4 I1 L2 c3 => Q r4 I1 L2 c3))))) : C_M_goalAt g x1 I L c Q := by
  refine gm_enter (lv := [(0, .ref 59), (1, .int x1)]) (by decide) rfl rfl rfl rfl ?_
  show Z_M_goalAt g Q 0 [(0, .ref 59), (1, .int x1)] [] I L c
  refine gx_aload_n 0 dX11_goalAt_0 rfl rfl ?_
  refine gx_getr 11 1 (v := 60) dX11_goalAt_1 fl_X11_13 rfl rfl rfl ?_
  refine gx_bipush (v := 7) dX11_goalAt_4 (by decide) ?_
  refine gx_iald (v := (I 60 7)) dX11_goalAt_6 rfl rfl (gm_vin rfl) (k := 7) rfl rfl ?_
  refine gx_iconst (v := 1) dX11_goalAt_7 (by decide) ?_
  refine gx_icmp_ne 15 dX11_goalAt_8 (by decide) ⟨fun z => ?_, fun z => ?_⟩
  · replace h := h.1 z
    refine gx_iconst (v := (-1)) dX11_goalAt_11 (by decide) ?_
    refine gx_goto 20 dX11_goalAt_12 (by decide) ?_
    exact gx_iret dX11_goalAt_20 rfl rfl rfl ⟨_, _, _, _, rfl, rfl, h⟩
  · replace h := h.2 z
    refine gx_aload_n 0 dX11_goalAt_15 rfl rfl ?_
    refine gx_iload_n 1 dX11_goalAt_16 rfl rfl ?_
    refine gx_callV 11 (As := [.int x1]) (st := []) dX11_goalAt_17 ml_X11_174 mm_X11_meanOf rfl rfl rfl rfl rfl rfl ⟨rfl, rfl⟩ h (fun v h2 hq => ?_)
    clear h
    obtain ⟨r4, I1, L2, c3, rfl, rfl, h⟩ := hq
    show Z_M_goalAt g Q 20 [(0, .ref 59), (1, .int x1)] [.int r4] I1 L2 c3
    exact gx_iret dX11_goalAt_20 rfl rfl rfl ⟨_, _, _, _, rfl, rfl, h⟩
abbrev Z_M_list (g : gm_G) (Q : Int32 → mI → mL → gm_cfg → Prop) (pc : Nat) (lv : List (Nat × Value)) (st : List Value) (I : mI) (L : mL) (c : gm_cfg) : Prop := gm_X g RX11 "list" cX11_list 4 (some .int) 4 0 0 (qI Q) 0 0 pc lv st (SH, I, L, RR c)
abbrev C_M_list (g : gm_G) (x1 : Int32) (x2 : Int32) (I : mI) (L : mL) (c : gm_cfg) (Q : Int32 → mI → mL → gm_cfg → Prop) : Prop := gm_Met g yX11_list cX11_list 4 (some .int) 4 0 0 [.ref 59, .int x1, .int x2] (SH, I, L, RR c) (qI Q)
set_option maxRecDepth 100000 in
theorem e_M_list {g : gm_G} {Q : Int32 → mI → mL → gm_cfg → Prop} {x1 x2 : Int32} {I : mI} {L : mL} {c : gm_cfg} (h : (C_M_isGuess g x1 (gm_u I 59 0 0) L c (fun b4 I1 L2 c3 => ((b4 = false → Q (-2) I1 L2 c3) ∧ (b4 = true → (C_M_within g (Int32.toInt64 x2) 0 4 I1 L2 c3 (fun b8 I5 L6 c7 => ((b8 = false → Q (-2) I5 L6 c7) ∧ (b8 = true → ((x2 = 0 → (C_M_numberOf g x1 I5 L6 c7 (fun r12 I9 L10 c11 => Q r12 I9 L10 c11))) ∧ (¬ x2 = 0 → ((x2 = 1 → (vp_in (29 + x1) 330 ∧ Q (I5 60 (Int32.toNatClampNeg (29 + x1))) I5 L6 c7)) ∧ (¬ x2 = 1 → ((x2 = 2 → (C_M_goalAt g x1 I5 L6 c7 (fun r16 I13 L14 c15 => Q r16 I13 L14 c15))) ∧ (¬ x2 = 2 → ((x2 = 3 → (((I5 60 6) = 0 → Q (-1) I5 L6 c7) ∧ (¬ (I5 60 6) = 0 → (C_M_numberOf g x1 I5 L6 c7 (fun r20 I17 L18 c19 => (C_M_off g r20 (I17 60 6) I17 L18 c19 (fun r24 I21 L22 c23 => Q r24 I21 L22 c23))))))) ∧ (¬ x2 = 3 → Z_M_list g Q 101 [(0, .ref 59), (1, .int x1), (2, .int x2), (3, .int 0)] [] I5 L6 c7))))))))))))))))) : C_M_list g x1 x2 I L c Q := by
  refine gm_enter (lv := [(0, .ref 59), (1, .int x1), (2, .int x2)]) (by decide) rfl rfl rfl rfl ?_
  show Z_M_list g Q 0 [(0, .ref 59), (1, .int x1), (2, .int x2)] [] I L c
  refine gx_aload_n 0 dX11_list_0 rfl rfl ?_
  refine gx_iconst (v := 0) dX11_list_1 (by decide) ?_
  refine gx_puti 11 0 dX11_list_2 fl_X11_1 rfl rfl rfl ⟨rfl, rfl⟩ ?_
  show Z_M_list g Q 5 [(0, .ref 59), (1, .int x1), (2, .int x2)] [] (gm_u I 59 0 0) L c
  refine gx_aload_n 0 dX11_list_5 rfl rfl ?_
  refine gx_iload_n 1 dX11_list_6 rfl rfl ?_
  refine gx_callV 11 (As := [.int x1]) (st := []) dX11_list_7 ml_X11_183 mm_X11_isGuess rfl rfl rfl rfl rfl rfl ⟨rfl, rfl⟩ h (fun v h2 hq => ?_)
  clear h
  obtain ⟨b4, I1, L2, c3, rfl, rfl, h⟩ := hq
  show Z_M_list g Q 10 [(0, .ref 59), (1, .int x1), (2, .int x2)] [.int (gm_b b4)] I1 L2 c3
  refine gx_if_eq 25 dX11_list_10 (by decide) ⟨fun z => ?_, fun z => ?_⟩
  · replace h := h.1 (gm_b0.mp z)
    refine gx_bipush (v := (-2)) dX11_list_25 (by decide) ?_
    exact gx_iret dX11_list_27 rfl rfl rfl ⟨_, _, _, _, rfl, rfl, h⟩
  · replace h := h.2 (gm_bn0 z)
    refine gx_iload_n 2 dX11_list_13 rfl rfl ?_
    refine gx_i2l dX11_list_14 ?_
    refine gx_lconst (v := 0) dX11_list_15 (by decide) ?_
    refine gx_ldc2 dX11_list_16 kl_X11_149 ?_
    refine gx_callS (As := [.long (Int32.toInt64 x2), .long 0, .long 4]) (st := []) dX11_list_19 ml_X11_125 mm_X11_within rfl rfl rfl rfl ⟨rfl, rfl⟩ h (fun v h2 hq => ?_)
    clear h
    obtain ⟨b8, I5, L6, c7, rfl, rfl, h⟩ := hq
    show Z_M_list g Q 22 [(0, .ref 59), (1, .int x1), (2, .int x2)] [.int (gm_b b8)] I5 L6 c7
    refine gx_if_ne 28 dX11_list_22 (by decide) ⟨fun z => ?_, fun z => ?_⟩
    · replace h := h.1 (gm_b0.mp z)
      refine gx_bipush (v := (-2)) dX11_list_25 (by decide) ?_
      exact gx_iret dX11_list_27 rfl rfl rfl ⟨_, _, _, _, rfl, rfl, h⟩
    · replace h := h.2 (gm_bn0 z)
      refine gx_iload_n 2 dX11_list_28 rfl rfl ?_
      refine gx_if_ne 38 dX11_list_29 (by decide) ⟨fun z => ?_, fun z => ?_⟩
      · replace h := h.1 z
        refine gx_aload_n 0 dX11_list_32 rfl rfl ?_
        refine gx_iload_n 1 dX11_list_33 rfl rfl ?_
        refine gx_callV 11 (As := [.int x1]) (st := []) dX11_list_34 ml_X11_171 mm_X11_numberOf rfl rfl rfl rfl rfl rfl ⟨rfl, rfl⟩ h (fun v h2 hq => ?_)
        clear h
        obtain ⟨r12, I9, L10, c11, rfl, rfl, h⟩ := hq
        show Z_M_list g Q 37 [(0, .ref 59), (1, .int x1), (2, .int x2)] [.int r12] I9 L10 c11
        exact gx_iret dX11_list_37 rfl rfl rfl ⟨_, _, _, _, rfl, rfl, h⟩
      · replace h := h.2 z
        refine gx_iload_n 2 dX11_list_38 rfl rfl ?_
        refine gx_iconst (v := 1) dX11_list_39 (by decide) ?_
        refine gx_icmp_ne 53 dX11_list_40 (by decide) ⟨fun z => ?_, fun z => ?_⟩
        · replace h := h.1 z
          refine gx_aload_n 0 dX11_list_43 rfl rfl ?_
          refine gx_getr 11 1 (v := 60) dX11_list_44 fl_X11_13 rfl rfl rfl ?_
          refine gx_bipush (v := 29) dX11_list_47 (by decide) ?_
          refine gx_iload_n 1 dX11_list_49 rfl rfl ?_
          refine gx_iadd dX11_list_50 ?_
          obtain ⟨hi, h⟩ := h
          refine gx_iald (v := (I5 60 (Int32.toNatClampNeg (29 + x1)))) dX11_list_51 rfl rfl hi (k := (Int32.toNatClampNeg (29 + x1))) rfl rfl ?_
          exact gx_iret dX11_list_52 rfl rfl rfl ⟨_, _, _, _, rfl, rfl, h⟩
        · replace h := h.2 z
          refine gx_iload_n 2 dX11_list_53 rfl rfl ?_
          refine gx_iconst (v := 2) dX11_list_54 (by decide) ?_
          refine gx_icmp_ne 64 dX11_list_55 (by decide) ⟨fun z => ?_, fun z => ?_⟩
          · replace h := h.1 z
            refine gx_aload_n 0 dX11_list_58 rfl rfl ?_
            refine gx_iload_n 1 dX11_list_59 rfl rfl ?_
            refine gx_callV 11 (As := [.int x1]) (st := []) dX11_list_60 ml_X11_186 mm_X11_goalAt rfl rfl rfl rfl rfl rfl ⟨rfl, rfl⟩ h (fun v h2 hq => ?_)
            clear h
            obtain ⟨r16, I13, L14, c15, rfl, rfl, h⟩ := hq
            show Z_M_list g Q 63 [(0, .ref 59), (1, .int x1), (2, .int x2)] [.int r16] I13 L14 c15
            exact gx_iret dX11_list_63 rfl rfl rfl ⟨_, _, _, _, rfl, rfl, h⟩
          · replace h := h.2 z
            refine gx_iload_n 2 dX11_list_64 rfl rfl ?_
            refine gx_iconst (v := 3) dX11_list_65 (by decide) ?_
            refine gx_icmp_ne 99 dX11_list_66 (by decide) ⟨fun z => ?_, fun z => ?_⟩
            · replace h := h.1 z
              refine gx_aload_n 0 dX11_list_69 rfl rfl ?_
              refine gx_getr 11 1 (v := 60) dX11_list_70 fl_X11_13 rfl rfl rfl ?_
              refine gx_bipush (v := 6) dX11_list_73 (by decide) ?_
              refine gx_iald (v := (I5 60 6)) dX11_list_75 rfl rfl (gm_vin rfl) (k := 6) rfl rfl ?_
              refine gx_if_ne 83 dX11_list_76 (by decide) ⟨fun z => ?_, fun z => ?_⟩
              · replace h := h.1 z
                refine gx_iconst (v := (-1)) dX11_list_79 (by decide) ?_
                refine gx_goto 98 dX11_list_80 (by decide) ?_
                exact gx_iret dX11_list_98 rfl rfl rfl ⟨_, _, _, _, rfl, rfl, h⟩
              · replace h := h.2 z
                refine gx_aload_n 0 dX11_list_83 rfl rfl ?_
                refine gx_iload_n 1 dX11_list_84 rfl rfl ?_
                refine gx_callV 11 (As := [.int x1]) (st := []) dX11_list_85 ml_X11_171 mm_X11_numberOf rfl rfl rfl rfl rfl rfl ⟨rfl, rfl⟩ h (fun v h2 hq => ?_)
                clear h
                obtain ⟨r20, I17, L18, c19, rfl, rfl, h⟩ := hq
                show Z_M_list g Q 88 [(0, .ref 59), (1, .int x1), (2, .int x2)] [.int r20] I17 L18 c19
                refine gx_aload_n 0 dX11_list_88 rfl rfl ?_
                refine gx_getr 11 1 (v := 60) dX11_list_89 fl_X11_13 rfl rfl rfl ?_
                refine gx_bipush (v := 6) dX11_list_92 (by decide) ?_
                refine gx_iald (v := (I17 60 6)) dX11_list_94 rfl rfl (gm_vin rfl) (k := 6) rfl rfl ?_
                refine gx_callS (As := [.int r20, .int (I17 60 6)]) (st := []) dX11_list_95 ml_X11_162 mm_X11_off rfl rfl rfl rfl ⟨rfl, rfl⟩ h (fun v h2 hq => ?_)
                clear h
                obtain ⟨r24, I21, L22, c23, rfl, rfl, h⟩ := hq
                show Z_M_list g Q 98 [(0, .ref 59), (1, .int x1), (2, .int x2)] [.int r24] I21 L22 c23
                exact gx_iret dX11_list_98 rfl rfl rfl ⟨_, _, _, _, rfl, rfl, h⟩
            · replace h := h.2 z
              refine gx_iconst (v := 0) dX11_list_99 (by decide) ?_
              refine gx_istore_n (lv' := [(0, .ref 59), (1, .int x1), (2, .int x2), (3, .int 0)]) dX11_list_100 rfl rfl rfl ?_
              exact h
set_option maxRecDepth 100000 in
theorem r_M_list_101 {g : gm_G} {Q : Int32 → mI → mL → gm_cfg → Prop} {x1 x2 x3 : Int32} {I : mI} {L : mL} {c : gm_cfg} (h : (C_M_numberOf g x3 I L c (fun r4 I1 L2 c3 => (C_M_numberOf g x1 I1 L2 c3 (fun r8 I5 L6 c7 => ((r4 = r8 → Q x3 I5 L6 c7) ∧ (¬ r4 = r8 → Z_M_list g Q 101 [(0, .ref 59), (1, .int x1), (2, .int x2), (3, .int (x3 + 1))] [] I5 L6 c7))))))) : Z_M_list g Q 101 [(0, .ref 59), (1, .int x1), (2, .int x2), (3, .int x3)] [] I L c := by
  refine gx_aload_n 0 dX11_list_101 rfl rfl ?_
  refine gx_iload_n 3 dX11_list_102 rfl rfl ?_
  refine gx_callV 11 (As := [.int x3]) (st := []) dX11_list_103 ml_X11_171 mm_X11_numberOf rfl rfl rfl rfl rfl rfl ⟨rfl, rfl⟩ h (fun v h2 hq => ?_)
  clear h
  obtain ⟨r4, I1, L2, c3, rfl, rfl, h⟩ := hq
  show Z_M_list g Q 106 [(0, .ref 59), (1, .int x1), (2, .int x2), (3, .int x3)] [.int r4] I1 L2 c3
  refine gx_aload_n 0 dX11_list_106 rfl rfl ?_
  refine gx_iload_n 1 dX11_list_107 rfl rfl ?_
  refine gx_callV 11 (As := [.int x1]) (st := [.int r4]) dX11_list_108 ml_X11_171 mm_X11_numberOf rfl rfl rfl rfl rfl rfl ⟨rfl, rfl⟩ h (fun v h2 hq => ?_)
  clear h
  obtain ⟨r8, I5, L6, c7, rfl, rfl, h⟩ := hq
  show Z_M_list g Q 111 [(0, .ref 59), (1, .int x1), (2, .int x2), (3, .int x3)] [.int r8, .int r4] I5 L6 c7
  refine gx_icmp_eq 120 dX11_list_111 (by decide) ⟨fun z => ?_, fun z => ?_⟩
  · replace h := h.1 z
    refine gx_iload_n 3 dX11_list_120 rfl rfl ?_
    exact gx_iret dX11_list_121 rfl rfl rfl ⟨_, _, _, _, rfl, rfl, h⟩
  · replace h := h.2 z
    refine gx_iinc (v := (x3 + 1)) (lv' := [(0, .ref 59), (1, .int x1), (2, .int x2), (3, .int (x3 + 1))]) 3 dX11_list_114 rfl rfl rfl rfl ?_
    refine gx_goto 101 dX11_list_117 (by decide) ?_
    exact h
abbrev Z_M_keeps (g : gm_G) (Q : mI → mL → gm_cfg → Prop) (pc : Nat) (lv : List (Nat × Value)) (st : List Value) (I : mI) (L : mL) (c : gm_cfg) : Prop := gm_X g RX11 "keeps" cX11_keeps 2 none 1 0 0 (qV Q) 0 0 pc lv st (SH, I, L, RR c)
abbrev C_M_keeps (g : gm_G) (I : mI) (L : mL) (c : gm_cfg) (Q : mI → mL → gm_cfg → Prop) : Prop := gm_Met g yX11_keeps cX11_keeps 2 none 1 0 0 [.ref 59] (SH, I, L, RR c) (qV Q)
set_option maxRecDepth 100000 in
theorem e_M_keeps {g : gm_G} {Q : mI → mL → gm_cfg → Prop} {I : mI} {L : mL} {c : gm_cfg} (h : Z_M_keeps g Q 2 [(0, .ref 59), (1, .int 0)] [] I L c) : C_M_keeps g  I L c Q := by
  refine gm_enter (lv := [(0, .ref 59)]) (by decide) rfl rfl rfl rfl ?_
  show Z_M_keeps g Q 0 [(0, .ref 59)] [] I L c
  refine gx_iconst (v := 0) dX11_keeps_0 (by decide) ?_
  refine gx_istore_n (lv' := [(0, .ref 59), (1, .int 0)]) dX11_keeps_1 rfl rfl rfl ?_
  exact h
set_option maxRecDepth 100000 in
theorem r_M_keeps_2 {g : gm_G} {Q : mI → mL → gm_cfg → Prop} {x1 : Int32} {I : mI} {L : mL} {c : gm_cfg} (h : ((110 ≤ x1 → Q I L c) ∧ (¬ 110 ≤ x1 → (vp_in x1 330 ∧ (vp_in x1 110 ∧ Z_M_keeps g Q 2 [(0, .ref 59), (1, .int (x1 + 1))] [] (gm_u I 64 (Int32.toNatClampNeg x1) (I 60 (Int32.toNatClampNeg x1))) L c))))) : Z_M_keeps g Q 2 [(0, .ref 59), (1, .int x1)] [] I L c := by
  refine gx_iload_n 1 dX11_keeps_2 rfl rfl ?_
  refine gx_bipush (v := 110) dX11_keeps_3 (by decide) ?_
  refine gx_icmp_ge 26 dX11_keeps_5 (by decide) ⟨fun z => ?_, fun z => ?_⟩
  · replace h := h.1 z
    exact gx_vret dX11_keeps_26 rfl rfl rfl ⟨_, _, _, rfl, rfl, h⟩
  · replace h := h.2 z
    refine gx_aload_n 0 dX11_keeps_8 rfl rfl ?_
    refine gx_getr 11 15 (v := 64) dX11_keeps_9 fl_X11_30 rfl rfl rfl ?_
    refine gx_iload_n 1 dX11_keeps_12 rfl rfl ?_
    refine gx_aload_n 0 dX11_keeps_13 rfl rfl ?_
    refine gx_getr 11 1 (v := 60) dX11_keeps_14 fl_X11_13 rfl rfl rfl ?_
    refine gx_iload_n 1 dX11_keeps_17 rfl rfl ?_
    obtain ⟨hi, h⟩ := h
    refine gx_iald (v := (I 60 (Int32.toNatClampNeg x1))) dX11_keeps_18 rfl rfl hi (k := (Int32.toNatClampNeg x1)) rfl rfl ?_
    obtain ⟨hi, h⟩ := h
    refine gx_iast dX11_keeps_19 rfl rfl hi (k := (Int32.toNatClampNeg x1)) rfl ?_
    show Z_M_keeps g Q 20 [(0, .ref 59), (1, .int x1)] [] (gm_u I 64 (Int32.toNatClampNeg x1) (I 60 (Int32.toNatClampNeg x1))) L c
    refine gx_iinc (v := (x1 + 1)) (lv' := [(0, .ref 59), (1, .int (x1 + 1))]) 1 dX11_keeps_20 rfl rfl rfl rfl ?_
    refine gx_goto 2 dX11_keeps_23 (by decide) ?_
    exact h
abbrev Z_M_writesAll (g : gm_G) (Q : Int32 → mI → mL → gm_cfg → Prop) (pc : Nat) (lv : List (Nat × Value)) (st : List Value) (I : mI) (L : mL) (c : gm_cfg) : Prop := gm_X g RX11 "writesAll" cX11_writesAll 5 (some .int) 3 0 0 (qI Q) 0 0 pc lv st (SH, I, L, RR c)
abbrev C_M_writesAll (g : gm_G) (x1 : Int32) (I : mI) (L : mL) (c : gm_cfg) (Q : Int32 → mI → mL → gm_cfg → Prop) : Prop := gm_Met g yX11_writesAll cX11_writesAll 5 (some .int) 3 0 0 [.ref 59, .int x1] (SH, I, L, RR c) (qI Q)
set_option maxRecDepth 100000 in
theorem e_M_writesAll {g : gm_G} {Q : Int32 → mI → mL → gm_cfg → Prop} {x1 : Int32} {I : mI} {L : mL} {c : gm_cfg} (h : Z_M_writesAll g Q 7 [(0, .ref 59), (1, .int x1), (2, .int 0)] [] (gm_u I 59 16 0) L c) : C_M_writesAll g x1 I L c Q := by
  refine gm_enter (lv := [(0, .ref 59), (1, .int x1)]) (by decide) rfl rfl rfl rfl ?_
  show Z_M_writesAll g Q 0 [(0, .ref 59), (1, .int x1)] [] I L c
  refine gx_aload_n 0 dX11_writesAll_0 rfl rfl ?_
  refine gx_iconst (v := 0) dX11_writesAll_1 (by decide) ?_
  refine gx_puti 11 16 dX11_writesAll_2 fl_X11_189 rfl rfl rfl ⟨rfl, rfl⟩ ?_
  show Z_M_writesAll g Q 5 [(0, .ref 59), (1, .int x1)] [] (gm_u I 59 16 0) L c
  refine gx_iconst (v := 0) dX11_writesAll_5 (by decide) ?_
  refine gx_istore_n (lv' := [(0, .ref 59), (1, .int x1), (2, .int 0)]) dX11_writesAll_6 rfl rfl rfl ?_
  exact h
set_option maxRecDepth 100000 in
theorem r_M_writesAll_7 {g : gm_G} {Q : Int32 → mI → mL → gm_cfg → Prop} {x1 x2 : Int32} {I : mI} {L : mL} {c : gm_cfg} (h : (vp_in x1 4 ∧ (((I 72 (Int32.toNatClampNeg x1)) ≤ x2 → (vp_in x1 4 ∧ Q (I 72 (Int32.toNatClampNeg x1)) I L c)) ∧ (¬ (I 72 (Int32.toNatClampNeg x1)) ≤ x2 → (vp_in ((40 * x1) + x2) 160 ∧ (((L 73 (Int32.toNatClampNeg ((40 * x1) + x2))) < 0 → Q x2 (gm_u I 59 16 1) L c) ∧ (¬ (L 73 (Int32.toNatClampNeg ((40 * x1) + x2))) < 0 → (C_M_isGuesser g ((L 73 (Int32.toNatClampNeg ((40 * x1) + x2))) / 10000) I L c (fun b4 I1 L2 c3 => ((b4 = false → Q x2 (gm_u I1 59 16 1) L2 c3) ∧ (b4 = true → ((((L 73 (Int32.toNatClampNeg ((40 * x1) + x2))) - (L 73 (Int32.toNatClampNeg ((40 * x1) + x2))) / 10000 * 10000) ≤ 2000 → (((I1 60 1) = 40 → Q x2 (gm_u I1 59 16 2) L2 c3) ∧ (¬ (I1 60 1) = 40 → (C_M_adds g ((Int64.toInt32 (L 73 (Int32.toNatClampNeg ((40 * x1) + x2)))) / 10000) ((Int64.toInt32 (L 73 (Int32.toNatClampNeg ((40 * x1) + x2)))) - (Int64.toInt32 (L 73 (Int32.toNatClampNeg ((40 * x1) + x2)))) / 10000 * 10000) (gm_u I1 59 16 0) L2 c3 (fun I5 L6 c7 => Z_M_writesAll g Q 7 [(0, .ref 59), (1, .int x1), (2, .int (x2 + 1))] [] I5 L6 c7))))) ∧ (¬ ((L 73 (Int32.toNatClampNeg ((40 * x1) + x2))) - (L 73 (Int32.toNatClampNeg ((40 * x1) + x2))) / 10000 * 10000) ≤ 2000 → Q x2 (gm_u I1 59 16 1) L2 c3))))))))))))) : Z_M_writesAll g Q 7 [(0, .ref 59), (1, .int x1), (2, .int x2)] [] I L c := by
  refine gx_iload_n 2 dX11_writesAll_7 rfl rfl ?_
  refine gx_aload_n 0 dX11_writesAll_8 rfl rfl ?_
  refine gx_getr 11 30 (v := 72) dX11_writesAll_9 fl_X11_55 rfl rfl rfl ?_
  refine gx_iload_n 1 dX11_writesAll_12 rfl rfl ?_
  obtain ⟨hi, h⟩ := h
  refine gx_iald (v := (I 72 (Int32.toNatClampNeg x1))) dX11_writesAll_13 rfl rfl hi (k := (Int32.toNatClampNeg x1)) rfl rfl ?_
  refine gx_icmp_ge 114 dX11_writesAll_14 (by decide) ⟨fun z => ?_, fun z => ?_⟩
  · replace h := h.1 z
    refine gx_aload_n 0 dX11_writesAll_114 rfl rfl ?_
    refine gx_getr 11 30 (v := 72) dX11_writesAll_115 fl_X11_55 rfl rfl rfl ?_
    refine gx_iload_n 1 dX11_writesAll_118 rfl rfl ?_
    obtain ⟨hi, h⟩ := h
    refine gx_iald (v := (I 72 (Int32.toNatClampNeg x1))) dX11_writesAll_119 rfl rfl hi (k := (Int32.toNatClampNeg x1)) rfl rfl ?_
    exact gx_iret dX11_writesAll_120 rfl rfl rfl ⟨_, _, _, _, rfl, rfl, h⟩
  · replace h := h.2 z
    refine gx_aload_n 0 dX11_writesAll_17 rfl rfl ?_
    refine gx_getr 11 31 (v := 73) dX11_writesAll_18 fl_X11_58 rfl rfl rfl ?_
    refine gx_bipush (v := 40) dX11_writesAll_21 (by decide) ?_
    refine gx_iload_n 1 dX11_writesAll_23 rfl rfl ?_
    refine gx_imul dX11_writesAll_24 ?_
    refine gx_iload_n 2 dX11_writesAll_25 rfl rfl ?_
    refine gx_iadd dX11_writesAll_26 ?_
    obtain ⟨hi, h⟩ := h
    refine gx_lald (v := (L 73 (Int32.toNatClampNeg ((40 * x1) + x2)))) dX11_writesAll_27 rfl rfl hi (k := (Int32.toNatClampNeg ((40 * x1) + x2))) rfl rfl ?_
    refine gx_lstore_n (lv' := [(0, .ref 59), (1, .int x1), (2, .int x2), (3, .long (L 73 (Int32.toNatClampNeg ((40 * x1) + x2))))]) dX11_writesAll_28 rfl rfl rfl ?_
    refine gx_aload_n 0 dX11_writesAll_29 rfl rfl ?_
    refine gx_lload_n 3 dX11_writesAll_30 rfl rfl ?_
    refine gx_lconst (v := 0) dX11_writesAll_31 (by decide) ?_
    refine gx_lcmp_lt 60 dX11_writesAll_32 dX11_writesAll_33 (by decide) ⟨fun z => ?_, fun z => ?_⟩
    · replace h := h.1 z
      refine gx_iconst (v := 1) dX11_writesAll_60 (by decide) ?_
      refine gx_goto 80 dX11_writesAll_61 (by decide) ?_
      refine gx_puti 11 16 dX11_writesAll_80 fl_X11_189 rfl rfl rfl ⟨rfl, rfl⟩ ?_
      show Z_M_writesAll g Q 83 [(0, .ref 59), (1, .int x1), (2, .int x2), (3, .long (L 73 (Int32.toNatClampNeg ((40 * x1) + x2))))] [] (gm_u I 59 16 1) L c
      refine gx_aload_n 0 dX11_writesAll_83 rfl rfl ?_
      refine gx_geti 11 16 (v := 1) dX11_writesAll_84 fl_X11_189 rfl rfl rfl ?_
      refine gx_if_eq 92 dX11_writesAll_87 (by decide) (br_f (by decide) ?_)
      refine gx_iload_n 2 dX11_writesAll_90 rfl rfl ?_
      exact gx_iret dX11_writesAll_91 rfl rfl rfl ⟨_, _, _, _, rfl, rfl, h⟩
    · replace h := h.2 z
      refine gx_aload_n 0 dX11_writesAll_36 rfl rfl ?_
      refine gx_lload_n 3 dX11_writesAll_37 rfl rfl ?_
      refine gx_ldc2 dX11_writesAll_38 kl_X11_192 ?_
      refine gx_ldiv dX11_writesAll_41 (by decide) ?_
      refine gx_callV 11 (As := [.long ((L 73 (Int32.toNatClampNeg ((40 * x1) + x2))) / 10000)]) (st := [.ref 59]) dX11_writesAll_42 ml_X11_145 mm_X11_isGuesser rfl rfl rfl rfl rfl rfl ⟨rfl, rfl⟩ h (fun v h2 hq => ?_)
      clear h
      obtain ⟨b4, I1, L2, c3, rfl, rfl, h⟩ := hq
      show Z_M_writesAll g Q 45 [(0, .ref 59), (1, .int x1), (2, .int x2), (3, .long (L 73 (Int32.toNatClampNeg ((40 * x1) + x2))))] [.int (gm_b b4), .ref 59] I1 L2 c3
      refine gx_if_eq 60 dX11_writesAll_45 (by decide) ⟨fun z => ?_, fun z => ?_⟩
      · replace h := h.1 (gm_b0.mp z)
        refine gx_iconst (v := 1) dX11_writesAll_60 (by decide) ?_
        refine gx_goto 80 dX11_writesAll_61 (by decide) ?_
        refine gx_puti 11 16 dX11_writesAll_80 fl_X11_189 rfl rfl rfl ⟨rfl, rfl⟩ ?_
        show Z_M_writesAll g Q 83 [(0, .ref 59), (1, .int x1), (2, .int x2), (3, .long (L 73 (Int32.toNatClampNeg ((40 * x1) + x2))))] [] (gm_u I1 59 16 1) L2 c3
        refine gx_aload_n 0 dX11_writesAll_83 rfl rfl ?_
        refine gx_geti 11 16 (v := 1) dX11_writesAll_84 fl_X11_189 rfl rfl rfl ?_
        refine gx_if_eq 92 dX11_writesAll_87 (by decide) (br_f (by decide) ?_)
        refine gx_iload_n 2 dX11_writesAll_90 rfl rfl ?_
        exact gx_iret dX11_writesAll_91 rfl rfl rfl ⟨_, _, _, _, rfl, rfl, h⟩
      · replace h := h.2 (gm_bn0 z)
        refine gx_lload_n 3 dX11_writesAll_48 rfl rfl ?_
        refine gx_ldc2 dX11_writesAll_49 kl_X11_192 ?_
        refine gx_lrem dX11_writesAll_52 (by decide) ?_
        refine gx_ldc2 dX11_writesAll_53 kl_X11_177 ?_
        refine gx_lcmp_le 64 dX11_writesAll_56 dX11_writesAll_57 (by decide) ⟨fun z => ?_, fun z => ?_⟩
        · replace h := h.1 z
          refine gx_aload_n 0 dX11_writesAll_64 rfl rfl ?_
          refine gx_getr 11 1 (v := 60) dX11_writesAll_65 fl_X11_13 rfl rfl rfl ?_
          refine gx_iconst (v := 1) dX11_writesAll_68 (by decide) ?_
          refine gx_iald (v := (I1 60 1)) dX11_writesAll_69 rfl rfl (gm_vin rfl) (k := 1) rfl rfl ?_
          refine gx_bipush (v := 40) dX11_writesAll_70 (by decide) ?_
          refine gx_icmp_ne 79 dX11_writesAll_72 (by decide) ⟨fun z => ?_, fun z => ?_⟩
          · replace h := h.1 z
            refine gx_iconst (v := 2) dX11_writesAll_75 (by decide) ?_
            refine gx_goto 80 dX11_writesAll_76 (by decide) ?_
            refine gx_puti 11 16 dX11_writesAll_80 fl_X11_189 rfl rfl rfl ⟨rfl, rfl⟩ ?_
            show Z_M_writesAll g Q 83 [(0, .ref 59), (1, .int x1), (2, .int x2), (3, .long (L 73 (Int32.toNatClampNeg ((40 * x1) + x2))))] [] (gm_u I1 59 16 2) L2 c3
            refine gx_aload_n 0 dX11_writesAll_83 rfl rfl ?_
            refine gx_geti 11 16 (v := 2) dX11_writesAll_84 fl_X11_189 rfl rfl rfl ?_
            refine gx_if_eq 92 dX11_writesAll_87 (by decide) (br_f (by decide) ?_)
            refine gx_iload_n 2 dX11_writesAll_90 rfl rfl ?_
            exact gx_iret dX11_writesAll_91 rfl rfl rfl ⟨_, _, _, _, rfl, rfl, h⟩
          · replace h := h.2 z
            refine gx_iconst (v := 0) dX11_writesAll_79 (by decide) ?_
            refine gx_puti 11 16 dX11_writesAll_80 fl_X11_189 rfl rfl rfl ⟨rfl, rfl⟩ ?_
            show Z_M_writesAll g Q 83 [(0, .ref 59), (1, .int x1), (2, .int x2), (3, .long (L 73 (Int32.toNatClampNeg ((40 * x1) + x2))))] [] (gm_u I1 59 16 0) L2 c3
            refine gx_aload_n 0 dX11_writesAll_83 rfl rfl ?_
            refine gx_geti 11 16 (v := 0) dX11_writesAll_84 fl_X11_189 rfl rfl rfl ?_
            refine gx_if_eq 92 dX11_writesAll_87 (by decide) (br_t (by decide) ?_)
            refine gx_aload_n 0 dX11_writesAll_92 rfl rfl ?_
            refine gx_lload_n 3 dX11_writesAll_93 rfl rfl ?_
            refine gx_l2i dX11_writesAll_94 ?_
            refine gx_sipush (v := 10000) dX11_writesAll_95 (by decide) ?_
            refine gx_idiv dX11_writesAll_98 (by decide) ?_
            refine gx_lload_n 3 dX11_writesAll_99 rfl rfl ?_
            refine gx_l2i dX11_writesAll_100 ?_
            refine gx_sipush (v := 10000) dX11_writesAll_101 (by decide) ?_
            refine gx_irem dX11_writesAll_104 (by decide) ?_
            refine gx_callV 11 (As := [.int ((Int64.toInt32 (L 73 (Int32.toNatClampNeg ((40 * x1) + x2)))) / 10000), .int ((Int64.toInt32 (L 73 (Int32.toNatClampNeg ((40 * x1) + x2)))) - (Int64.toInt32 (L 73 (Int32.toNatClampNeg ((40 * x1) + x2)))) / 10000 * 10000)]) (st := []) dX11_writesAll_105 ml_X11_179 mm_X11_adds rfl rfl rfl rfl rfl rfl ⟨rfl, rfl⟩ h (fun v h2 hq => ?_)
            clear h
            obtain ⟨I5, L6, c7, rfl, rfl, h⟩ := hq
            show Z_M_writesAll g Q 108 [(0, .ref 59), (1, .int x1), (2, .int x2), (3, .long (L 73 (Int32.toNatClampNeg ((40 * x1) + x2))))] [] I5 L6 c7
            refine gx_iinc (v := (x2 + 1)) (lv' := [(0, .ref 59), (1, .int x1), (2, .int (x2 + 1)), (3, .long (L 73 (Int32.toNatClampNeg ((40 * x1) + x2))))]) 2 dX11_writesAll_108 rfl rfl rfl rfl ?_
            refine gx_goto 7 dX11_writesAll_111 (by decide) ?_
            refine gx_sub [0, 1, 2] (lv' := [(0, .ref 59), (1, .int x1), (2, .int (x2 + 1))]) rfl ?_
            exact h
        · replace h := h.2 z
          refine gx_iconst (v := 1) dX11_writesAll_60 (by decide) ?_
          refine gx_goto 80 dX11_writesAll_61 (by decide) ?_
          refine gx_puti 11 16 dX11_writesAll_80 fl_X11_189 rfl rfl rfl ⟨rfl, rfl⟩ ?_
          show Z_M_writesAll g Q 83 [(0, .ref 59), (1, .int x1), (2, .int x2), (3, .long (L 73 (Int32.toNatClampNeg ((40 * x1) + x2))))] [] (gm_u I1 59 16 1) L2 c3
          refine gx_aload_n 0 dX11_writesAll_83 rfl rfl ?_
          refine gx_geti 11 16 (v := 1) dX11_writesAll_84 fl_X11_189 rfl rfl rfl ?_
          refine gx_if_eq 92 dX11_writesAll_87 (by decide) (br_f (by decide) ?_)
          refine gx_iload_n 2 dX11_writesAll_90 rfl rfl ?_
          exact gx_iret dX11_writesAll_91 rfl rfl rfl ⟨_, _, _, _, rfl, rfl, h⟩
abbrev Z_M_isAgain (g : gm_G) (Q : mI → mL → gm_cfg → Prop) (pc : Nat) (lv : List (Nat × Value)) (st : List Value) (I : mI) (L : mL) (c : gm_cfg) : Prop := gm_X g RX11 "isAgain" cX11_isAgain 2 none 1 0 0 (qV Q) 0 0 pc lv st (SH, I, L, RR c)
abbrev C_M_isAgain (g : gm_G) (I : mI) (L : mL) (c : gm_cfg) (Q : mI → mL → gm_cfg → Prop) : Prop := gm_Met g yX11_isAgain cX11_isAgain 2 none 1 0 0 [.ref 59] (SH, I, L, RR c) (qV Q)
set_option maxRecDepth 100000 in
theorem e_M_isAgain {g : gm_G} {Q : mI → mL → gm_cfg → Prop} {I : mI} {L : mL} {c : gm_cfg} (h : Z_M_isAgain g Q 2 [(0, .ref 59), (1, .int 0)] [] I L c) : C_M_isAgain g  I L c Q := by
  refine gm_enter (lv := [(0, .ref 59)]) (by decide) rfl rfl rfl rfl ?_
  show Z_M_isAgain g Q 0 [(0, .ref 59)] [] I L c
  refine gx_iconst (v := 0) dX11_isAgain_0 (by decide) ?_
  refine gx_istore_n (lv' := [(0, .ref 59), (1, .int 0)]) dX11_isAgain_1 rfl rfl rfl ?_
  exact h
set_option maxRecDepth 100000 in
theorem r_M_isAgain_2 {g : gm_G} {Q : mI → mL → gm_cfg → Prop} {x1 : Int32} {I : mI} {L : mL} {c : gm_cfg} (h : ((110 ≤ x1 → Q I L c) ∧ (¬ 110 ≤ x1 → (vp_in x1 110 ∧ (vp_in x1 330 ∧ Z_M_isAgain g Q 2 [(0, .ref 59), (1, .int (x1 + 1))] [] (gm_u I 60 (Int32.toNatClampNeg x1) (I 64 (Int32.toNatClampNeg x1))) L c))))) : Z_M_isAgain g Q 2 [(0, .ref 59), (1, .int x1)] [] I L c := by
  refine gx_iload_n 1 dX11_isAgain_2 rfl rfl ?_
  refine gx_bipush (v := 110) dX11_isAgain_3 (by decide) ?_
  refine gx_icmp_ge 26 dX11_isAgain_5 (by decide) ⟨fun z => ?_, fun z => ?_⟩
  · replace h := h.1 z
    exact gx_vret dX11_isAgain_26 rfl rfl rfl ⟨_, _, _, rfl, rfl, h⟩
  · replace h := h.2 z
    refine gx_aload_n 0 dX11_isAgain_8 rfl rfl ?_
    refine gx_getr 11 1 (v := 60) dX11_isAgain_9 fl_X11_13 rfl rfl rfl ?_
    refine gx_iload_n 1 dX11_isAgain_12 rfl rfl ?_
    refine gx_aload_n 0 dX11_isAgain_13 rfl rfl ?_
    refine gx_getr 11 15 (v := 64) dX11_isAgain_14 fl_X11_30 rfl rfl rfl ?_
    refine gx_iload_n 1 dX11_isAgain_17 rfl rfl ?_
    obtain ⟨hi, h⟩ := h
    refine gx_iald (v := (I 64 (Int32.toNatClampNeg x1))) dX11_isAgain_18 rfl rfl hi (k := (Int32.toNatClampNeg x1)) rfl rfl ?_
    obtain ⟨hi, h⟩ := h
    refine gx_iast dX11_isAgain_19 rfl rfl hi (k := (Int32.toNatClampNeg x1)) rfl ?_
    show Z_M_isAgain g Q 20 [(0, .ref 59), (1, .int x1)] [] (gm_u I 60 (Int32.toNatClampNeg x1) (I 64 (Int32.toNatClampNeg x1))) L c
    refine gx_iinc (v := (x1 + 1)) (lv' := [(0, .ref 59), (1, .int (x1 + 1))]) 1 dX11_isAgain_20 rfl rfl rfl rfl ?_
    refine gx_goto 2 dX11_isAgain_23 (by decide) ?_
    exact h
abbrev Z_M_judge (g : gm_G) (Q : Int32 → mI → mL → gm_cfg → Prop) (pc : Nat) (lv : List (Nat × Value)) (st : List Value) (I : mI) (L : mL) (c : gm_cfg) : Prop := gm_X g RX11 "judge" cX11_judge 5 (some .int) 4 0 0 (qI Q) 0 0 pc lv st (SH, I, L, RR c)
abbrev C_M_judge (g : gm_G) (x1 : Int32) (x2 : Int32) (I : mI) (L : mL) (c : gm_cfg) (Q : Int32 → mI → mL → gm_cfg → Prop) : Prop := gm_Met g yX11_judge cX11_judge 5 (some .int) 4 0 0 [.ref 59, .int x1, .int x2] (SH, I, L, RR c) (qI Q)
set_option maxRecDepth 100000 in
theorem e_M_judge {g : gm_G} {Q : Int32 → mI → mL → gm_cfg → Prop} {x1 x2 : Int32} {I : mI} {L : mL} {c : gm_cfg} (h : (C_M_within g (Int32.toInt64 x1) 0 3 (gm_u I 59 0 0) L c (fun b4 I1 L2 c3 => ((b4 = false → Q (-2) I1 L2 c3) ∧ (b4 = true → (C_M_within g (Int32.toInt64 x2) 0 2 I1 L2 c3 (fun b8 I5 L6 c7 => ((b8 = false → Q (-2) I5 L6 c7) ∧ (b8 = true → (vp_in x1 4 ∧ (((I5 71 (Int32.toNatClampNeg x1)) = (-1) → Q (-6) I5 L6 c7) ∧ (¬ (I5 71 (Int32.toNatClampNeg x1)) = (-1) → (C_M_keeps g I5 L6 c7 (fun I9 L10 c11 => (C_M_writesAll g x1 I9 L10 c11 (fun r15 I12 L13 c14 => (C_M_meanOf g (I12 60 1) I12 L13 c14 (fun r19 I16 L17 c18 => (C_M_isAgain g I16 L17 c18 (fun I20 L21 c22 => ((x2 = 0 → (((I20 59 16) = 0 → Q (-1) I20 L21 c22) ∧ (¬ (I20 59 16) = 0 → Q r15 I20 L21 c22))) ∧ (¬ x2 = 0 → ((x2 = 1 → Q (I20 59 16) I20 L21 c22) ∧ (¬ x2 = 1 → Q r19 I20 L21 c22)))))))))))))))))))))))) : C_M_judge g x1 x2 I L c Q := by
  refine gm_enter (lv := [(0, .ref 59), (1, .int x1), (2, .int x2)]) (by decide) rfl rfl rfl rfl ?_
  show Z_M_judge g Q 0 [(0, .ref 59), (1, .int x1), (2, .int x2)] [] I L c
  refine gx_aload_n 0 dX11_judge_0 rfl rfl ?_
  refine gx_iconst (v := 0) dX11_judge_1 (by decide) ?_
  refine gx_puti 11 0 dX11_judge_2 fl_X11_1 rfl rfl rfl ⟨rfl, rfl⟩ ?_
  show Z_M_judge g Q 5 [(0, .ref 59), (1, .int x1), (2, .int x2)] [] (gm_u I 59 0 0) L c
  refine gx_iload_n 1 dX11_judge_5 rfl rfl ?_
  refine gx_i2l dX11_judge_6 ?_
  refine gx_lconst (v := 0) dX11_judge_7 (by decide) ?_
  refine gx_ldc2 dX11_judge_8 kl_X11_194 ?_
  refine gx_callS (As := [.long (Int32.toInt64 x1), .long 0, .long 3]) (st := []) dX11_judge_11 ml_X11_125 mm_X11_within rfl rfl rfl rfl ⟨rfl, rfl⟩ h (fun v h2 hq => ?_)
  clear h
  obtain ⟨b4, I1, L2, c3, rfl, rfl, h⟩ := hq
  show Z_M_judge g Q 14 [(0, .ref 59), (1, .int x1), (2, .int x2)] [.int (gm_b b4)] I1 L2 c3
  refine gx_if_eq 29 dX11_judge_14 (by decide) ⟨fun z => ?_, fun z => ?_⟩
  · replace h := h.1 (gm_b0.mp z)
    refine gx_bipush (v := (-2)) dX11_judge_29 (by decide) ?_
    exact gx_iret dX11_judge_31 rfl rfl rfl ⟨_, _, _, _, rfl, rfl, h⟩
  · replace h := h.2 (gm_bn0 z)
    refine gx_iload_n 2 dX11_judge_17 rfl rfl ?_
    refine gx_i2l dX11_judge_18 ?_
    refine gx_lconst (v := 0) dX11_judge_19 (by decide) ?_
    refine gx_ldc2 dX11_judge_20 kl_X11_196 ?_
    refine gx_callS (As := [.long (Int32.toInt64 x2), .long 0, .long 2]) (st := []) dX11_judge_23 ml_X11_125 mm_X11_within rfl rfl rfl rfl ⟨rfl, rfl⟩ h (fun v h2 hq => ?_)
    clear h
    obtain ⟨b8, I5, L6, c7, rfl, rfl, h⟩ := hq
    show Z_M_judge g Q 26 [(0, .ref 59), (1, .int x1), (2, .int x2)] [.int (gm_b b8)] I5 L6 c7
    refine gx_if_ne 32 dX11_judge_26 (by decide) ⟨fun z => ?_, fun z => ?_⟩
    · replace h := h.1 (gm_b0.mp z)
      refine gx_bipush (v := (-2)) dX11_judge_29 (by decide) ?_
      exact gx_iret dX11_judge_31 rfl rfl rfl ⟨_, _, _, _, rfl, rfl, h⟩
    · replace h := h.2 (gm_bn0 z)
      refine gx_aload_n 0 dX11_judge_32 rfl rfl ?_
      refine gx_getr 11 29 (v := 71) dX11_judge_33 fl_X11_52 rfl rfl rfl ?_
      refine gx_iload_n 1 dX11_judge_36 rfl rfl ?_
      obtain ⟨hi, h⟩ := h
      refine gx_iald (v := (I5 71 (Int32.toNatClampNeg x1))) dX11_judge_37 rfl rfl hi (k := (Int32.toNatClampNeg x1)) rfl rfl ?_
      refine gx_iconst (v := (-1)) dX11_judge_38 (by decide) ?_
      refine gx_icmp_ne 45 dX11_judge_39 (by decide) ⟨fun z => ?_, fun z => ?_⟩
      · replace h := h.1 z
        refine gx_bipush (v := (-6)) dX11_judge_42 (by decide) ?_
        exact gx_iret dX11_judge_44 rfl rfl rfl ⟨_, _, _, _, rfl, rfl, h⟩
      · replace h := h.2 z
        refine gx_aload_n 0 dX11_judge_45 rfl rfl ?_
        refine gx_callV 11 (As := []) (st := []) dX11_judge_46 ml_X11_198 mm_X11_keeps rfl rfl rfl rfl rfl rfl ⟨rfl, rfl⟩ h (fun v h2 hq => ?_)
        clear h
        obtain ⟨I9, L10, c11, rfl, rfl, h⟩ := hq
        show Z_M_judge g Q 49 [(0, .ref 59), (1, .int x1), (2, .int x2)] [] I9 L10 c11
        refine gx_aload_n 0 dX11_judge_49 rfl rfl ?_
        refine gx_iload_n 1 dX11_judge_50 rfl rfl ?_
        refine gx_callV 11 (As := [.int x1]) (st := []) dX11_judge_51 ml_X11_201 mm_X11_writesAll rfl rfl rfl rfl rfl rfl ⟨rfl, rfl⟩ h (fun v h2 hq => ?_)
        clear h
        obtain ⟨r15, I12, L13, c14, rfl, rfl, h⟩ := hq
        show Z_M_judge g Q 54 [(0, .ref 59), (1, .int x1), (2, .int x2)] [.int r15] I12 L13 c14
        refine gx_istore_n (lv' := [(0, .ref 59), (1, .int x1), (2, .int x2), (3, .int r15)]) dX11_judge_54 rfl rfl rfl ?_
        refine gx_aload_n 0 dX11_judge_55 rfl rfl ?_
        refine gx_aload_n 0 dX11_judge_56 rfl rfl ?_
        refine gx_getr 11 1 (v := 60) dX11_judge_57 fl_X11_13 rfl rfl rfl ?_
        refine gx_iconst (v := 1) dX11_judge_60 (by decide) ?_
        refine gx_iald (v := (I12 60 1)) dX11_judge_61 rfl rfl (gm_vin rfl) (k := 1) rfl rfl ?_
        refine gx_callV 11 (As := [.int (I12 60 1)]) (st := []) dX11_judge_62 ml_X11_174 mm_X11_meanOf rfl rfl rfl rfl rfl rfl ⟨rfl, rfl⟩ h (fun v h2 hq => ?_)
        clear h
        obtain ⟨r19, I16, L17, c18, rfl, rfl, h⟩ := hq
        show Z_M_judge g Q 65 [(0, .ref 59), (1, .int x1), (2, .int x2), (3, .int r15)] [.int r19] I16 L17 c18
        refine gx_istore (lv' := [(0, .ref 59), (1, .int x1), (2, .int x2), (3, .int r15), (4, .int r19)]) dX11_judge_65 rfl rfl ?_
        refine gx_aload_n 0 dX11_judge_67 rfl rfl ?_
        refine gx_callV 11 (As := []) (st := []) dX11_judge_68 ml_X11_204 mm_X11_isAgain rfl rfl rfl rfl rfl rfl ⟨rfl, rfl⟩ h (fun v h2 hq => ?_)
        clear h
        obtain ⟨I20, L21, c22, rfl, rfl, h⟩ := hq
        show Z_M_judge g Q 71 [(0, .ref 59), (1, .int x1), (2, .int x2), (3, .int r15), (4, .int r19)] [] I20 L21 c22
        refine gx_iload_n 2 dX11_judge_71 rfl rfl ?_
        refine gx_if_ne 90 dX11_judge_72 (by decide) ⟨fun z => ?_, fun z => ?_⟩
        · replace h := h.1 z
          refine gx_aload_n 0 dX11_judge_75 rfl rfl ?_
          refine gx_geti 11 16 (v := (I20 59 16)) dX11_judge_76 fl_X11_189 rfl rfl rfl ?_
          refine gx_if_ne 86 dX11_judge_79 (by decide) ⟨fun z => ?_, fun z => ?_⟩
          · replace h := h.1 z
            refine gx_iconst (v := (-1)) dX11_judge_82 (by decide) ?_
            refine gx_goto 104 dX11_judge_83 (by decide) ?_
            exact gx_iret dX11_judge_104 rfl rfl rfl ⟨_, _, _, _, rfl, rfl, h⟩
          · replace h := h.2 z
            refine gx_iload_n 3 dX11_judge_86 rfl rfl ?_
            refine gx_goto 104 dX11_judge_87 (by decide) ?_
            exact gx_iret dX11_judge_104 rfl rfl rfl ⟨_, _, _, _, rfl, rfl, h⟩
        · replace h := h.2 z
          refine gx_iload_n 2 dX11_judge_90 rfl rfl ?_
          refine gx_iconst (v := 1) dX11_judge_91 (by decide) ?_
          refine gx_icmp_ne 102 dX11_judge_92 (by decide) ⟨fun z => ?_, fun z => ?_⟩
          · replace h := h.1 z
            refine gx_aload_n 0 dX11_judge_95 rfl rfl ?_
            refine gx_geti 11 16 (v := (I20 59 16)) dX11_judge_96 fl_X11_189 rfl rfl rfl ?_
            refine gx_goto 104 dX11_judge_99 (by decide) ?_
            exact gx_iret dX11_judge_104 rfl rfl rfl ⟨_, _, _, _, rfl, rfl, h⟩
          · replace h := h.2 z
            refine gx_iload 4 dX11_judge_102 rfl ?_
            exact gx_iret dX11_judge_104 rfl rfl rfl ⟨_, _, _, _, rfl, rfl, h⟩
abbrev Z_M_perform (g : gm_G) (Q : Int32 → mI → mL → gm_cfg → Prop) (pc : Nat) (lv : List (Nat × Value)) (st : List Value) (I : mI) (L : mL) (c : gm_cfg) : Prop := gm_X g RX11 "perform" cX11_perform 2 (some .int) 4 0 0 (qI Q) 0 0 pc lv st (SH, I, L, RR c)
abbrev C_M_perform (g : gm_G) (x1 : Int32) (I : mI) (L : mL) (c : gm_cfg) (Q : Int32 → mI → mL → gm_cfg → Prop) : Prop := gm_Met g yX11_perform cX11_perform 2 (some .int) 4 0 0 [.ref 59, .int x1] (SH, I, L, RR c) (qI Q)
set_option maxRecDepth 100000 in
theorem e_M_perform {g : gm_G} {Q : Int32 → mI → mL → gm_cfg → Prop} {x1 : Int32} {I : mI} {L : mL} {c : gm_cfg} (h : (C_M_within g (Int32.toInt64 x1) 0 3 (gm_u I 59 0 0) L c (fun b4 I1 L2 c3 => ((b4 = false → Q (-2) I1 L2 c3) ∧ (b4 = true → (vp_in x1 4 ∧ (((I1 71 (Int32.toNatClampNeg x1)) = (-1) → Q (-6) I1 L2 c3) ∧ (¬ (I1 71 (Int32.toNatClampNeg x1)) = (-1) → (C_M_writesAll g x1 I1 L2 c3 (fun r8 I5 L6 c7 => Q r8 I5 L6 c7)))))))))) : C_M_perform g x1 I L c Q := by
  refine gm_enter (lv := [(0, .ref 59), (1, .int x1)]) (by decide) rfl rfl rfl rfl ?_
  show Z_M_perform g Q 0 [(0, .ref 59), (1, .int x1)] [] I L c
  refine gx_aload_n 0 dX11_perform_0 rfl rfl ?_
  refine gx_iconst (v := 0) dX11_perform_1 (by decide) ?_
  refine gx_puti 11 0 dX11_perform_2 fl_X11_1 rfl rfl rfl ⟨rfl, rfl⟩ ?_
  show Z_M_perform g Q 5 [(0, .ref 59), (1, .int x1)] [] (gm_u I 59 0 0) L c
  refine gx_iload_n 1 dX11_perform_5 rfl rfl ?_
  refine gx_i2l dX11_perform_6 ?_
  refine gx_lconst (v := 0) dX11_perform_7 (by decide) ?_
  refine gx_ldc2 dX11_perform_8 kl_X11_194 ?_
  refine gx_callS (As := [.long (Int32.toInt64 x1), .long 0, .long 3]) (st := []) dX11_perform_11 ml_X11_125 mm_X11_within rfl rfl rfl rfl ⟨rfl, rfl⟩ h (fun v h2 hq => ?_)
  clear h
  obtain ⟨b4, I1, L2, c3, rfl, rfl, h⟩ := hq
  show Z_M_perform g Q 14 [(0, .ref 59), (1, .int x1)] [.int (gm_b b4)] I1 L2 c3
  refine gx_if_ne 20 dX11_perform_14 (by decide) ⟨fun z => ?_, fun z => ?_⟩
  · replace h := h.1 (gm_b0.mp z)
    refine gx_bipush (v := (-2)) dX11_perform_17 (by decide) ?_
    exact gx_iret dX11_perform_19 rfl rfl rfl ⟨_, _, _, _, rfl, rfl, h⟩
  · replace h := h.2 (gm_bn0 z)
    refine gx_aload_n 0 dX11_perform_20 rfl rfl ?_
    refine gx_getr 11 29 (v := 71) dX11_perform_21 fl_X11_52 rfl rfl rfl ?_
    refine gx_iload_n 1 dX11_perform_24 rfl rfl ?_
    obtain ⟨hi, h⟩ := h
    refine gx_iald (v := (I1 71 (Int32.toNatClampNeg x1))) dX11_perform_25 rfl rfl hi (k := (Int32.toNatClampNeg x1)) rfl rfl ?_
    refine gx_iconst (v := (-1)) dX11_perform_26 (by decide) ?_
    refine gx_icmp_ne 35 dX11_perform_27 (by decide) ⟨fun z => ?_, fun z => ?_⟩
    · replace h := h.1 z
      refine gx_bipush (v := (-6)) dX11_perform_30 (by decide) ?_
      refine gx_goto 40 dX11_perform_32 (by decide) ?_
      exact gx_iret dX11_perform_40 rfl rfl rfl ⟨_, _, _, _, rfl, rfl, h⟩
    · replace h := h.2 z
      refine gx_aload_n 0 dX11_perform_35 rfl rfl ?_
      refine gx_iload_n 1 dX11_perform_36 rfl rfl ?_
      refine gx_callV 11 (As := [.int x1]) (st := []) dX11_perform_37 ml_X11_201 mm_X11_writesAll rfl rfl rfl rfl rfl rfl ⟨rfl, rfl⟩ h (fun v h2 hq => ?_)
      clear h
      obtain ⟨r8, I5, L6, c7, rfl, rfl, h⟩ := hq
      show Z_M_perform g Q 40 [(0, .ref 59), (1, .int x1)] [.int r8] I5 L6 c7
      exact gx_iret dX11_perform_40 rfl rfl rfl ⟨_, _, _, _, rfl, rfl, h⟩
abbrev Z_M_draw (g : gm_G) (Q : Int32 → mI → mL → gm_cfg → Prop) (pc : Nat) (lv : List (Nat × Value)) (st : List Value) (I : mI) (L : mL) (c : gm_cfg) : Prop := gm_X g RX11 "draw" cX11_draw 2 (some .int) 1 0 0 (qI Q) 0 0 pc lv st (SH, I, L, RR c)
abbrev C_M_draw (g : gm_G) (x1 : Int32) (I : mI) (L : mL) (c : gm_cfg) (Q : Int32 → mI → mL → gm_cfg → Prop) : Prop := gm_Met g yX11_draw cX11_draw 2 (some .int) 1 0 0 [.ref 59, .int x1] (SH, I, L, RR c) (qI Q)
set_option maxRecDepth 100000 in
theorem e_M_draw {g : gm_G} {Q : Int32 → mI → mL → gm_cfg → Prop} {x1 : Int32} {I : mI} {L : mL} {c : gm_cfg} (h : (¬ x1 = 0 ∧ Q (((((1103515245 * (I 59 17)) + 12345).toUInt32 >>> ((16 : Int32).toUInt32 &&& Int32.toUInt32 31)).toInt32) - ((((1103515245 * (I 59 17)) + 12345).toUInt32 >>> ((16 : Int32).toUInt32 &&& Int32.toUInt32 31)).toInt32) / x1 * x1) (gm_u I 59 17 ((1103515245 * (I 59 17)) + 12345)) L c)) : C_M_draw g x1 I L c Q := by
  refine gm_enter (lv := [(0, .ref 59), (1, .int x1)]) (by decide) rfl rfl rfl rfl ?_
  show Z_M_draw g Q 0 [(0, .ref 59), (1, .int x1)] [] I L c
  refine gx_aload_n 0 dX11_draw_0 rfl rfl ?_
  refine gx_ldc dX11_draw_1 ki_X11_207 ?_
  refine gx_aload_n 0 dX11_draw_3 rfl rfl ?_
  refine gx_geti 11 17 (v := (I 59 17)) dX11_draw_4 fl_X11_208 rfl rfl rfl ?_
  refine gx_imul dX11_draw_7 ?_
  refine gx_sipush (v := 12345) dX11_draw_8 (by decide) ?_
  refine gx_iadd dX11_draw_11 ?_
  refine gx_puti 11 17 dX11_draw_12 fl_X11_208 rfl rfl rfl ⟨rfl, rfl⟩ ?_
  show Z_M_draw g Q 15 [(0, .ref 59), (1, .int x1)] [] (gm_u I 59 17 ((1103515245 * (I 59 17)) + 12345)) L c
  refine gx_aload_n 0 dX11_draw_15 rfl rfl ?_
  refine gx_geti 11 17 (v := ((1103515245 * (I 59 17)) + 12345)) dX11_draw_16 fl_X11_208 rfl rfl rfl ?_
  refine gx_bipush (v := 16) dX11_draw_19 (by decide) ?_
  refine gx_iushr dX11_draw_21 ?_
  refine gx_iload_n 1 dX11_draw_22 rfl rfl ?_
  obtain ⟨hn, h⟩ := h
  refine gx_irem dX11_draw_23 hn ?_
  exact gx_iret dX11_draw_24 rfl rfl rfl ⟨_, _, _, _, rfl, rfl, h⟩
abbrev Z_M_comes (g : gm_G) (Q : mI → mL → gm_cfg → Prop) (pc : Nat) (lv : List (Nat × Value)) (st : List Value) (I : mI) (L : mL) (c : gm_cfg) : Prop := gm_X g RX11 "comes" cX11_comes 4 none 4 0 0 (qV Q) 0 0 pc lv st (SH, I, L, RR c)
abbrev C_M_comes (g : gm_G) (I : mI) (L : mL) (c : gm_cfg) (Q : mI → mL → gm_cfg → Prop) : Prop := gm_Met g yX11_comes cX11_comes 4 none 4 0 0 [.ref 59] (SH, I, L, RR c) (qV Q)
set_option maxRecDepth 100000 in
theorem e_M_comes {g : gm_G} {Q : mI → mL → gm_cfg → Prop} {I : mI} {L : mL} {c : gm_cfg} (h : (C_M_draw g (I 60 0) I L c (fun r4 I1 L2 c3 => (C_M_goalAt g (I1 60 1) I1 L2 c3 (fun r8 I5 L6 c7 => (C_M_draw g 10 I5 L6 c7 (fun r12 I9 L10 c11 => (vp_in (23 + r4) 330 ∧ (((I9 60 (Int32.toNatClampNeg (23 + r4))) ≤ r12 → (C_M_sightOf g r4 (I9 60 6) I9 L10 c11 (fun r16 I13 L14 c15 => (vp_in (17 + r4) 330 ∧ (vp_in (17 + r4) 330 ∧ (C_M_draw g ((2 * (I13 60 (Int32.toNatClampNeg (17 + r4)))) + 1) I13 L14 c15 (fun r20 I17 L18 c19 => ((0 ≤ ((r16 - (I13 60 (Int32.toNatClampNeg (17 + r4)))) + r20) → ((((r16 - (I13 60 (Int32.toNatClampNeg (17 + r4)))) + r20) ≤ 2000 → (C_M_adds g r4 ((r16 - (I13 60 (Int32.toNatClampNeg (17 + r4)))) + r20) I17 L18 c19 (fun I21 L22 c23 => Q I21 L22 c23))) ∧ (¬ ((r16 - (I13 60 (Int32.toNatClampNeg (17 + r4)))) + r20) ≤ 2000 → (C_M_adds g r4 2000 I17 L18 c19 (fun I24 L25 c26 => Q I24 L25 c26))))) ∧ (¬ 0 ≤ ((r16 - (I13 60 (Int32.toNatClampNeg (17 + r4)))) + r20) → (C_M_adds g r4 0 I17 L18 c19 (fun I27 L28 c29 => Q I27 L28 c29))))))))))) ∧ (¬ (I9 60 (Int32.toNatClampNeg (23 + r4))) ≤ r12 → ((r8 = (-1) → (C_M_sightOf g r4 (I9 60 6) I9 L10 c11 (fun r33 I30 L31 c32 => (vp_in (17 + r4) 330 ∧ (vp_in (17 + r4) 330 ∧ (C_M_draw g ((2 * (I30 60 (Int32.toNatClampNeg (17 + r4)))) + 1) I30 L31 c32 (fun r37 I34 L35 c36 => ((0 ≤ ((r33 - (I30 60 (Int32.toNatClampNeg (17 + r4)))) + r37) → ((((r33 - (I30 60 (Int32.toNatClampNeg (17 + r4)))) + r37) ≤ 2000 → (C_M_adds g r4 ((r33 - (I30 60 (Int32.toNatClampNeg (17 + r4)))) + r37) I34 L35 c36 (fun I38 L39 c40 => Q I38 L39 c40))) ∧ (¬ ((r33 - (I30 60 (Int32.toNatClampNeg (17 + r4)))) + r37) ≤ 2000 → (C_M_adds g r4 2000 I34 L35 c36 (fun I41 L42 c43 => Q I41 L42 c43))))) ∧ (¬ 0 ≤ ((r33 - (I30 60 (Int32.toNatClampNeg (17 + r4)))) + r37) → (C_M_adds g r4 0 I34 L35 c36 (fun I44 L45 c46 => Q I44 L45 c46))))))))))) ∧ (¬ r8 = (-1) → (C_M_adds g r4 r8 I9 L10 c11 (fun I47 L48 c49 => Q I47 L48 c49)))))))))))))) : C_M_comes g  I L c Q := by
  refine gm_enter (lv := [(0, .ref 59)]) (by decide) rfl rfl rfl rfl ?_
  show Z_M_comes g Q 0 [(0, .ref 59)] [] I L c
  refine gx_aload_n 0 dX11_comes_0 rfl rfl ?_
  refine gx_aload_n 0 dX11_comes_1 rfl rfl ?_
  refine gx_getr 11 1 (v := 60) dX11_comes_2 fl_X11_13 rfl rfl rfl ?_
  refine gx_iconst (v := 0) dX11_comes_5 (by decide) ?_
  refine gx_iald (v := (I 60 0)) dX11_comes_6 rfl rfl (gm_vin rfl) (k := 0) rfl rfl ?_
  refine gx_callV 11 (As := [.int (I 60 0)]) (st := []) dX11_comes_7 ml_X11_211 mm_X11_draw rfl rfl rfl rfl rfl rfl ⟨rfl, rfl⟩ h (fun v h2 hq => ?_)
  clear h
  obtain ⟨r4, I1, L2, c3, rfl, rfl, h⟩ := hq
  show Z_M_comes g Q 10 [(0, .ref 59)] [.int r4] I1 L2 c3
  refine gx_istore_n (lv' := [(0, .ref 59), (1, .int r4)]) dX11_comes_10 rfl rfl rfl ?_
  refine gx_aload_n 0 dX11_comes_11 rfl rfl ?_
  refine gx_aload_n 0 dX11_comes_12 rfl rfl ?_
  refine gx_getr 11 1 (v := 60) dX11_comes_13 fl_X11_13 rfl rfl rfl ?_
  refine gx_iconst (v := 1) dX11_comes_16 (by decide) ?_
  refine gx_iald (v := (I1 60 1)) dX11_comes_17 rfl rfl (gm_vin rfl) (k := 1) rfl rfl ?_
  refine gx_callV 11 (As := [.int (I1 60 1)]) (st := []) dX11_comes_18 ml_X11_186 mm_X11_goalAt rfl rfl rfl rfl rfl rfl ⟨rfl, rfl⟩ h (fun v h2 hq => ?_)
  clear h
  obtain ⟨r8, I5, L6, c7, rfl, rfl, h⟩ := hq
  show Z_M_comes g Q 21 [(0, .ref 59), (1, .int r4)] [.int r8] I5 L6 c7
  refine gx_istore_n (lv' := [(0, .ref 59), (1, .int r4), (2, .int r8)]) dX11_comes_21 rfl rfl rfl ?_
  refine gx_aload_n 0 dX11_comes_22 rfl rfl ?_
  refine gx_bipush (v := 10) dX11_comes_23 (by decide) ?_
  refine gx_callV 11 (As := [.int 10]) (st := []) dX11_comes_25 ml_X11_211 mm_X11_draw rfl rfl rfl rfl rfl rfl ⟨rfl, rfl⟩ h (fun v h2 hq => ?_)
  clear h
  obtain ⟨r12, I9, L10, c11, rfl, rfl, h⟩ := hq
  show Z_M_comes g Q 28 [(0, .ref 59), (1, .int r4), (2, .int r8)] [.int r12] I9 L10 c11
  refine gx_aload_n 0 dX11_comes_28 rfl rfl ?_
  refine gx_getr 11 1 (v := 60) dX11_comes_29 fl_X11_13 rfl rfl rfl ?_
  refine gx_bipush (v := 23) dX11_comes_32 (by decide) ?_
  refine gx_iload_n 1 dX11_comes_34 rfl rfl ?_
  refine gx_iadd dX11_comes_35 ?_
  obtain ⟨hi, h⟩ := h
  refine gx_iald (v := (I9 60 (Int32.toNatClampNeg (23 + r4)))) dX11_comes_36 rfl rfl hi (k := (Int32.toNatClampNeg (23 + r4))) rfl rfl ?_
  refine gx_icmp_ge 52 dX11_comes_37 (by decide) ⟨fun z => ?_, fun z => ?_⟩
  · replace h := h.1 z
    refine gx_aload_n 0 dX11_comes_52 rfl rfl ?_
    refine gx_iload_n 1 dX11_comes_53 rfl rfl ?_
    refine gx_aload_n 0 dX11_comes_54 rfl rfl ?_
    refine gx_getr 11 1 (v := 60) dX11_comes_55 fl_X11_13 rfl rfl rfl ?_
    refine gx_bipush (v := 6) dX11_comes_58 (by decide) ?_
    refine gx_iald (v := (I9 60 6)) dX11_comes_60 rfl rfl (gm_vin rfl) (k := 6) rfl rfl ?_
    refine gx_callV 11 (As := [.int r4, .int (I9 60 6)]) (st := []) dX11_comes_61 ml_X11_159 mm_X11_sightOf rfl rfl rfl rfl rfl rfl ⟨rfl, rfl⟩ h (fun v h2 hq => ?_)
    clear h
    obtain ⟨r16, I13, L14, c15, rfl, rfl, h⟩ := hq
    show Z_M_comes g Q 64 [(0, .ref 59), (1, .int r4), (2, .int r8)] [.int r16] I13 L14 c15
    refine gx_aload_n 0 dX11_comes_64 rfl rfl ?_
    refine gx_getr 11 1 (v := 60) dX11_comes_65 fl_X11_13 rfl rfl rfl ?_
    refine gx_bipush (v := 17) dX11_comes_68 (by decide) ?_
    refine gx_iload_n 1 dX11_comes_70 rfl rfl ?_
    refine gx_iadd dX11_comes_71 ?_
    obtain ⟨hi, h⟩ := h
    refine gx_iald (v := (I13 60 (Int32.toNatClampNeg (17 + r4)))) dX11_comes_72 rfl rfl hi (k := (Int32.toNatClampNeg (17 + r4))) rfl rfl ?_
    refine gx_isub dX11_comes_73 ?_
    refine gx_aload_n 0 dX11_comes_74 rfl rfl ?_
    refine gx_iconst (v := 2) dX11_comes_75 (by decide) ?_
    refine gx_aload_n 0 dX11_comes_76 rfl rfl ?_
    refine gx_getr 11 1 (v := 60) dX11_comes_77 fl_X11_13 rfl rfl rfl ?_
    refine gx_bipush (v := 17) dX11_comes_80 (by decide) ?_
    refine gx_iload_n 1 dX11_comes_82 rfl rfl ?_
    refine gx_iadd dX11_comes_83 ?_
    obtain ⟨hi, h⟩ := h
    refine gx_iald (v := (I13 60 (Int32.toNatClampNeg (17 + r4)))) dX11_comes_84 rfl rfl hi (k := (Int32.toNatClampNeg (17 + r4))) rfl rfl ?_
    refine gx_imul dX11_comes_85 ?_
    refine gx_iconst (v := 1) dX11_comes_86 (by decide) ?_
    refine gx_iadd dX11_comes_87 ?_
    refine gx_callV 11 (As := [.int ((2 * (I13 60 (Int32.toNatClampNeg (17 + r4)))) + 1)]) (st := [.int (r16 - (I13 60 (Int32.toNatClampNeg (17 + r4))))]) dX11_comes_88 ml_X11_211 mm_X11_draw rfl rfl rfl rfl rfl rfl ⟨rfl, rfl⟩ h (fun v h2 hq => ?_)
    clear h
    obtain ⟨r20, I17, L18, c19, rfl, rfl, h⟩ := hq
    show Z_M_comes g Q 91 [(0, .ref 59), (1, .int r4), (2, .int r8)] [.int r20, .int (r16 - (I13 60 (Int32.toNatClampNeg (17 + r4))))] I17 L18 c19
    refine gx_iadd dX11_comes_91 ?_
    refine gx_istore_n (lv' := [(0, .ref 59), (1, .int r4), (2, .int r8), (3, .int ((r16 - (I13 60 (Int32.toNatClampNeg (17 + r4)))) + r20))]) dX11_comes_92 rfl rfl rfl ?_
    refine gx_aload_n 0 dX11_comes_93 rfl rfl ?_
    refine gx_iload_n 1 dX11_comes_94 rfl rfl ?_
    refine gx_iload_n 3 dX11_comes_95 rfl rfl ?_
    refine gx_if_ge 103 dX11_comes_96 (by decide) ⟨fun z => ?_, fun z => ?_⟩
    · replace h := h.1 z
      refine gx_iload_n 3 dX11_comes_103 rfl rfl ?_
      refine gx_sipush (v := 2000) dX11_comes_104 (by decide) ?_
      refine gx_icmp_le 116 dX11_comes_107 (by decide) ⟨fun z => ?_, fun z => ?_⟩
      · replace h := h.1 z
        refine gx_iload_n 3 dX11_comes_116 rfl rfl ?_
        refine gx_callV 11 (As := [.int r4, .int ((r16 - (I13 60 (Int32.toNatClampNeg (17 + r4)))) + r20)]) (st := []) dX11_comes_117 ml_X11_179 mm_X11_adds rfl rfl rfl rfl rfl rfl ⟨rfl, rfl⟩ h (fun v h2 hq => ?_)
        clear h
        obtain ⟨I21, L22, c23, rfl, rfl, h⟩ := hq
        show Z_M_comes g Q 120 [(0, .ref 59), (1, .int r4), (2, .int r8), (3, .int ((r16 - (I13 60 (Int32.toNatClampNeg (17 + r4)))) + r20))] [] I21 L22 c23
        exact gx_vret dX11_comes_120 rfl rfl rfl ⟨_, _, _, rfl, rfl, h⟩
      · replace h := h.2 z
        refine gx_sipush (v := 2000) dX11_comes_110 (by decide) ?_
        refine gx_goto 117 dX11_comes_113 (by decide) ?_
        refine gx_callV 11 (As := [.int r4, .int 2000]) (st := []) dX11_comes_117 ml_X11_179 mm_X11_adds rfl rfl rfl rfl rfl rfl ⟨rfl, rfl⟩ h (fun v h2 hq => ?_)
        clear h
        obtain ⟨I24, L25, c26, rfl, rfl, h⟩ := hq
        show Z_M_comes g Q 120 [(0, .ref 59), (1, .int r4), (2, .int r8), (3, .int ((r16 - (I13 60 (Int32.toNatClampNeg (17 + r4)))) + r20))] [] I24 L25 c26
        exact gx_vret dX11_comes_120 rfl rfl rfl ⟨_, _, _, rfl, rfl, h⟩
    · replace h := h.2 z
      refine gx_iconst (v := 0) dX11_comes_99 (by decide) ?_
      refine gx_goto 117 dX11_comes_100 (by decide) ?_
      refine gx_callV 11 (As := [.int r4, .int 0]) (st := []) dX11_comes_117 ml_X11_179 mm_X11_adds rfl rfl rfl rfl rfl rfl ⟨rfl, rfl⟩ h (fun v h2 hq => ?_)
      clear h
      obtain ⟨I27, L28, c29, rfl, rfl, h⟩ := hq
      show Z_M_comes g Q 120 [(0, .ref 59), (1, .int r4), (2, .int r8), (3, .int ((r16 - (I13 60 (Int32.toNatClampNeg (17 + r4)))) + r20))] [] I27 L28 c29
      exact gx_vret dX11_comes_120 rfl rfl rfl ⟨_, _, _, rfl, rfl, h⟩
  · replace h := h.2 z
    refine gx_iload_n 2 dX11_comes_40 rfl rfl ?_
    refine gx_iconst (v := (-1)) dX11_comes_41 (by decide) ?_
    refine gx_icmp_eq 52 dX11_comes_42 (by decide) ⟨fun z => ?_, fun z => ?_⟩
    · replace h := h.1 z
      refine gx_aload_n 0 dX11_comes_52 rfl rfl ?_
      refine gx_iload_n 1 dX11_comes_53 rfl rfl ?_
      refine gx_aload_n 0 dX11_comes_54 rfl rfl ?_
      refine gx_getr 11 1 (v := 60) dX11_comes_55 fl_X11_13 rfl rfl rfl ?_
      refine gx_bipush (v := 6) dX11_comes_58 (by decide) ?_
      refine gx_iald (v := (I9 60 6)) dX11_comes_60 rfl rfl (gm_vin rfl) (k := 6) rfl rfl ?_
      refine gx_callV 11 (As := [.int r4, .int (I9 60 6)]) (st := []) dX11_comes_61 ml_X11_159 mm_X11_sightOf rfl rfl rfl rfl rfl rfl ⟨rfl, rfl⟩ h (fun v h2 hq => ?_)
      clear h
      obtain ⟨r33, I30, L31, c32, rfl, rfl, h⟩ := hq
      show Z_M_comes g Q 64 [(0, .ref 59), (1, .int r4), (2, .int r8)] [.int r33] I30 L31 c32
      refine gx_aload_n 0 dX11_comes_64 rfl rfl ?_
      refine gx_getr 11 1 (v := 60) dX11_comes_65 fl_X11_13 rfl rfl rfl ?_
      refine gx_bipush (v := 17) dX11_comes_68 (by decide) ?_
      refine gx_iload_n 1 dX11_comes_70 rfl rfl ?_
      refine gx_iadd dX11_comes_71 ?_
      obtain ⟨hi, h⟩ := h
      refine gx_iald (v := (I30 60 (Int32.toNatClampNeg (17 + r4)))) dX11_comes_72 rfl rfl hi (k := (Int32.toNatClampNeg (17 + r4))) rfl rfl ?_
      refine gx_isub dX11_comes_73 ?_
      refine gx_aload_n 0 dX11_comes_74 rfl rfl ?_
      refine gx_iconst (v := 2) dX11_comes_75 (by decide) ?_
      refine gx_aload_n 0 dX11_comes_76 rfl rfl ?_
      refine gx_getr 11 1 (v := 60) dX11_comes_77 fl_X11_13 rfl rfl rfl ?_
      refine gx_bipush (v := 17) dX11_comes_80 (by decide) ?_
      refine gx_iload_n 1 dX11_comes_82 rfl rfl ?_
      refine gx_iadd dX11_comes_83 ?_
      obtain ⟨hi, h⟩ := h
      refine gx_iald (v := (I30 60 (Int32.toNatClampNeg (17 + r4)))) dX11_comes_84 rfl rfl hi (k := (Int32.toNatClampNeg (17 + r4))) rfl rfl ?_
      refine gx_imul dX11_comes_85 ?_
      refine gx_iconst (v := 1) dX11_comes_86 (by decide) ?_
      refine gx_iadd dX11_comes_87 ?_
      refine gx_callV 11 (As := [.int ((2 * (I30 60 (Int32.toNatClampNeg (17 + r4)))) + 1)]) (st := [.int (r33 - (I30 60 (Int32.toNatClampNeg (17 + r4))))]) dX11_comes_88 ml_X11_211 mm_X11_draw rfl rfl rfl rfl rfl rfl ⟨rfl, rfl⟩ h (fun v h2 hq => ?_)
      clear h
      obtain ⟨r37, I34, L35, c36, rfl, rfl, h⟩ := hq
      show Z_M_comes g Q 91 [(0, .ref 59), (1, .int r4), (2, .int r8)] [.int r37, .int (r33 - (I30 60 (Int32.toNatClampNeg (17 + r4))))] I34 L35 c36
      refine gx_iadd dX11_comes_91 ?_
      refine gx_istore_n (lv' := [(0, .ref 59), (1, .int r4), (2, .int r8), (3, .int ((r33 - (I30 60 (Int32.toNatClampNeg (17 + r4)))) + r37))]) dX11_comes_92 rfl rfl rfl ?_
      refine gx_aload_n 0 dX11_comes_93 rfl rfl ?_
      refine gx_iload_n 1 dX11_comes_94 rfl rfl ?_
      refine gx_iload_n 3 dX11_comes_95 rfl rfl ?_
      refine gx_if_ge 103 dX11_comes_96 (by decide) ⟨fun z => ?_, fun z => ?_⟩
      · replace h := h.1 z
        refine gx_iload_n 3 dX11_comes_103 rfl rfl ?_
        refine gx_sipush (v := 2000) dX11_comes_104 (by decide) ?_
        refine gx_icmp_le 116 dX11_comes_107 (by decide) ⟨fun z => ?_, fun z => ?_⟩
        · replace h := h.1 z
          refine gx_iload_n 3 dX11_comes_116 rfl rfl ?_
          refine gx_callV 11 (As := [.int r4, .int ((r33 - (I30 60 (Int32.toNatClampNeg (17 + r4)))) + r37)]) (st := []) dX11_comes_117 ml_X11_179 mm_X11_adds rfl rfl rfl rfl rfl rfl ⟨rfl, rfl⟩ h (fun v h2 hq => ?_)
          clear h
          obtain ⟨I38, L39, c40, rfl, rfl, h⟩ := hq
          show Z_M_comes g Q 120 [(0, .ref 59), (1, .int r4), (2, .int r8), (3, .int ((r33 - (I30 60 (Int32.toNatClampNeg (17 + r4)))) + r37))] [] I38 L39 c40
          exact gx_vret dX11_comes_120 rfl rfl rfl ⟨_, _, _, rfl, rfl, h⟩
        · replace h := h.2 z
          refine gx_sipush (v := 2000) dX11_comes_110 (by decide) ?_
          refine gx_goto 117 dX11_comes_113 (by decide) ?_
          refine gx_callV 11 (As := [.int r4, .int 2000]) (st := []) dX11_comes_117 ml_X11_179 mm_X11_adds rfl rfl rfl rfl rfl rfl ⟨rfl, rfl⟩ h (fun v h2 hq => ?_)
          clear h
          obtain ⟨I41, L42, c43, rfl, rfl, h⟩ := hq
          show Z_M_comes g Q 120 [(0, .ref 59), (1, .int r4), (2, .int r8), (3, .int ((r33 - (I30 60 (Int32.toNatClampNeg (17 + r4)))) + r37))] [] I41 L42 c43
          exact gx_vret dX11_comes_120 rfl rfl rfl ⟨_, _, _, rfl, rfl, h⟩
      · replace h := h.2 z
        refine gx_iconst (v := 0) dX11_comes_99 (by decide) ?_
        refine gx_goto 117 dX11_comes_100 (by decide) ?_
        refine gx_callV 11 (As := [.int r4, .int 0]) (st := []) dX11_comes_117 ml_X11_179 mm_X11_adds rfl rfl rfl rfl rfl rfl ⟨rfl, rfl⟩ h (fun v h2 hq => ?_)
        clear h
        obtain ⟨I44, L45, c46, rfl, rfl, h⟩ := hq
        show Z_M_comes g Q 120 [(0, .ref 59), (1, .int r4), (2, .int r8), (3, .int ((r33 - (I30 60 (Int32.toNatClampNeg (17 + r4)))) + r37))] [] I44 L45 c46
        exact gx_vret dX11_comes_120 rfl rfl rfl ⟨_, _, _, rfl, rfl, h⟩
    · replace h := h.2 z
      refine gx_aload_n 0 dX11_comes_45 rfl rfl ?_
      refine gx_iload_n 1 dX11_comes_46 rfl rfl ?_
      refine gx_iload_n 2 dX11_comes_47 rfl rfl ?_
      refine gx_callV 11 (As := [.int r4, .int r8]) (st := []) dX11_comes_48 ml_X11_179 mm_X11_adds rfl rfl rfl rfl rfl rfl ⟨rfl, rfl⟩ h (fun v h2 hq => ?_)
      clear h
      obtain ⟨I47, L48, c49, rfl, rfl, h⟩ := hq
      show Z_M_comes g Q 51 [(0, .ref 59), (1, .int r4), (2, .int r8)] [] I47 L48 c49
      exact gx_vret dX11_comes_51 rfl rfl rfl ⟨_, _, _, rfl, rfl, h⟩
abbrev Z_M_come (g : gm_G) (Q : Int32 → mI → mL → gm_cfg → Prop) (pc : Nat) (lv : List (Nat × Value)) (st : List Value) (I : mI) (L : mL) (c : gm_cfg) : Prop := gm_X g RX11 "come" cX11_come 4 (some .int) 5 0 0 (qI Q) 0 0 pc lv st (SH, I, L, RR c)
abbrev C_M_come (g : gm_G) (x1 : Int32) (x2 : Int32) (I : mI) (L : mL) (c : gm_cfg) (Q : Int32 → mI → mL → gm_cfg → Prop) : Prop := gm_Met g yX11_come cX11_come 4 (some .int) 5 0 0 [.ref 59, .int x1, .int x2] (SH, I, L, RR c) (qI Q)
set_option maxRecDepth 100000 in
theorem e_M_come {g : gm_G} {Q : Int32 → mI → mL → gm_cfg → Prop} {x1 x2 : Int32} {I : mI} {L : mL} {c : gm_cfg} (h : (C_M_within g (Int32.toInt64 x2) 1 40 (gm_u I 59 0 0) L c (fun b4 I1 L2 c3 => ((b4 = false → Q (-3) I1 L2 c3) ∧ (b4 = true → (((I1 60 0) = 0 → Q (-5) I1 L2 c3) ∧ (¬ (I1 60 0) = 0 → (((I1 60 6) = 0 → Q (-5) I1 L2 c3) ∧ (¬ (I1 60 6) = 0 → ((((I1 60 1) + x2) ≤ 40 → Z_M_come g Q 65 [(0, .ref 59), (1, .int x1), (2, .int x2), (3, .int 0)] [] (gm_u I1 59 17 x1) L2 c3) ∧ (¬ ((I1 60 1) + x2) ≤ 40 → Q (-4) I1 L2 c3))))))))))) : C_M_come g x1 x2 I L c Q := by
  refine gm_enter (lv := [(0, .ref 59), (1, .int x1), (2, .int x2)]) (by decide) rfl rfl rfl rfl ?_
  show Z_M_come g Q 0 [(0, .ref 59), (1, .int x1), (2, .int x2)] [] I L c
  refine gx_aload_n 0 dX11_come_0 rfl rfl ?_
  refine gx_iconst (v := 0) dX11_come_1 (by decide) ?_
  refine gx_puti 11 0 dX11_come_2 fl_X11_1 rfl rfl rfl ⟨rfl, rfl⟩ ?_
  show Z_M_come g Q 5 [(0, .ref 59), (1, .int x1), (2, .int x2)] [] (gm_u I 59 0 0) L c
  refine gx_iload_n 2 dX11_come_5 rfl rfl ?_
  refine gx_i2l dX11_come_6 ?_
  refine gx_lconst (v := 1) dX11_come_7 (by decide) ?_
  refine gx_ldc2 dX11_come_8 kl_X11_214 ?_
  refine gx_callS (As := [.long (Int32.toInt64 x2), .long 1, .long 40]) (st := []) dX11_come_11 ml_X11_125 mm_X11_within rfl rfl rfl rfl ⟨rfl, rfl⟩ h (fun v h2 hq => ?_)
  clear h
  obtain ⟨b4, I1, L2, c3, rfl, rfl, h⟩ := hq
  show Z_M_come g Q 14 [(0, .ref 59), (1, .int x1), (2, .int x2)] [.int (gm_b b4)] I1 L2 c3
  refine gx_if_ne 20 dX11_come_14 (by decide) ⟨fun z => ?_, fun z => ?_⟩
  · replace h := h.1 (gm_b0.mp z)
    refine gx_bipush (v := (-3)) dX11_come_17 (by decide) ?_
    exact gx_iret dX11_come_19 rfl rfl rfl ⟨_, _, _, _, rfl, rfl, h⟩
  · replace h := h.2 (gm_bn0 z)
    refine gx_aload_n 0 dX11_come_20 rfl rfl ?_
    refine gx_getr 11 1 (v := 60) dX11_come_21 fl_X11_13 rfl rfl rfl ?_
    refine gx_iconst (v := 0) dX11_come_24 (by decide) ?_
    refine gx_iald (v := (I1 60 0)) dX11_come_25 rfl rfl (gm_vin rfl) (k := 0) rfl rfl ?_
    refine gx_if_eq 39 dX11_come_26 (by decide) ⟨fun z => ?_, fun z => ?_⟩
    · replace h := h.1 z
      refine gx_bipush (v := (-5)) dX11_come_39 (by decide) ?_
      exact gx_iret dX11_come_41 rfl rfl rfl ⟨_, _, _, _, rfl, rfl, h⟩
    · replace h := h.2 z
      refine gx_aload_n 0 dX11_come_29 rfl rfl ?_
      refine gx_getr 11 1 (v := 60) dX11_come_30 fl_X11_13 rfl rfl rfl ?_
      refine gx_bipush (v := 6) dX11_come_33 (by decide) ?_
      refine gx_iald (v := (I1 60 6)) dX11_come_35 rfl rfl (gm_vin rfl) (k := 6) rfl rfl ?_
      refine gx_if_ne 42 dX11_come_36 (by decide) ⟨fun z => ?_, fun z => ?_⟩
      · replace h := h.1 z
        refine gx_bipush (v := (-5)) dX11_come_39 (by decide) ?_
        exact gx_iret dX11_come_41 rfl rfl rfl ⟨_, _, _, _, rfl, rfl, h⟩
      · replace h := h.2 z
        refine gx_aload_n 0 dX11_come_42 rfl rfl ?_
        refine gx_getr 11 1 (v := 60) dX11_come_43 fl_X11_13 rfl rfl rfl ?_
        refine gx_iconst (v := 1) dX11_come_46 (by decide) ?_
        refine gx_iald (v := (I1 60 1)) dX11_come_47 rfl rfl (gm_vin rfl) (k := 1) rfl rfl ?_
        refine gx_iload_n 2 dX11_come_48 rfl rfl ?_
        refine gx_iadd dX11_come_49 ?_
        refine gx_bipush (v := 40) dX11_come_50 (by decide) ?_
        refine gx_icmp_le 58 dX11_come_52 (by decide) ⟨fun z => ?_, fun z => ?_⟩
        · replace h := h.1 z
          refine gx_aload_n 0 dX11_come_58 rfl rfl ?_
          refine gx_iload_n 1 dX11_come_59 rfl rfl ?_
          refine gx_puti 11 17 dX11_come_60 fl_X11_208 rfl rfl rfl ⟨rfl, rfl⟩ ?_
          show Z_M_come g Q 63 [(0, .ref 59), (1, .int x1), (2, .int x2)] [] (gm_u I1 59 17 x1) L2 c3
          refine gx_iconst (v := 0) dX11_come_63 (by decide) ?_
          refine gx_istore_n (lv' := [(0, .ref 59), (1, .int x1), (2, .int x2), (3, .int 0)]) dX11_come_64 rfl rfl rfl ?_
          exact h
        · replace h := h.2 z
          refine gx_bipush (v := (-4)) dX11_come_55 (by decide) ?_
          exact gx_iret dX11_come_57 rfl rfl rfl ⟨_, _, _, _, rfl, rfl, h⟩
set_option maxRecDepth 100000 in
theorem r_M_come_65 {g : gm_G} {Q : Int32 → mI → mL → gm_cfg → Prop} {x1 x2 x3 : Int32} {I : mI} {L : mL} {c : gm_cfg} (h : ((x2 ≤ x3 → Q (I 60 1) I L c) ∧ (¬ x2 ≤ x3 → (C_M_comes g I L c (fun I1 L2 c3 => Z_M_come g Q 65 [(0, .ref 59), (1, .int x1), (2, .int x2), (3, .int (x3 + 1))] [] I1 L2 c3))))) : Z_M_come g Q 65 [(0, .ref 59), (1, .int x1), (2, .int x2), (3, .int x3)] [] I L c := by
  refine gx_iload_n 3 dX11_come_65 rfl rfl ?_
  refine gx_iload_n 2 dX11_come_66 rfl rfl ?_
  refine gx_icmp_ge 80 dX11_come_67 (by decide) ⟨fun z => ?_, fun z => ?_⟩
  · replace h := h.1 z
    refine gx_aload_n 0 dX11_come_80 rfl rfl ?_
    refine gx_getr 11 1 (v := 60) dX11_come_81 fl_X11_13 rfl rfl rfl ?_
    refine gx_iconst (v := 1) dX11_come_84 (by decide) ?_
    refine gx_iald (v := (I 60 1)) dX11_come_85 rfl rfl (gm_vin rfl) (k := 1) rfl rfl ?_
    exact gx_iret dX11_come_86 rfl rfl rfl ⟨_, _, _, _, rfl, rfl, h⟩
  · replace h := h.2 z
    refine gx_aload_n 0 dX11_come_70 rfl rfl ?_
    refine gx_callV 11 (As := []) (st := []) dX11_come_71 ml_X11_216 mm_X11_comes rfl rfl rfl rfl rfl rfl ⟨rfl, rfl⟩ h (fun v h2 hq => ?_)
    clear h
    obtain ⟨I1, L2, c3, rfl, rfl, h⟩ := hq
    show Z_M_come g Q 74 [(0, .ref 59), (1, .int x1), (2, .int x2), (3, .int x3)] [] I1 L2 c3
    refine gx_iinc (v := (x3 + 1)) (lv' := [(0, .ref 59), (1, .int x1), (2, .int x2), (3, .int (x3 + 1))]) 3 dX11_come_74 rfl rfl rfl rfl ?_
    refine gx_goto 65 dX11_come_77 (by decide) ?_
    exact h
abbrev Z_M_leaderFor (g : gm_G) (Q : Int32 → mI → mL → gm_cfg → Prop) (pc : Nat) (lv : List (Nat × Value)) (st : List Value) (I : mI) (L : mL) (c : gm_cfg) : Prop := gm_X g RX11 "leaderFor" cX11_leaderFor 4 (some .int) 2 0 0 (qI Q) 0 0 pc lv st (SH, I, L, RR c)
abbrev C_M_leaderFor (g : gm_G) (x1 : Int32) (I : mI) (L : mL) (c : gm_cfg) (Q : Int32 → mI → mL → gm_cfg → Prop) : Prop := gm_Met g yX11_leaderFor cX11_leaderFor 4 (some .int) 2 0 0 [.ref 59, .int x1] (SH, I, L, RR c) (qI Q)
set_option maxRecDepth 100000 in
theorem e_M_leaderFor {g : gm_G} {Q : Int32 → mI → mL → gm_cfg → Prop} {x1 : Int32} {I : mI} {L : mL} {c : gm_cfg} (h : Z_M_leaderFor g Q 4 [(0, .ref 59), (1, .int x1), (2, .int (-1)), (3, .int 0)] [] I L c) : C_M_leaderFor g x1 I L c Q := by
  refine gm_enter (lv := [(0, .ref 59), (1, .int x1)]) (by decide) rfl rfl rfl rfl ?_
  show Z_M_leaderFor g Q 0 [(0, .ref 59), (1, .int x1)] [] I L c
  refine gx_iconst (v := (-1)) dX11_leaderFor_0 (by decide) ?_
  refine gx_istore_n (lv' := [(0, .ref 59), (1, .int x1), (2, .int (-1))]) dX11_leaderFor_1 rfl rfl rfl ?_
  refine gx_iconst (v := 0) dX11_leaderFor_2 (by decide) ?_
  refine gx_istore_n (lv' := [(0, .ref 59), (1, .int x1), (2, .int (-1)), (3, .int 0)]) dX11_leaderFor_3 rfl rfl rfl ?_
  exact h
set_option maxRecDepth 100000 in
theorem r_M_leaderFor_4 {g : gm_G} {Q : Int32 → mI → mL → gm_cfg → Prop} {x1 x2 x3 : Int32} {I : mI} {L : mL} {c : gm_cfg} (h : (((I 60 1) ≤ x3 → Q x2 I L c) ∧ (¬ (I 60 1) ≤ x3 → ((x2 = (-1) → Z_M_leaderFor g Q 4 [(0, .ref 59), (1, .int x1), (2, .int x3), (3, .int (x3 + 1))] [] I L c) ∧ (¬ x2 = (-1) → (C_M_numberOf g x3 I L c (fun r4 I1 L2 c3 => (C_M_off g r4 x1 I1 L2 c3 (fun r8 I5 L6 c7 => (C_M_numberOf g x2 I5 L6 c7 (fun r12 I9 L10 c11 => (C_M_off g r12 x1 I9 L10 c11 (fun r16 I13 L14 c15 => ((r16 ≤ r8 → Z_M_leaderFor g Q 4 [(0, .ref 59), (1, .int x1), (2, .int x2), (3, .int (x3 + 1))] [] I13 L14 c15) ∧ (¬ r16 ≤ r8 → Z_M_leaderFor g Q 4 [(0, .ref 59), (1, .int x1), (2, .int x3), (3, .int (x3 + 1))] [] I13 L14 c15))))))))))))))) : Z_M_leaderFor g Q 4 [(0, .ref 59), (1, .int x1), (2, .int x2), (3, .int x3)] [] I L c := by
  refine gx_iload_n 3 dX11_leaderFor_4 rfl rfl ?_
  refine gx_aload_n 0 dX11_leaderFor_5 rfl rfl ?_
  refine gx_getr 11 1 (v := 60) dX11_leaderFor_6 fl_X11_13 rfl rfl rfl ?_
  refine gx_iconst (v := 1) dX11_leaderFor_9 (by decide) ?_
  refine gx_iald (v := (I 60 1)) dX11_leaderFor_10 rfl rfl (gm_vin rfl) (k := 1) rfl rfl ?_
  refine gx_icmp_ge 48 dX11_leaderFor_11 (by decide) ⟨fun z => ?_, fun z => ?_⟩
  · replace h := h.1 z
    refine gx_iload_n 2 dX11_leaderFor_48 rfl rfl ?_
    exact gx_iret dX11_leaderFor_49 rfl rfl rfl ⟨_, _, _, _, rfl, rfl, h⟩
  · replace h := h.2 z
    refine gx_iload_n 2 dX11_leaderFor_14 rfl rfl ?_
    refine gx_iconst (v := (-1)) dX11_leaderFor_15 (by decide) ?_
    refine gx_icmp_eq 40 dX11_leaderFor_16 (by decide) ⟨fun z => ?_, fun z => ?_⟩
    · replace h := h.1 z
      refine gx_iload_n 3 dX11_leaderFor_40 rfl rfl ?_
      refine gx_istore_n (lv' := [(0, .ref 59), (1, .int x1), (2, .int x3), (3, .int x3)]) dX11_leaderFor_41 rfl rfl rfl ?_
      refine gx_iinc (v := (x3 + 1)) (lv' := [(0, .ref 59), (1, .int x1), (2, .int x3), (3, .int (x3 + 1))]) 3 dX11_leaderFor_42 rfl rfl rfl rfl ?_
      refine gx_goto 4 dX11_leaderFor_45 (by decide) ?_
      exact h
    · replace h := h.2 z
      refine gx_aload_n 0 dX11_leaderFor_19 rfl rfl ?_
      refine gx_iload_n 3 dX11_leaderFor_20 rfl rfl ?_
      refine gx_callV 11 (As := [.int x3]) (st := []) dX11_leaderFor_21 ml_X11_171 mm_X11_numberOf rfl rfl rfl rfl rfl rfl ⟨rfl, rfl⟩ h (fun v h2 hq => ?_)
      clear h
      obtain ⟨r4, I1, L2, c3, rfl, rfl, h⟩ := hq
      show Z_M_leaderFor g Q 24 [(0, .ref 59), (1, .int x1), (2, .int x2), (3, .int x3)] [.int r4] I1 L2 c3
      refine gx_iload_n 1 dX11_leaderFor_24 rfl rfl ?_
      refine gx_callS (As := [.int r4, .int x1]) (st := []) dX11_leaderFor_25 ml_X11_162 mm_X11_off rfl rfl rfl rfl ⟨rfl, rfl⟩ h (fun v h2 hq => ?_)
      clear h
      obtain ⟨r8, I5, L6, c7, rfl, rfl, h⟩ := hq
      show Z_M_leaderFor g Q 28 [(0, .ref 59), (1, .int x1), (2, .int x2), (3, .int x3)] [.int r8] I5 L6 c7
      refine gx_aload_n 0 dX11_leaderFor_28 rfl rfl ?_
      refine gx_iload_n 2 dX11_leaderFor_29 rfl rfl ?_
      refine gx_callV 11 (As := [.int x2]) (st := [.int r8]) dX11_leaderFor_30 ml_X11_171 mm_X11_numberOf rfl rfl rfl rfl rfl rfl ⟨rfl, rfl⟩ h (fun v h2 hq => ?_)
      clear h
      obtain ⟨r12, I9, L10, c11, rfl, rfl, h⟩ := hq
      show Z_M_leaderFor g Q 33 [(0, .ref 59), (1, .int x1), (2, .int x2), (3, .int x3)] [.int r12, .int r8] I9 L10 c11
      refine gx_iload_n 1 dX11_leaderFor_33 rfl rfl ?_
      refine gx_callS (As := [.int r12, .int x1]) (st := [.int r8]) dX11_leaderFor_34 ml_X11_162 mm_X11_off rfl rfl rfl rfl ⟨rfl, rfl⟩ h (fun v h2 hq => ?_)
      clear h
      obtain ⟨r16, I13, L14, c15, rfl, rfl, h⟩ := hq
      show Z_M_leaderFor g Q 37 [(0, .ref 59), (1, .int x1), (2, .int x2), (3, .int x3)] [.int r16, .int r8] I13 L14 c15
      refine gx_icmp_ge 42 dX11_leaderFor_37 (by decide) ⟨fun z => ?_, fun z => ?_⟩
      · replace h := h.1 z
        refine gx_iinc (v := (x3 + 1)) (lv' := [(0, .ref 59), (1, .int x1), (2, .int x2), (3, .int (x3 + 1))]) 3 dX11_leaderFor_42 rfl rfl rfl rfl ?_
        refine gx_goto 4 dX11_leaderFor_45 (by decide) ?_
        exact h
      · replace h := h.2 z
        refine gx_iload_n 3 dX11_leaderFor_40 rfl rfl ?_
        refine gx_istore_n (lv' := [(0, .ref 59), (1, .int x1), (2, .int x3), (3, .int x3)]) dX11_leaderFor_41 rfl rfl rfl ?_
        refine gx_iinc (v := (x3 + 1)) (lv' := [(0, .ref 59), (1, .int x1), (2, .int x3), (3, .int (x3 + 1))]) 3 dX11_leaderFor_42 rfl rfl rfl rfl ?_
        refine gx_goto 4 dX11_leaderFor_45 (by decide) ?_
        exact h
abbrev Z_M_leader (g : gm_G) (Q : Int32 → mI → mL → gm_cfg → Prop) (pc : Nat) (lv : List (Nat × Value)) (st : List Value) (I : mI) (L : mL) (c : gm_cfg) : Prop := gm_X g RX11 "leader" cX11_leader 2 (some .int) 3 0 0 (qI Q) 0 0 pc lv st (SH, I, L, RR c)
abbrev C_M_leader (g : gm_G) (x1 : Int32) (I : mI) (L : mL) (c : gm_cfg) (Q : Int32 → mI → mL → gm_cfg → Prop) : Prop := gm_Met g yX11_leader cX11_leader 2 (some .int) 3 0 0 [.ref 59, .int x1] (SH, I, L, RR c) (qI Q)
set_option maxRecDepth 100000 in
theorem e_M_leader {g : gm_G} {Q : Int32 → mI → mL → gm_cfg → Prop} {x1 : Int32} {I : mI} {L : mL} {c : gm_cfg} (h : (C_M_within g (Int32.toInt64 x1) 1 999 (gm_u I 59 0 0) L c (fun b4 I1 L2 c3 => ((b4 = false → Q (-3) I1 L2 c3) ∧ (b4 = true → (C_M_leaderFor g x1 I1 L2 c3 (fun r8 I5 L6 c7 => Q r8 I5 L6 c7))))))) : C_M_leader g x1 I L c Q := by
  refine gm_enter (lv := [(0, .ref 59), (1, .int x1)]) (by decide) rfl rfl rfl rfl ?_
  show Z_M_leader g Q 0 [(0, .ref 59), (1, .int x1)] [] I L c
  refine gx_aload_n 0 dX11_leader_0 rfl rfl ?_
  refine gx_iconst (v := 0) dX11_leader_1 (by decide) ?_
  refine gx_puti 11 0 dX11_leader_2 fl_X11_1 rfl rfl rfl ⟨rfl, rfl⟩ ?_
  show Z_M_leader g Q 5 [(0, .ref 59), (1, .int x1)] [] (gm_u I 59 0 0) L c
  refine gx_iload_n 1 dX11_leader_5 rfl rfl ?_
  refine gx_i2l dX11_leader_6 ?_
  refine gx_lconst (v := 1) dX11_leader_7 (by decide) ?_
  refine gx_ldc2 dX11_leader_8 kl_X11_157 ?_
  refine gx_callS (As := [.long (Int32.toInt64 x1), .long 1, .long 999]) (st := []) dX11_leader_11 ml_X11_125 mm_X11_within rfl rfl rfl rfl ⟨rfl, rfl⟩ h (fun v h2 hq => ?_)
  clear h
  obtain ⟨b4, I1, L2, c3, rfl, rfl, h⟩ := hq
  show Z_M_leader g Q 14 [(0, .ref 59), (1, .int x1)] [.int (gm_b b4)] I1 L2 c3
  refine gx_if_eq 25 dX11_leader_14 (by decide) ⟨fun z => ?_, fun z => ?_⟩
  · replace h := h.1 (gm_b0.mp z)
    refine gx_bipush (v := (-3)) dX11_leader_25 (by decide) ?_
    exact gx_iret dX11_leader_27 rfl rfl rfl ⟨_, _, _, _, rfl, rfl, h⟩
  · replace h := h.2 (gm_bn0 z)
    refine gx_aload_n 0 dX11_leader_17 rfl rfl ?_
    refine gx_iload_n 1 dX11_leader_18 rfl rfl ?_
    refine gx_callV 11 (As := [.int x1]) (st := []) dX11_leader_19 ml_X11_219 mm_X11_leaderFor rfl rfl rfl rfl rfl rfl ⟨rfl, rfl⟩ h (fun v h2 hq => ?_)
    clear h
    obtain ⟨r8, I5, L6, c7, rfl, rfl, h⟩ := hq
    show Z_M_leader g Q 22 [(0, .ref 59), (1, .int x1)] [.int r8] I5 L6 c7
    refine gx_goto 27 dX11_leader_22 (by decide) ?_
    exact gx_iret dX11_leader_27 rfl rfl rfl ⟨_, _, _, _, rfl, rfl, h⟩
abbrev Z_M_winner (g : gm_G) (Q : Int32 → mI → mL → gm_cfg → Prop) (pc : Nat) (lv : List (Nat × Value)) (st : List Value) (I : mI) (L : mL) (c : gm_cfg) : Prop := gm_X g RX11 "winner" cX11_winner 1 (some .int) 3 0 0 (qI Q) 0 0 pc lv st (SH, I, L, RR c)
abbrev C_M_winner (g : gm_G) (I : mI) (L : mL) (c : gm_cfg) (Q : Int32 → mI → mL → gm_cfg → Prop) : Prop := gm_Met g yX11_winner cX11_winner 1 (some .int) 3 0 0 [.ref 59] (SH, I, L, RR c) (qI Q)
set_option maxRecDepth 100000 in
theorem e_M_winner {g : gm_G} {Q : Int32 → mI → mL → gm_cfg → Prop} {I : mI} {L : mL} {c : gm_cfg} (h : (((I 60 6) = 0 → Q (-5) (gm_u I 59 0 0) L c) ∧ (¬ (I 60 6) = 0 → (C_M_leaderFor g (I 60 6) (gm_u I 59 0 0) L c (fun r4 I1 L2 c3 => Q r4 I1 L2 c3))))) : C_M_winner g  I L c Q := by
  refine gm_enter (lv := [(0, .ref 59)]) (by decide) rfl rfl rfl rfl ?_
  show Z_M_winner g Q 0 [(0, .ref 59)] [] I L c
  refine gx_aload_n 0 dX11_winner_0 rfl rfl ?_
  refine gx_iconst (v := 0) dX11_winner_1 (by decide) ?_
  refine gx_puti 11 0 dX11_winner_2 fl_X11_1 rfl rfl rfl ⟨rfl, rfl⟩ ?_
  show Z_M_winner g Q 5 [(0, .ref 59)] [] (gm_u I 59 0 0) L c
  refine gx_aload_n 0 dX11_winner_5 rfl rfl ?_
  refine gx_getr 11 1 (v := 60) dX11_winner_6 fl_X11_13 rfl rfl rfl ?_
  refine gx_bipush (v := 6) dX11_winner_9 (by decide) ?_
  refine gx_iald (v := (I 60 6)) dX11_winner_11 rfl rfl (gm_vin rfl) (k := 6) rfl rfl ?_
  refine gx_if_ne 20 dX11_winner_12 (by decide) ⟨fun z => ?_, fun z => ?_⟩
  · replace h := h.1 z
    refine gx_bipush (v := (-5)) dX11_winner_15 (by decide) ?_
    refine gx_goto 31 dX11_winner_17 (by decide) ?_
    exact gx_iret dX11_winner_31 rfl rfl rfl ⟨_, _, _, _, rfl, rfl, h⟩
  · replace h := h.2 z
    refine gx_aload_n 0 dX11_winner_20 rfl rfl ?_
    refine gx_aload_n 0 dX11_winner_21 rfl rfl ?_
    refine gx_getr 11 1 (v := 60) dX11_winner_22 fl_X11_13 rfl rfl rfl ?_
    refine gx_bipush (v := 6) dX11_winner_25 (by decide) ?_
    refine gx_iald (v := (I 60 6)) dX11_winner_27 rfl rfl (gm_vin rfl) (k := 6) rfl rfl ?_
    refine gx_callV 11 (As := [.int (I 60 6)]) (st := []) dX11_winner_28 ml_X11_219 mm_X11_leaderFor rfl rfl rfl rfl rfl rfl ⟨rfl, rfl⟩ h (fun v h2 hq => ?_)
    clear h
    obtain ⟨r4, I1, L2, c3, rfl, rfl, h⟩ := hq
    show Z_M_winner g Q 31 [(0, .ref 59)] [.int r4] I1 L2 c3
    exact gx_iret dX11_winner_31 rfl rfl rfl ⟨_, _, _, _, rfl, rfl, h⟩
abbrev Z_M_wins (g : gm_G) (Q : Int32 → mI → mL → gm_cfg → Prop) (pc : Nat) (lv : List (Nat × Value)) (st : List Value) (I : mI) (L : mL) (c : gm_cfg) : Prop := gm_X g RX11 "wins" cX11_wins 8 (some .int) 3 0 0 (qI Q) 0 0 pc lv st (SH, I, L, RR c)
abbrev C_M_wins (g : gm_G) (x1 : Int32) (x2 : Int32) (I : mI) (L : mL) (c : gm_cfg) (Q : Int32 → mI → mL → gm_cfg → Prop) : Prop := gm_Met g yX11_wins cX11_wins 8 (some .int) 3 0 0 [.ref 59, .int x1, .int x2] (SH, I, L, RR c) (qI Q)
set_option maxRecDepth 100000 in
theorem e_M_wins {g : gm_G} {Q : Int32 → mI → mL → gm_cfg → Prop} {x1 x2 : Int32} {I : mI} {L : mL} {c : gm_cfg} (h : (C_M_isGuess g x1 (gm_u I 59 0 0) L c (fun b4 I1 L2 c3 => ((b4 = false → Q (-2) I1 L2 c3) ∧ (b4 = true → (C_M_within g (Int32.toInt64 x2) 0 3 I1 L2 c3 (fun b8 I5 L6 c7 => ((b8 = false → Q (-2) I5 L6 c7) ∧ (b8 = true → Z_M_wins g Q 47 [(0, .ref 59), (1, .int x1), (2, .int x2), (3, .int 0), (4, .int (-1)), (5, .int (-1)), (6, .int 0), (7, .int (I5 60 2))] [] I5 L6 c7))))))))) : C_M_wins g x1 x2 I L c Q := by
  refine gm_enter (lv := [(0, .ref 59), (1, .int x1), (2, .int x2)]) (by decide) rfl rfl rfl rfl ?_
  show Z_M_wins g Q 0 [(0, .ref 59), (1, .int x1), (2, .int x2)] [] I L c
  refine gx_aload_n 0 dX11_wins_0 rfl rfl ?_
  refine gx_iconst (v := 0) dX11_wins_1 (by decide) ?_
  refine gx_puti 11 0 dX11_wins_2 fl_X11_1 rfl rfl rfl ⟨rfl, rfl⟩ ?_
  show Z_M_wins g Q 5 [(0, .ref 59), (1, .int x1), (2, .int x2)] [] (gm_u I 59 0 0) L c
  refine gx_aload_n 0 dX11_wins_5 rfl rfl ?_
  refine gx_iload_n 1 dX11_wins_6 rfl rfl ?_
  refine gx_callV 11 (As := [.int x1]) (st := []) dX11_wins_7 ml_X11_183 mm_X11_isGuess rfl rfl rfl rfl rfl rfl ⟨rfl, rfl⟩ h (fun v h2 hq => ?_)
  clear h
  obtain ⟨b4, I1, L2, c3, rfl, rfl, h⟩ := hq
  show Z_M_wins g Q 10 [(0, .ref 59), (1, .int x1), (2, .int x2)] [.int (gm_b b4)] I1 L2 c3
  refine gx_if_eq 25 dX11_wins_10 (by decide) ⟨fun z => ?_, fun z => ?_⟩
  · replace h := h.1 (gm_b0.mp z)
    refine gx_bipush (v := (-2)) dX11_wins_25 (by decide) ?_
    exact gx_iret dX11_wins_27 rfl rfl rfl ⟨_, _, _, _, rfl, rfl, h⟩
  · replace h := h.2 (gm_bn0 z)
    refine gx_iload_n 2 dX11_wins_13 rfl rfl ?_
    refine gx_i2l dX11_wins_14 ?_
    refine gx_lconst (v := 0) dX11_wins_15 (by decide) ?_
    refine gx_ldc2 dX11_wins_16 kl_X11_194 ?_
    refine gx_callS (As := [.long (Int32.toInt64 x2), .long 0, .long 3]) (st := []) dX11_wins_19 ml_X11_125 mm_X11_within rfl rfl rfl rfl ⟨rfl, rfl⟩ h (fun v h2 hq => ?_)
    clear h
    obtain ⟨b8, I5, L6, c7, rfl, rfl, h⟩ := hq
    show Z_M_wins g Q 22 [(0, .ref 59), (1, .int x1), (2, .int x2)] [.int (gm_b b8)] I5 L6 c7
    refine gx_if_ne 28 dX11_wins_22 (by decide) ⟨fun z => ?_, fun z => ?_⟩
    · replace h := h.1 (gm_b0.mp z)
      refine gx_bipush (v := (-2)) dX11_wins_25 (by decide) ?_
      exact gx_iret dX11_wins_27 rfl rfl rfl ⟨_, _, _, _, rfl, rfl, h⟩
    · replace h := h.2 (gm_bn0 z)
      refine gx_iconst (v := 0) dX11_wins_28 (by decide) ?_
      refine gx_istore_n (lv' := [(0, .ref 59), (1, .int x1), (2, .int x2), (3, .int 0)]) dX11_wins_29 rfl rfl rfl ?_
      refine gx_iconst (v := (-1)) dX11_wins_30 (by decide) ?_
      refine gx_istore (lv' := [(0, .ref 59), (1, .int x1), (2, .int x2), (3, .int 0), (4, .int (-1))]) dX11_wins_31 rfl rfl ?_
      refine gx_iconst (v := (-1)) dX11_wins_33 (by decide) ?_
      refine gx_istore (lv' := [(0, .ref 59), (1, .int x1), (2, .int x2), (3, .int 0), (4, .int (-1)), (5, .int (-1))]) dX11_wins_34 rfl rfl ?_
      refine gx_iconst (v := 0) dX11_wins_36 (by decide) ?_
      refine gx_istore (lv' := [(0, .ref 59), (1, .int x1), (2, .int x2), (3, .int 0), (4, .int (-1)), (5, .int (-1)), (6, .int 0)]) dX11_wins_37 rfl rfl ?_
      refine gx_aload_n 0 dX11_wins_39 rfl rfl ?_
      refine gx_getr 11 1 (v := 60) dX11_wins_40 fl_X11_13 rfl rfl rfl ?_
      refine gx_iconst (v := 2) dX11_wins_43 (by decide) ?_
      refine gx_iald (v := (I5 60 2)) dX11_wins_44 rfl rfl (gm_vin rfl) (k := 2) rfl rfl ?_
      refine gx_istore (lv' := [(0, .ref 59), (1, .int x1), (2, .int x2), (3, .int 0), (4, .int (-1)), (5, .int (-1)), (6, .int 0), (7, .int (I5 60 2))]) dX11_wins_45 rfl rfl ?_
      exact h
set_option maxRecDepth 100000 in
theorem r_M_wins_47 {g : gm_G} {Q : Int32 → mI → mL → gm_cfg → Prop} {x1 x2 x3 x4 x5 x6 x7 : Int32} {I : mI} {L : mL} {c : gm_cfg} (h : (((I 60 3) < x7 → ((x2 = 0 → Q x3 I L c) ∧ (¬ x2 = 0 → ((x2 = 1 → Q x4 I L c) ∧ (¬ x2 = 1 → ((x2 = 2 → Q x5 I L c) ∧ (¬ x2 = 2 → Q x6 I L c))))))) ∧ (¬ (I 60 3) < x7 → (C_M_leaderFor g x7 I L c (fun r4 I1 L2 c3 => ((r4 = x1 → (C_M_weightOf g x7 I1 L2 c3 (fun r8 I5 L6 c7 => ((x4 = (-1) → Z_M_wins g Q 47 [(0, .ref 59), (1, .int x1), (2, .int x2), (3, .int (x3 + 1)), (4, .int x7), (5, .int x7), (6, .int (x6 + r8)), (7, .int (x7 + 1))] [] I5 L6 c7) ∧ (¬ x4 = (-1) → Z_M_wins g Q 47 [(0, .ref 59), (1, .int x1), (2, .int x2), (3, .int (x3 + 1)), (4, .int x4), (5, .int x7), (6, .int (x6 + r8)), (7, .int (x7 + 1))] [] I5 L6 c7))))) ∧ (¬ r4 = x1 → Z_M_wins g Q 47 [(0, .ref 59), (1, .int x1), (2, .int x2), (3, .int x3), (4, .int x4), (5, .int x5), (6, .int x6), (7, .int (x7 + 1))] [] I1 L2 c3))))))) : Z_M_wins g Q 47 [(0, .ref 59), (1, .int x1), (2, .int x2), (3, .int x3), (4, .int x4), (5, .int x5), (6, .int x6), (7, .int x7)] [] I L c := by
  refine gx_iload 7 dX11_wins_47 rfl ?_
  refine gx_aload_n 0 dX11_wins_49 rfl rfl ?_
  refine gx_getr 11 1 (v := 60) dX11_wins_50 fl_X11_13 rfl rfl rfl ?_
  refine gx_iconst (v := 3) dX11_wins_53 (by decide) ?_
  refine gx_iald (v := (I 60 3)) dX11_wins_54 rfl rfl (gm_vin rfl) (k := 3) rfl rfl ?_
  refine gx_icmp_gt 110 dX11_wins_55 (by decide) ⟨fun z => ?_, fun z => ?_⟩
  · replace h := h.1 z
    refine gx_iload_n 2 dX11_wins_110 rfl rfl ?_
    refine gx_if_ne 118 dX11_wins_111 (by decide) ⟨fun z => ?_, fun z => ?_⟩
    · replace h := h.1 z
      refine gx_iload_n 3 dX11_wins_114 rfl rfl ?_
      refine gx_goto 140 dX11_wins_115 (by decide) ?_
      exact gx_iret dX11_wins_140 rfl rfl rfl ⟨_, _, _, _, rfl, rfl, h⟩
    · replace h := h.2 z
      refine gx_iload_n 2 dX11_wins_118 rfl rfl ?_
      refine gx_iconst (v := 1) dX11_wins_119 (by decide) ?_
      refine gx_icmp_ne 128 dX11_wins_120 (by decide) ⟨fun z => ?_, fun z => ?_⟩
      · replace h := h.1 z
        refine gx_iload 4 dX11_wins_123 rfl ?_
        refine gx_goto 140 dX11_wins_125 (by decide) ?_
        exact gx_iret dX11_wins_140 rfl rfl rfl ⟨_, _, _, _, rfl, rfl, h⟩
      · replace h := h.2 z
        refine gx_iload_n 2 dX11_wins_128 rfl rfl ?_
        refine gx_iconst (v := 2) dX11_wins_129 (by decide) ?_
        refine gx_icmp_ne 138 dX11_wins_130 (by decide) ⟨fun z => ?_, fun z => ?_⟩
        · replace h := h.1 z
          refine gx_iload 5 dX11_wins_133 rfl ?_
          refine gx_goto 140 dX11_wins_135 (by decide) ?_
          exact gx_iret dX11_wins_140 rfl rfl rfl ⟨_, _, _, _, rfl, rfl, h⟩
        · replace h := h.2 z
          refine gx_iload 6 dX11_wins_138 rfl ?_
          exact gx_iret dX11_wins_140 rfl rfl rfl ⟨_, _, _, _, rfl, rfl, h⟩
  · replace h := h.2 z
    refine gx_aload_n 0 dX11_wins_58 rfl rfl ?_
    refine gx_iload 7 dX11_wins_59 rfl ?_
    refine gx_callV 11 (As := [.int x7]) (st := []) dX11_wins_61 ml_X11_219 mm_X11_leaderFor rfl rfl rfl rfl rfl rfl ⟨rfl, rfl⟩ h (fun v h2 hq => ?_)
    clear h
    obtain ⟨r4, I1, L2, c3, rfl, rfl, h⟩ := hq
    show Z_M_wins g Q 64 [(0, .ref 59), (1, .int x1), (2, .int x2), (3, .int x3), (4, .int x4), (5, .int x5), (6, .int x6), (7, .int x7)] [.int r4] I1 L2 c3
    refine gx_iload_n 1 dX11_wins_64 rfl rfl ?_
    refine gx_icmp_eq 71 dX11_wins_65 (by decide) ⟨fun z => ?_, fun z => ?_⟩
    · replace h := h.1 z
      refine gx_iinc (v := (x3 + 1)) (lv' := [(0, .ref 59), (1, .int x1), (2, .int x2), (3, .int (x3 + 1)), (4, .int x4), (5, .int x5), (6, .int x6), (7, .int x7)]) 3 dX11_wins_71 rfl rfl rfl rfl ?_
      refine gx_iload 6 dX11_wins_74 rfl ?_
      refine gx_aload_n 0 dX11_wins_76 rfl rfl ?_
      refine gx_iload 7 dX11_wins_77 rfl ?_
      refine gx_callV 11 (As := [.int x7]) (st := [.int x6]) dX11_wins_79 ml_X11_168 mm_X11_weightOf rfl rfl rfl rfl rfl rfl ⟨rfl, rfl⟩ h (fun v h2 hq => ?_)
      clear h
      obtain ⟨r8, I5, L6, c7, rfl, rfl, h⟩ := hq
      show Z_M_wins g Q 82 [(0, .ref 59), (1, .int x1), (2, .int x2), (3, .int (x3 + 1)), (4, .int x4), (5, .int x5), (6, .int x6), (7, .int x7)] [.int r8, .int x6] I5 L6 c7
      refine gx_iadd dX11_wins_82 ?_
      refine gx_istore (lv' := [(0, .ref 59), (1, .int x1), (2, .int x2), (3, .int (x3 + 1)), (4, .int x4), (5, .int x5), (6, .int (x6 + r8)), (7, .int x7)]) dX11_wins_83 rfl rfl ?_
      refine gx_iload 4 dX11_wins_85 rfl ?_
      refine gx_iconst (v := (-1)) dX11_wins_87 (by decide) ?_
      refine gx_icmp_ne 96 dX11_wins_88 (by decide) ⟨fun z => ?_, fun z => ?_⟩
      · replace h := h.1 z
        refine gx_iload 7 dX11_wins_91 rfl ?_
        refine gx_goto 98 dX11_wins_93 (by decide) ?_
        refine gx_istore (lv' := [(0, .ref 59), (1, .int x1), (2, .int x2), (3, .int (x3 + 1)), (4, .int x7), (5, .int x5), (6, .int (x6 + r8)), (7, .int x7)]) dX11_wins_98 rfl rfl ?_
        refine gx_iload 7 dX11_wins_100 rfl ?_
        refine gx_istore (lv' := [(0, .ref 59), (1, .int x1), (2, .int x2), (3, .int (x3 + 1)), (4, .int x7), (5, .int x7), (6, .int (x6 + r8)), (7, .int x7)]) dX11_wins_102 rfl rfl ?_
        refine gx_iinc (v := (x7 + 1)) (lv' := [(0, .ref 59), (1, .int x1), (2, .int x2), (3, .int (x3 + 1)), (4, .int x7), (5, .int x7), (6, .int (x6 + r8)), (7, .int (x7 + 1))]) 7 dX11_wins_104 rfl rfl rfl rfl ?_
        refine gx_goto 47 dX11_wins_107 (by decide) ?_
        exact h
      · replace h := h.2 z
        refine gx_iload 4 dX11_wins_96 rfl ?_
        refine gx_istore (lv' := [(0, .ref 59), (1, .int x1), (2, .int x2), (3, .int (x3 + 1)), (4, .int x4), (5, .int x5), (6, .int (x6 + r8)), (7, .int x7)]) dX11_wins_98 rfl rfl ?_
        refine gx_iload 7 dX11_wins_100 rfl ?_
        refine gx_istore (lv' := [(0, .ref 59), (1, .int x1), (2, .int x2), (3, .int (x3 + 1)), (4, .int x4), (5, .int x7), (6, .int (x6 + r8)), (7, .int x7)]) dX11_wins_102 rfl rfl ?_
        refine gx_iinc (v := (x7 + 1)) (lv' := [(0, .ref 59), (1, .int x1), (2, .int x2), (3, .int (x3 + 1)), (4, .int x4), (5, .int x7), (6, .int (x6 + r8)), (7, .int (x7 + 1))]) 7 dX11_wins_104 rfl rfl rfl rfl ?_
        refine gx_goto 47 dX11_wins_107 (by decide) ?_
        exact h
    · replace h := h.2 z
      refine gx_goto 104 dX11_wins_68 (by decide) ?_
      refine gx_iinc (v := (x7 + 1)) (lv' := [(0, .ref 59), (1, .int x1), (2, .int x2), (3, .int x3), (4, .int x4), (5, .int x5), (6, .int x6), (7, .int (x7 + 1))]) 7 dX11_wins_104 rfl rfl rfl rfl ?_
      refine gx_goto 47 dX11_wins_107 (by decide) ?_
      exact h
abbrev Z_M_ranked (g : gm_G) (Q : Int32 → mI → mL → gm_cfg → Prop) (pc : Nat) (lv : List (Nat × Value)) (st : List Value) (I : mI) (L : mL) (c : gm_cfg) : Prop := gm_X g RX11 "ranked" cX11_ranked 6 (some .int) 2 0 0 (qI Q) 0 0 pc lv st (SH, I, L, RR c)
abbrev C_M_ranked (g : gm_G) (x1 : Int32) (I : mI) (L : mL) (c : gm_cfg) (Q : Int32 → mI → mL → gm_cfg → Prop) : Prop := gm_Met g yX11_ranked cX11_ranked 6 (some .int) 2 0 0 [.ref 59, .int x1] (SH, I, L, RR c) (qI Q)
set_option maxRecDepth 100000 in
theorem e_M_ranked {g : gm_G} {Q : Int32 → mI → mL → gm_cfg → Prop} {x1 : Int32} {I : mI} {L : mL} {c : gm_cfg} (h : Z_M_ranked g Q 2 [(0, .ref 59), (1, .int x1), (2, .int 0)] [] I L c) : C_M_ranked g x1 I L c Q := by
  refine gm_enter (lv := [(0, .ref 59), (1, .int x1)]) (by decide) rfl rfl rfl rfl ?_
  show Z_M_ranked g Q 0 [(0, .ref 59), (1, .int x1)] [] I L c
  refine gx_iconst (v := 0) dX11_ranked_0 (by decide) ?_
  refine gx_istore_n (lv' := [(0, .ref 59), (1, .int x1), (2, .int 0)]) dX11_ranked_1 rfl rfl rfl ?_
  exact h
set_option maxRecDepth 100000 in
theorem r_M_ranked_2 {g : gm_G} {Q : Int32 → mI → mL → gm_cfg → Prop} {x1 x2 : Int32} {I : mI} {L : mL} {c : gm_cfg} (h : (((I 60 1) ≤ x2 → Q (-1) I L c) ∧ (¬ (I 60 1) ≤ x2 → Z_M_ranked g Q 20 [(0, .ref 59), (1, .int x1), (2, .int x2), (3, .int 0), (4, .int 0), (5, .int 0)] [] I L c))) : Z_M_ranked g Q 2 [(0, .ref 59), (1, .int x1), (2, .int x2)] [] I L c := by
  refine gx_iload_n 2 dX11_ranked_2 rfl rfl ?_
  refine gx_aload_n 0 dX11_ranked_3 rfl rfl ?_
  refine gx_getr 11 1 (v := 60) dX11_ranked_4 fl_X11_13 rfl rfl rfl ?_
  refine gx_iconst (v := 1) dX11_ranked_7 (by decide) ?_
  refine gx_iald (v := (I 60 1)) dX11_ranked_8 rfl rfl (gm_vin rfl) (k := 1) rfl rfl ?_
  refine gx_icmp_ge 108 dX11_ranked_9 (by decide) ⟨fun z => ?_, fun z => ?_⟩
  · replace h := h.1 z
    refine gx_iconst (v := (-1)) dX11_ranked_108 (by decide) ?_
    exact gx_iret dX11_ranked_109 rfl rfl rfl ⟨_, _, _, _, rfl, rfl, h⟩
  · replace h := h.2 z
    refine gx_iconst (v := 0) dX11_ranked_12 (by decide) ?_
    refine gx_istore_n (lv' := [(0, .ref 59), (1, .int x1), (2, .int x2), (3, .int 0)]) dX11_ranked_13 rfl rfl rfl ?_
    refine gx_iconst (v := 0) dX11_ranked_14 (by decide) ?_
    refine gx_istore (lv' := [(0, .ref 59), (1, .int x1), (2, .int x2), (3, .int 0), (4, .int 0)]) dX11_ranked_15 rfl rfl ?_
    refine gx_iconst (v := 0) dX11_ranked_17 (by decide) ?_
    refine gx_istore (lv' := [(0, .ref 59), (1, .int x1), (2, .int x2), (3, .int 0), (4, .int 0), (5, .int 0)]) dX11_ranked_18 rfl rfl ?_
    exact h
set_option maxRecDepth 100000 in
theorem r_M_ranked_20 {g : gm_G} {Q : Int32 → mI → mL → gm_cfg → Prop} {x1 x2 x3 x4 x5 : Int32} {I : mI} {L : mL} {c : gm_cfg} (h : (((I 60 1) ≤ x5 → ((x1 < x3 → Z_M_ranked g Q 2 [(0, .ref 59), (1, .int x1), (2, .int (x2 + 1))] [] I L c) ∧ (¬ x1 < x3 → (((x3 + x4) ≤ x1 → Z_M_ranked g Q 2 [(0, .ref 59), (1, .int x1), (2, .int (x2 + 1))] [] I L c) ∧ (¬ (x3 + x4) ≤ x1 → (C_M_numberOf g x2 I L c (fun r4 I1 L2 c3 => Q r4 I1 L2 c3))))))) ∧ (¬ (I 60 1) ≤ x5 → (C_M_numberOf g x5 I L c (fun r8 I5 L6 c7 => (C_M_numberOf g x2 I5 L6 c7 (fun r12 I9 L10 c11 => ((r12 ≤ r8 → (C_M_numberOf g x5 I9 L10 c11 (fun r16 I13 L14 c15 => (C_M_numberOf g x2 I13 L14 c15 (fun r20 I17 L18 c19 => ((r16 = r20 → Z_M_ranked g Q 20 [(0, .ref 59), (1, .int x1), (2, .int x2), (3, .int (x3 + 0)), (4, .int (x4 + 1)), (5, .int (x5 + 1))] [] I17 L18 c19) ∧ (¬ r16 = r20 → Z_M_ranked g Q 20 [(0, .ref 59), (1, .int x1), (2, .int x2), (3, .int (x3 + 0)), (4, .int (x4 + 0)), (5, .int (x5 + 1))] [] I17 L18 c19))))))) ∧ (¬ r12 ≤ r8 → (C_M_numberOf g x5 I9 L10 c11 (fun r24 I21 L22 c23 => (C_M_numberOf g x2 I21 L22 c23 (fun r28 I25 L26 c27 => ((r24 = r28 → Z_M_ranked g Q 20 [(0, .ref 59), (1, .int x1), (2, .int x2), (3, .int (x3 + 1)), (4, .int (x4 + 1)), (5, .int (x5 + 1))] [] I25 L26 c27) ∧ (¬ r24 = r28 → Z_M_ranked g Q 20 [(0, .ref 59), (1, .int x1), (2, .int x2), (3, .int (x3 + 1)), (4, .int (x4 + 0)), (5, .int (x5 + 1))] [] I25 L26 c27))))))))))))))) : Z_M_ranked g Q 20 [(0, .ref 59), (1, .int x1), (2, .int x2), (3, .int x3), (4, .int x4), (5, .int x5)] [] I L c := by
  refine gx_iload 5 dX11_ranked_20 rfl ?_
  refine gx_aload_n 0 dX11_ranked_22 rfl rfl ?_
  refine gx_getr 11 1 (v := 60) dX11_ranked_23 fl_X11_13 rfl rfl rfl ?_
  refine gx_iconst (v := 1) dX11_ranked_26 (by decide) ?_
  refine gx_iald (v := (I 60 1)) dX11_ranked_27 rfl rfl (gm_vin rfl) (k := 1) rfl rfl ?_
  refine gx_icmp_ge 83 dX11_ranked_28 (by decide) ⟨fun z => ?_, fun z => ?_⟩
  · replace h := h.1 z
    refine gx_iload_n 1 dX11_ranked_83 rfl rfl ?_
    refine gx_iload_n 3 dX11_ranked_84 rfl rfl ?_
    refine gx_icmp_lt 102 dX11_ranked_85 (by decide) ⟨fun z => ?_, fun z => ?_⟩
    · replace h := h.1 z
      refine gx_iinc (v := (x2 + 1)) (lv' := [(0, .ref 59), (1, .int x1), (2, .int (x2 + 1)), (3, .int x3), (4, .int x4), (5, .int x5)]) 2 dX11_ranked_102 rfl rfl rfl rfl ?_
      refine gx_goto 2 dX11_ranked_105 (by decide) ?_
      refine gx_sub [0, 1, 2] (lv' := [(0, .ref 59), (1, .int x1), (2, .int (x2 + 1))]) rfl ?_
      exact h
    · replace h := h.2 z
      refine gx_iload_n 1 dX11_ranked_88 rfl rfl ?_
      refine gx_iload_n 3 dX11_ranked_89 rfl rfl ?_
      refine gx_iload 4 dX11_ranked_90 rfl ?_
      refine gx_iadd dX11_ranked_92 ?_
      refine gx_icmp_ge 102 dX11_ranked_93 (by decide) ⟨fun z => ?_, fun z => ?_⟩
      · replace h := h.1 z
        refine gx_iinc (v := (x2 + 1)) (lv' := [(0, .ref 59), (1, .int x1), (2, .int (x2 + 1)), (3, .int x3), (4, .int x4), (5, .int x5)]) 2 dX11_ranked_102 rfl rfl rfl rfl ?_
        refine gx_goto 2 dX11_ranked_105 (by decide) ?_
        refine gx_sub [0, 1, 2] (lv' := [(0, .ref 59), (1, .int x1), (2, .int (x2 + 1))]) rfl ?_
        exact h
      · replace h := h.2 z
        refine gx_aload_n 0 dX11_ranked_96 rfl rfl ?_
        refine gx_iload_n 2 dX11_ranked_97 rfl rfl ?_
        refine gx_callV 11 (As := [.int x2]) (st := []) dX11_ranked_98 ml_X11_171 mm_X11_numberOf rfl rfl rfl rfl rfl rfl ⟨rfl, rfl⟩ h (fun v h2 hq => ?_)
        clear h
        obtain ⟨r4, I1, L2, c3, rfl, rfl, h⟩ := hq
        show Z_M_ranked g Q 101 [(0, .ref 59), (1, .int x1), (2, .int x2), (3, .int x3), (4, .int x4), (5, .int x5)] [.int r4] I1 L2 c3
        exact gx_iret dX11_ranked_101 rfl rfl rfl ⟨_, _, _, _, rfl, rfl, h⟩
  · replace h := h.2 z
    refine gx_iload_n 3 dX11_ranked_31 rfl rfl ?_
    refine gx_aload_n 0 dX11_ranked_32 rfl rfl ?_
    refine gx_iload 5 dX11_ranked_33 rfl ?_
    refine gx_callV 11 (As := [.int x5]) (st := [.int x3]) dX11_ranked_35 ml_X11_171 mm_X11_numberOf rfl rfl rfl rfl rfl rfl ⟨rfl, rfl⟩ h (fun v h2 hq => ?_)
    clear h
    obtain ⟨r8, I5, L6, c7, rfl, rfl, h⟩ := hq
    show Z_M_ranked g Q 38 [(0, .ref 59), (1, .int x1), (2, .int x2), (3, .int x3), (4, .int x4), (5, .int x5)] [.int r8, .int x3] I5 L6 c7
    refine gx_aload_n 0 dX11_ranked_38 rfl rfl ?_
    refine gx_iload_n 2 dX11_ranked_39 rfl rfl ?_
    refine gx_callV 11 (As := [.int x2]) (st := [.int r8, .int x3]) dX11_ranked_40 ml_X11_171 mm_X11_numberOf rfl rfl rfl rfl rfl rfl ⟨rfl, rfl⟩ h (fun v h2 hq => ?_)
    clear h
    obtain ⟨r12, I9, L10, c11, rfl, rfl, h⟩ := hq
    show Z_M_ranked g Q 43 [(0, .ref 59), (1, .int x1), (2, .int x2), (3, .int x3), (4, .int x4), (5, .int x5)] [.int r12, .int r8, .int x3] I9 L10 c11
    refine gx_icmp_ge 50 dX11_ranked_43 (by decide) ⟨fun z => ?_, fun z => ?_⟩
    · replace h := h.1 z
      refine gx_iconst (v := 0) dX11_ranked_50 (by decide) ?_
      refine gx_iadd dX11_ranked_51 ?_
      refine gx_istore_n (lv' := [(0, .ref 59), (1, .int x1), (2, .int x2), (3, .int (x3 + 0)), (4, .int x4), (5, .int x5)]) dX11_ranked_52 rfl rfl rfl ?_
      refine gx_iload 4 dX11_ranked_53 rfl ?_
      refine gx_aload_n 0 dX11_ranked_55 rfl rfl ?_
      refine gx_iload 5 dX11_ranked_56 rfl ?_
      refine gx_callV 11 (As := [.int x5]) (st := [.int x4]) dX11_ranked_58 ml_X11_171 mm_X11_numberOf rfl rfl rfl rfl rfl rfl ⟨rfl, rfl⟩ h (fun v h2 hq => ?_)
      clear h
      obtain ⟨r16, I13, L14, c15, rfl, rfl, h⟩ := hq
      show Z_M_ranked g Q 61 [(0, .ref 59), (1, .int x1), (2, .int x2), (3, .int (x3 + 0)), (4, .int x4), (5, .int x5)] [.int r16, .int x4] I13 L14 c15
      refine gx_aload_n 0 dX11_ranked_61 rfl rfl ?_
      refine gx_iload_n 2 dX11_ranked_62 rfl rfl ?_
      refine gx_callV 11 (As := [.int x2]) (st := [.int r16, .int x4]) dX11_ranked_63 ml_X11_171 mm_X11_numberOf rfl rfl rfl rfl rfl rfl ⟨rfl, rfl⟩ h (fun v h2 hq => ?_)
      clear h
      obtain ⟨r20, I17, L18, c19, rfl, rfl, h⟩ := hq
      show Z_M_ranked g Q 66 [(0, .ref 59), (1, .int x1), (2, .int x2), (3, .int (x3 + 0)), (4, .int x4), (5, .int x5)] [.int r20, .int r16, .int x4] I17 L18 c19
      refine gx_icmp_ne 73 dX11_ranked_66 (by decide) ⟨fun z => ?_, fun z => ?_⟩
      · replace h := h.1 z
        refine gx_iconst (v := 1) dX11_ranked_69 (by decide) ?_
        refine gx_goto 74 dX11_ranked_70 (by decide) ?_
        refine gx_iadd dX11_ranked_74 ?_
        refine gx_istore (lv' := [(0, .ref 59), (1, .int x1), (2, .int x2), (3, .int (x3 + 0)), (4, .int (x4 + 1)), (5, .int x5)]) dX11_ranked_75 rfl rfl ?_
        refine gx_iinc (v := (x5 + 1)) (lv' := [(0, .ref 59), (1, .int x1), (2, .int x2), (3, .int (x3 + 0)), (4, .int (x4 + 1)), (5, .int (x5 + 1))]) 5 dX11_ranked_77 rfl rfl rfl rfl ?_
        refine gx_goto 20 dX11_ranked_80 (by decide) ?_
        exact h
      · replace h := h.2 z
        refine gx_iconst (v := 0) dX11_ranked_73 (by decide) ?_
        refine gx_iadd dX11_ranked_74 ?_
        refine gx_istore (lv' := [(0, .ref 59), (1, .int x1), (2, .int x2), (3, .int (x3 + 0)), (4, .int (x4 + 0)), (5, .int x5)]) dX11_ranked_75 rfl rfl ?_
        refine gx_iinc (v := (x5 + 1)) (lv' := [(0, .ref 59), (1, .int x1), (2, .int x2), (3, .int (x3 + 0)), (4, .int (x4 + 0)), (5, .int (x5 + 1))]) 5 dX11_ranked_77 rfl rfl rfl rfl ?_
        refine gx_goto 20 dX11_ranked_80 (by decide) ?_
        exact h
    · replace h := h.2 z
      refine gx_iconst (v := 1) dX11_ranked_46 (by decide) ?_
      refine gx_goto 51 dX11_ranked_47 (by decide) ?_
      refine gx_iadd dX11_ranked_51 ?_
      refine gx_istore_n (lv' := [(0, .ref 59), (1, .int x1), (2, .int x2), (3, .int (x3 + 1)), (4, .int x4), (5, .int x5)]) dX11_ranked_52 rfl rfl rfl ?_
      refine gx_iload 4 dX11_ranked_53 rfl ?_
      refine gx_aload_n 0 dX11_ranked_55 rfl rfl ?_
      refine gx_iload 5 dX11_ranked_56 rfl ?_
      refine gx_callV 11 (As := [.int x5]) (st := [.int x4]) dX11_ranked_58 ml_X11_171 mm_X11_numberOf rfl rfl rfl rfl rfl rfl ⟨rfl, rfl⟩ h (fun v h2 hq => ?_)
      clear h
      obtain ⟨r24, I21, L22, c23, rfl, rfl, h⟩ := hq
      show Z_M_ranked g Q 61 [(0, .ref 59), (1, .int x1), (2, .int x2), (3, .int (x3 + 1)), (4, .int x4), (5, .int x5)] [.int r24, .int x4] I21 L22 c23
      refine gx_aload_n 0 dX11_ranked_61 rfl rfl ?_
      refine gx_iload_n 2 dX11_ranked_62 rfl rfl ?_
      refine gx_callV 11 (As := [.int x2]) (st := [.int r24, .int x4]) dX11_ranked_63 ml_X11_171 mm_X11_numberOf rfl rfl rfl rfl rfl rfl ⟨rfl, rfl⟩ h (fun v h2 hq => ?_)
      clear h
      obtain ⟨r28, I25, L26, c27, rfl, rfl, h⟩ := hq
      show Z_M_ranked g Q 66 [(0, .ref 59), (1, .int x1), (2, .int x2), (3, .int (x3 + 1)), (4, .int x4), (5, .int x5)] [.int r28, .int r24, .int x4] I25 L26 c27
      refine gx_icmp_ne 73 dX11_ranked_66 (by decide) ⟨fun z => ?_, fun z => ?_⟩
      · replace h := h.1 z
        refine gx_iconst (v := 1) dX11_ranked_69 (by decide) ?_
        refine gx_goto 74 dX11_ranked_70 (by decide) ?_
        refine gx_iadd dX11_ranked_74 ?_
        refine gx_istore (lv' := [(0, .ref 59), (1, .int x1), (2, .int x2), (3, .int (x3 + 1)), (4, .int (x4 + 1)), (5, .int x5)]) dX11_ranked_75 rfl rfl ?_
        refine gx_iinc (v := (x5 + 1)) (lv' := [(0, .ref 59), (1, .int x1), (2, .int x2), (3, .int (x3 + 1)), (4, .int (x4 + 1)), (5, .int (x5 + 1))]) 5 dX11_ranked_77 rfl rfl rfl rfl ?_
        refine gx_goto 20 dX11_ranked_80 (by decide) ?_
        exact h
      · replace h := h.2 z
        refine gx_iconst (v := 0) dX11_ranked_73 (by decide) ?_
        refine gx_iadd dX11_ranked_74 ?_
        refine gx_istore (lv' := [(0, .ref 59), (1, .int x1), (2, .int x2), (3, .int (x3 + 1)), (4, .int (x4 + 0)), (5, .int x5)]) dX11_ranked_75 rfl rfl ?_
        refine gx_iinc (v := (x5 + 1)) (lv' := [(0, .ref 59), (1, .int x1), (2, .int x2), (3, .int (x3 + 1)), (4, .int (x4 + 0)), (5, .int (x5 + 1))]) 5 dX11_ranked_77 rfl rfl rfl rfl ?_
        refine gx_goto 20 dX11_ranked_80 (by decide) ?_
        exact h
abbrev Z_M_nine (g : gm_G) (Q : Int32 → mI → mL → gm_cfg → Prop) (pc : Nat) (lv : List (Nat × Value)) (st : List Value) (I : mI) (L : mL) (c : gm_cfg) : Prop := gm_X g RX11 "nine" cX11_nine 1 (some .int) 1 0 0 (qI Q) 0 0 pc lv st (SH, I, L, RR c)
abbrev C_M_nine (g : gm_G) (I : mI) (L : mL) (c : gm_cfg) (Q : Int32 → mI → mL → gm_cfg → Prop) : Prop := gm_Met g yX11_nine cX11_nine 1 (some .int) 1 0 0 [.ref 59] (SH, I, L, RR c) (qI Q)
set_option maxRecDepth 100000 in
theorem e_M_nine {g : gm_G} {Q : Int32 → mI → mL → gm_cfg → Prop} {I : mI} {L : mL} {c : gm_cfg} (h : ((9 ≤ (I 60 1) → Q 9 I L c) ∧ (¬ 9 ≤ (I 60 1) → Q (I 60 1) I L c))) : C_M_nine g  I L c Q := by
  refine gm_enter (lv := [(0, .ref 59)]) (by decide) rfl rfl rfl rfl ?_
  show Z_M_nine g Q 0 [(0, .ref 59)] [] I L c
  refine gx_aload_n 0 dX11_nine_0 rfl rfl ?_
  refine gx_getr 11 1 (v := 60) dX11_nine_1 fl_X11_13 rfl rfl rfl ?_
  refine gx_iconst (v := 1) dX11_nine_4 (by decide) ?_
  refine gx_iald (v := (I 60 1)) dX11_nine_5 rfl rfl (gm_vin rfl) (k := 1) rfl rfl ?_
  refine gx_bipush (v := 9) dX11_nine_6 (by decide) ?_
  refine gx_icmp_ge 20 dX11_nine_8 (by decide) ⟨fun z => ?_, fun z => ?_⟩
  · replace h := h.1 z
    refine gx_bipush (v := 9) dX11_nine_20 (by decide) ?_
    exact gx_iret dX11_nine_22 rfl rfl rfl ⟨_, _, _, _, rfl, rfl, h⟩
  · replace h := h.2 z
    refine gx_aload_n 0 dX11_nine_11 rfl rfl ?_
    refine gx_getr 11 1 (v := 60) dX11_nine_12 fl_X11_13 rfl rfl rfl ?_
    refine gx_iconst (v := 1) dX11_nine_15 (by decide) ?_
    refine gx_iald (v := (I 60 1)) dX11_nine_16 rfl rfl (gm_vin rfl) (k := 1) rfl rfl ?_
    refine gx_goto 22 dX11_nine_17 (by decide) ?_
    exact gx_iret dX11_nine_22 rfl rfl rfl ⟨_, _, _, _, rfl, rfl, h⟩
abbrev Z_M_mean (g : gm_G) (Q : Int32 → mI → mL → gm_cfg → Prop) (pc : Nat) (lv : List (Nat × Value)) (st : List Value) (I : mI) (L : mL) (c : gm_cfg) : Prop := gm_X g RX11 "mean" cX11_mean 3 (some .int) 3 0 0 (qI Q) 0 0 pc lv st (SH, I, L, RR c)
abbrev C_M_mean (g : gm_G) (x1 : Int32) (I : mI) (L : mL) (c : gm_cfg) (Q : Int32 → mI → mL → gm_cfg → Prop) : Prop := gm_Met g yX11_mean cX11_mean 3 (some .int) 3 0 0 [.ref 59, .int x1] (SH, I, L, RR c) (qI Q)
set_option maxRecDepth 100000 in
theorem e_M_mean {g : gm_G} {Q : Int32 → mI → mL → gm_cfg → Prop} {x1 : Int32} {I : mI} {L : mL} {c : gm_cfg} (h : (C_M_within g (Int32.toInt64 x1) 0 4 (gm_u I 59 0 0) L c (fun b4 I1 L2 c3 => ((b4 = false → Q (-2) I1 L2 c3) ∧ (b4 = true → (((I1 60 1) = 0 → Q (-1) I1 L2 c3) ∧ (¬ (I1 60 1) = 0 → ((x1 = 0 → (C_M_meanOf g (I1 60 1) I1 L2 c3 (fun r8 I5 L6 c7 => Q r8 I5 L6 c7))) ∧ (¬ x1 = 0 → ((x1 = 1 → (C_M_ranked g (((I1 60 1) - 1) / 2) I1 L2 c3 (fun r12 I9 L10 c11 => Q r12 I9 L10 c11))) ∧ (¬ x1 = 1 → ((x1 = 2 → (C_M_nine g I1 L2 c3 (fun r16 I13 L14 c15 => (C_M_meanOf g r16 I13 L14 c15 (fun r20 I17 L18 c19 => Q r20 I17 L18 c19))))) ∧ (¬ x1 = 2 → ((x1 = 3 → (C_M_ranked g 0 I1 L2 c3 (fun r24 I21 L22 c23 => Q r24 I21 L22 c23))) ∧ (¬ x1 = 3 → (C_M_ranked g ((I1 60 1) - 1) I1 L2 c3 (fun r28 I25 L26 c27 => Q r28 I25 L26 c27))))))))))))))))) : C_M_mean g x1 I L c Q := by
  refine gm_enter (lv := [(0, .ref 59), (1, .int x1)]) (by decide) rfl rfl rfl rfl ?_
  show Z_M_mean g Q 0 [(0, .ref 59), (1, .int x1)] [] I L c
  refine gx_aload_n 0 dX11_mean_0 rfl rfl ?_
  refine gx_iconst (v := 0) dX11_mean_1 (by decide) ?_
  refine gx_puti 11 0 dX11_mean_2 fl_X11_1 rfl rfl rfl ⟨rfl, rfl⟩ ?_
  show Z_M_mean g Q 5 [(0, .ref 59), (1, .int x1)] [] (gm_u I 59 0 0) L c
  refine gx_iload_n 1 dX11_mean_5 rfl rfl ?_
  refine gx_i2l dX11_mean_6 ?_
  refine gx_lconst (v := 0) dX11_mean_7 (by decide) ?_
  refine gx_ldc2 dX11_mean_8 kl_X11_149 ?_
  refine gx_callS (As := [.long (Int32.toInt64 x1), .long 0, .long 4]) (st := []) dX11_mean_11 ml_X11_125 mm_X11_within rfl rfl rfl rfl ⟨rfl, rfl⟩ h (fun v h2 hq => ?_)
  clear h
  obtain ⟨b4, I1, L2, c3, rfl, rfl, h⟩ := hq
  show Z_M_mean g Q 14 [(0, .ref 59), (1, .int x1)] [.int (gm_b b4)] I1 L2 c3
  refine gx_if_ne 20 dX11_mean_14 (by decide) ⟨fun z => ?_, fun z => ?_⟩
  · replace h := h.1 (gm_b0.mp z)
    refine gx_bipush (v := (-2)) dX11_mean_17 (by decide) ?_
    exact gx_iret dX11_mean_19 rfl rfl rfl ⟨_, _, _, _, rfl, rfl, h⟩
  · replace h := h.2 (gm_bn0 z)
    refine gx_aload_n 0 dX11_mean_20 rfl rfl ?_
    refine gx_getr 11 1 (v := 60) dX11_mean_21 fl_X11_13 rfl rfl rfl ?_
    refine gx_iconst (v := 1) dX11_mean_24 (by decide) ?_
    refine gx_iald (v := (I1 60 1)) dX11_mean_25 rfl rfl (gm_vin rfl) (k := 1) rfl rfl ?_
    refine gx_istore_n (lv' := [(0, .ref 59), (1, .int x1), (2, .int (I1 60 1))]) dX11_mean_26 rfl rfl rfl ?_
    refine gx_iload_n 2 dX11_mean_27 rfl rfl ?_
    refine gx_if_ne 33 dX11_mean_28 (by decide) ⟨fun z => ?_, fun z => ?_⟩
    · replace h := h.1 z
      refine gx_iconst (v := (-1)) dX11_mean_31 (by decide) ?_
      exact gx_iret dX11_mean_32 rfl rfl rfl ⟨_, _, _, _, rfl, rfl, h⟩
    · replace h := h.2 z
      refine gx_iload_n 1 dX11_mean_33 rfl rfl ?_
      refine gx_if_ne 45 dX11_mean_34 (by decide) ⟨fun z => ?_, fun z => ?_⟩
      · replace h := h.1 z
        refine gx_aload_n 0 dX11_mean_37 rfl rfl ?_
        refine gx_iload_n 2 dX11_mean_38 rfl rfl ?_
        refine gx_callV 11 (As := [.int (I1 60 1)]) (st := []) dX11_mean_39 ml_X11_174 mm_X11_meanOf rfl rfl rfl rfl rfl rfl ⟨rfl, rfl⟩ h (fun v h2 hq => ?_)
        clear h
        obtain ⟨r8, I5, L6, c7, rfl, rfl, h⟩ := hq
        show Z_M_mean g Q 42 [(0, .ref 59), (1, .int x1), (2, .int (I1 60 1))] [.int r8] I5 L6 c7
        refine gx_goto 94 dX11_mean_42 (by decide) ?_
        exact gx_iret dX11_mean_94 rfl rfl rfl ⟨_, _, _, _, rfl, rfl, h⟩
      · replace h := h.2 z
        refine gx_iload_n 1 dX11_mean_45 rfl rfl ?_
        refine gx_iconst (v := 1) dX11_mean_46 (by decide) ?_
        refine gx_icmp_ne 62 dX11_mean_47 (by decide) ⟨fun z => ?_, fun z => ?_⟩
        · replace h := h.1 z
          refine gx_aload_n 0 dX11_mean_50 rfl rfl ?_
          refine gx_iload_n 2 dX11_mean_51 rfl rfl ?_
          refine gx_iconst (v := 1) dX11_mean_52 (by decide) ?_
          refine gx_isub dX11_mean_53 ?_
          refine gx_iconst (v := 2) dX11_mean_54 (by decide) ?_
          refine gx_idiv dX11_mean_55 (by decide) ?_
          refine gx_callV 11 (As := [.int (((I1 60 1) - 1) / 2)]) (st := []) dX11_mean_56 ml_X11_222 mm_X11_ranked rfl rfl rfl rfl rfl rfl ⟨rfl, rfl⟩ h (fun v h2 hq => ?_)
          clear h
          obtain ⟨r12, I9, L10, c11, rfl, rfl, h⟩ := hq
          show Z_M_mean g Q 59 [(0, .ref 59), (1, .int x1), (2, .int (I1 60 1))] [.int r12] I9 L10 c11
          refine gx_goto 94 dX11_mean_59 (by decide) ?_
          exact gx_iret dX11_mean_94 rfl rfl rfl ⟨_, _, _, _, rfl, rfl, h⟩
        · replace h := h.2 z
          refine gx_iload_n 1 dX11_mean_62 rfl rfl ?_
          refine gx_iconst (v := 2) dX11_mean_63 (by decide) ?_
          refine gx_icmp_ne 78 dX11_mean_64 (by decide) ⟨fun z => ?_, fun z => ?_⟩
          · replace h := h.1 z
            refine gx_aload_n 0 dX11_mean_67 rfl rfl ?_
            refine gx_aload_n 0 dX11_mean_68 rfl rfl ?_
            refine gx_callV 11 (As := []) (st := [.ref 59]) dX11_mean_69 ml_X11_225 mm_X11_nine rfl rfl rfl rfl rfl rfl ⟨rfl, rfl⟩ h (fun v h2 hq => ?_)
            clear h
            obtain ⟨r16, I13, L14, c15, rfl, rfl, h⟩ := hq
            show Z_M_mean g Q 72 [(0, .ref 59), (1, .int x1), (2, .int (I1 60 1))] [.int r16, .ref 59] I13 L14 c15
            refine gx_callV 11 (As := [.int r16]) (st := []) dX11_mean_72 ml_X11_174 mm_X11_meanOf rfl rfl rfl rfl rfl rfl ⟨rfl, rfl⟩ h (fun v h2 hq => ?_)
            clear h
            obtain ⟨r20, I17, L18, c19, rfl, rfl, h⟩ := hq
            show Z_M_mean g Q 75 [(0, .ref 59), (1, .int x1), (2, .int (I1 60 1))] [.int r20] I17 L18 c19
            refine gx_goto 94 dX11_mean_75 (by decide) ?_
            exact gx_iret dX11_mean_94 rfl rfl rfl ⟨_, _, _, _, rfl, rfl, h⟩
          · replace h := h.2 z
            refine gx_aload_n 0 dX11_mean_78 rfl rfl ?_
            refine gx_iload_n 1 dX11_mean_79 rfl rfl ?_
            refine gx_iconst (v := 3) dX11_mean_80 (by decide) ?_
            refine gx_icmp_ne 88 dX11_mean_81 (by decide) ⟨fun z => ?_, fun z => ?_⟩
            · replace h := h.1 z
              refine gx_iconst (v := 0) dX11_mean_84 (by decide) ?_
              refine gx_goto 91 dX11_mean_85 (by decide) ?_
              refine gx_callV 11 (As := [.int 0]) (st := []) dX11_mean_91 ml_X11_222 mm_X11_ranked rfl rfl rfl rfl rfl rfl ⟨rfl, rfl⟩ h (fun v h2 hq => ?_)
              clear h
              obtain ⟨r24, I21, L22, c23, rfl, rfl, h⟩ := hq
              show Z_M_mean g Q 94 [(0, .ref 59), (1, .int x1), (2, .int (I1 60 1))] [.int r24] I21 L22 c23
              exact gx_iret dX11_mean_94 rfl rfl rfl ⟨_, _, _, _, rfl, rfl, h⟩
            · replace h := h.2 z
              refine gx_iload_n 2 dX11_mean_88 rfl rfl ?_
              refine gx_iconst (v := 1) dX11_mean_89 (by decide) ?_
              refine gx_isub dX11_mean_90 ?_
              refine gx_callV 11 (As := [.int ((I1 60 1) - 1)]) (st := []) dX11_mean_91 ml_X11_222 mm_X11_ranked rfl rfl rfl rfl rfl rfl ⟨rfl, rfl⟩ h (fun v h2 hq => ?_)
              clear h
              obtain ⟨r28, I25, L26, c27, rfl, rfl, h⟩ := hq
              show Z_M_mean g Q 94 [(0, .ref 59), (1, .int x1), (2, .int (I1 60 1))] [.int r28] I25 L26 c27
              exact gx_iret dX11_mean_94 rfl rfl rfl ⟨_, _, _, _, rfl, rfl, h⟩
abbrev Z_M_nearest (g : gm_G) (Q : Int32 → mI → mL → gm_cfg → Prop) (pc : Nat) (lv : List (Nat × Value)) (st : List Value) (I : mI) (L : mL) (c : gm_cfg) : Prop := gm_X g RX11 "nearest" cX11_nearest 5 (some .int) 3 0 0 (qI Q) 0 0 pc lv st (SH, I, L, RR c)
abbrev C_M_nearest (g : gm_G) (I : mI) (L : mL) (c : gm_cfg) (Q : Int32 → mI → mL → gm_cfg → Prop) : Prop := gm_Met g yX11_nearest cX11_nearest 5 (some .int) 3 0 0 [.ref 59] (SH, I, L, RR c) (qI Q)
set_option maxRecDepth 100000 in
theorem e_M_nearest {g : gm_G} {Q : Int32 → mI → mL → gm_cfg → Prop} {I : mI} {L : mL} {c : gm_cfg} (h : (((I 60 6) = 0 → Q (-5) (gm_u I 59 0 0) L c) ∧ (¬ (I 60 6) = 0 → (((I 60 1) = 0 → Q (-1) (gm_u I 59 0 0) L c) ∧ (¬ (I 60 1) = 0 → Z_M_nearest g Q 37 [(0, .ref 59), (1, .int 0), (2, .int 9999), (3, .int 0)] [] (gm_u I 59 0 0) L c))))) : C_M_nearest g  I L c Q := by
  refine gm_enter (lv := [(0, .ref 59)]) (by decide) rfl rfl rfl rfl ?_
  show Z_M_nearest g Q 0 [(0, .ref 59)] [] I L c
  refine gx_aload_n 0 dX11_nearest_0 rfl rfl ?_
  refine gx_iconst (v := 0) dX11_nearest_1 (by decide) ?_
  refine gx_puti 11 0 dX11_nearest_2 fl_X11_1 rfl rfl rfl ⟨rfl, rfl⟩ ?_
  show Z_M_nearest g Q 5 [(0, .ref 59)] [] (gm_u I 59 0 0) L c
  refine gx_aload_n 0 dX11_nearest_5 rfl rfl ?_
  refine gx_getr 11 1 (v := 60) dX11_nearest_6 fl_X11_13 rfl rfl rfl ?_
  refine gx_bipush (v := 6) dX11_nearest_9 (by decide) ?_
  refine gx_iald (v := (I 60 6)) dX11_nearest_11 rfl rfl (gm_vin rfl) (k := 6) rfl rfl ?_
  refine gx_if_ne 18 dX11_nearest_12 (by decide) ⟨fun z => ?_, fun z => ?_⟩
  · replace h := h.1 z
    refine gx_bipush (v := (-5)) dX11_nearest_15 (by decide) ?_
    exact gx_iret dX11_nearest_17 rfl rfl rfl ⟨_, _, _, _, rfl, rfl, h⟩
  · replace h := h.2 z
    refine gx_aload_n 0 dX11_nearest_18 rfl rfl ?_
    refine gx_getr 11 1 (v := 60) dX11_nearest_19 fl_X11_13 rfl rfl rfl ?_
    refine gx_iconst (v := 1) dX11_nearest_22 (by decide) ?_
    refine gx_iald (v := (I 60 1)) dX11_nearest_23 rfl rfl (gm_vin rfl) (k := 1) rfl rfl ?_
    refine gx_if_ne 29 dX11_nearest_24 (by decide) ⟨fun z => ?_, fun z => ?_⟩
    · replace h := h.1 z
      refine gx_iconst (v := (-1)) dX11_nearest_27 (by decide) ?_
      exact gx_iret dX11_nearest_28 rfl rfl rfl ⟨_, _, _, _, rfl, rfl, h⟩
    · replace h := h.2 z
      refine gx_iconst (v := 0) dX11_nearest_29 (by decide) ?_
      refine gx_istore_n (lv' := [(0, .ref 59), (1, .int 0)]) dX11_nearest_30 rfl rfl rfl ?_
      refine gx_sipush (v := 9999) dX11_nearest_31 (by decide) ?_
      refine gx_istore_n (lv' := [(0, .ref 59), (1, .int 0), (2, .int 9999)]) dX11_nearest_34 rfl rfl rfl ?_
      refine gx_iconst (v := 0) dX11_nearest_35 (by decide) ?_
      refine gx_istore_n (lv' := [(0, .ref 59), (1, .int 0), (2, .int 9999), (3, .int 0)]) dX11_nearest_36 rfl rfl rfl ?_
      exact h
set_option maxRecDepth 100000 in
theorem r_M_nearest_37 {g : gm_G} {Q : Int32 → mI → mL → gm_cfg → Prop} {x1 x2 x3 : Int32} {I : mI} {L : mL} {c : gm_cfg} (h : ((4 ≤ x3 → Q x1 I L c) ∧ (¬ 4 ≤ x3 → ((x3 = 0 → (C_M_meanOf g (I 60 1) I L c (fun r4 I1 L2 c3 => (C_M_off g r4 (I1 60 6) I1 L2 c3 (fun r8 I5 L6 c7 => ((r8 < x2 → (C_M_off g r4 (I5 60 6) I5 L6 c7 (fun r12 I9 L10 c11 => Z_M_nearest g Q 37 [(0, .ref 59), (1, .int x3), (2, .int r12), (3, .int (x3 + 1))] [] I9 L10 c11))) ∧ (¬ r8 < x2 → Z_M_nearest g Q 37 [(0, .ref 59), (1, .int x1), (2, .int x2), (3, .int (x3 + 1))] [] I5 L6 c7))))))) ∧ (¬ x3 = 0 → ((x3 = 1 → (C_M_ranked g (((I 60 1) - 1) / 2) I L c (fun r16 I13 L14 c15 => (C_M_off g r16 (I13 60 6) I13 L14 c15 (fun r20 I17 L18 c19 => ((r20 < x2 → (C_M_off g r16 (I17 60 6) I17 L18 c19 (fun r24 I21 L22 c23 => Z_M_nearest g Q 37 [(0, .ref 59), (1, .int x3), (2, .int r24), (3, .int (x3 + 1))] [] I21 L22 c23))) ∧ (¬ r20 < x2 → Z_M_nearest g Q 37 [(0, .ref 59), (1, .int x1), (2, .int x2), (3, .int (x3 + 1))] [] I17 L18 c19))))))) ∧ (¬ x3 = 1 → ((x3 = 2 → (C_M_nine g I L c (fun r28 I25 L26 c27 => (C_M_meanOf g r28 I25 L26 c27 (fun r32 I29 L30 c31 => (C_M_off g r32 (I29 60 6) I29 L30 c31 (fun r36 I33 L34 c35 => ((r36 < x2 → (C_M_off g r32 (I33 60 6) I33 L34 c35 (fun r40 I37 L38 c39 => Z_M_nearest g Q 37 [(0, .ref 59), (1, .int x3), (2, .int r40), (3, .int (x3 + 1))] [] I37 L38 c39))) ∧ (¬ r36 < x2 → Z_M_nearest g Q 37 [(0, .ref 59), (1, .int x1), (2, .int x2), (3, .int (x3 + 1))] [] I33 L34 c35))))))))) ∧ (¬ x3 = 2 → (C_M_leaderFor g (I 60 6) I L c (fun r44 I41 L42 c43 => (C_M_numberOf g r44 I41 L42 c43 (fun r48 I45 L46 c47 => (C_M_off g r48 (I45 60 6) I45 L46 c47 (fun r52 I49 L50 c51 => ((r52 < x2 → (C_M_off g r48 (I49 60 6) I49 L50 c51 (fun r56 I53 L54 c55 => Z_M_nearest g Q 37 [(0, .ref 59), (1, .int x3), (2, .int r56), (3, .int (x3 + 1))] [] I53 L54 c55))) ∧ (¬ r52 < x2 → Z_M_nearest g Q 37 [(0, .ref 59), (1, .int x1), (2, .int x2), (3, .int (x3 + 1))] [] I49 L50 c51))))))))))))))))) : Z_M_nearest g Q 37 [(0, .ref 59), (1, .int x1), (2, .int x2), (3, .int x3)] [] I L c := by
  refine gx_iload_n 3 dX11_nearest_37 rfl rfl ?_
  refine gx_iconst (v := 4) dX11_nearest_38 (by decide) ?_
  refine gx_icmp_ge 154 dX11_nearest_39 (by decide) ⟨fun z => ?_, fun z => ?_⟩
  · replace h := h.1 z
    refine gx_iload_n 1 dX11_nearest_154 rfl rfl ?_
    exact gx_iret dX11_nearest_155 rfl rfl rfl ⟨_, _, _, _, rfl, rfl, h⟩
  · replace h := h.2 z
    refine gx_iload_n 3 dX11_nearest_42 rfl rfl ?_
    refine gx_if_ne 59 dX11_nearest_43 (by decide) ⟨fun z => ?_, fun z => ?_⟩
    · replace h := h.1 z
      refine gx_aload_n 0 dX11_nearest_46 rfl rfl ?_
      refine gx_aload_n 0 dX11_nearest_47 rfl rfl ?_
      refine gx_getr 11 1 (v := 60) dX11_nearest_48 fl_X11_13 rfl rfl rfl ?_
      refine gx_iconst (v := 1) dX11_nearest_51 (by decide) ?_
      refine gx_iald (v := (I 60 1)) dX11_nearest_52 rfl rfl (gm_vin rfl) (k := 1) rfl rfl ?_
      refine gx_callV 11 (As := [.int (I 60 1)]) (st := []) dX11_nearest_53 ml_X11_174 mm_X11_meanOf rfl rfl rfl rfl rfl rfl ⟨rfl, rfl⟩ h (fun v h2 hq => ?_)
      clear h
      obtain ⟨r4, I1, L2, c3, rfl, rfl, h⟩ := hq
      show Z_M_nearest g Q 56 [(0, .ref 59), (1, .int x1), (2, .int x2), (3, .int x3)] [.int r4] I1 L2 c3
      refine gx_goto 112 dX11_nearest_56 (by decide) ?_
      refine gx_istore (lv' := [(0, .ref 59), (1, .int x1), (2, .int x2), (3, .int x3), (4, .int r4)]) dX11_nearest_112 rfl rfl ?_
      refine gx_iload 4 dX11_nearest_114 rfl ?_
      refine gx_aload_n 0 dX11_nearest_116 rfl rfl ?_
      refine gx_getr 11 1 (v := 60) dX11_nearest_117 fl_X11_13 rfl rfl rfl ?_
      refine gx_bipush (v := 6) dX11_nearest_120 (by decide) ?_
      refine gx_iald (v := (I1 60 6)) dX11_nearest_122 rfl rfl (gm_vin rfl) (k := 6) rfl rfl ?_
      refine gx_callS (As := [.int r4, .int (I1 60 6)]) (st := []) dX11_nearest_123 ml_X11_162 mm_X11_off rfl rfl rfl rfl ⟨rfl, rfl⟩ h (fun v h2 hq => ?_)
      clear h
      obtain ⟨r8, I5, L6, c7, rfl, rfl, h⟩ := hq
      show Z_M_nearest g Q 126 [(0, .ref 59), (1, .int x1), (2, .int x2), (3, .int x3), (4, .int r4)] [.int r8] I5 L6 c7
      refine gx_iload_n 2 dX11_nearest_126 rfl rfl ?_
      refine gx_icmp_lt 133 dX11_nearest_127 (by decide) ⟨fun z => ?_, fun z => ?_⟩
      · replace h := h.1 z
        refine gx_iload_n 3 dX11_nearest_133 rfl rfl ?_
        refine gx_istore_n (lv' := [(0, .ref 59), (1, .int x3), (2, .int x2), (3, .int x3), (4, .int r4)]) dX11_nearest_134 rfl rfl rfl ?_
        refine gx_iload 4 dX11_nearest_135 rfl ?_
        refine gx_aload_n 0 dX11_nearest_137 rfl rfl ?_
        refine gx_getr 11 1 (v := 60) dX11_nearest_138 fl_X11_13 rfl rfl rfl ?_
        refine gx_bipush (v := 6) dX11_nearest_141 (by decide) ?_
        refine gx_iald (v := (I5 60 6)) dX11_nearest_143 rfl rfl (gm_vin rfl) (k := 6) rfl rfl ?_
        refine gx_callS (As := [.int r4, .int (I5 60 6)]) (st := []) dX11_nearest_144 ml_X11_162 mm_X11_off rfl rfl rfl rfl ⟨rfl, rfl⟩ h (fun v h2 hq => ?_)
        clear h
        obtain ⟨r12, I9, L10, c11, rfl, rfl, h⟩ := hq
        show Z_M_nearest g Q 147 [(0, .ref 59), (1, .int x3), (2, .int x2), (3, .int x3), (4, .int r4)] [.int r12] I9 L10 c11
        refine gx_istore_n (lv' := [(0, .ref 59), (1, .int x3), (2, .int r12), (3, .int x3), (4, .int r4)]) dX11_nearest_147 rfl rfl rfl ?_
        refine gx_iinc (v := (x3 + 1)) (lv' := [(0, .ref 59), (1, .int x3), (2, .int r12), (3, .int (x3 + 1)), (4, .int r4)]) 3 dX11_nearest_148 rfl rfl rfl rfl ?_
        refine gx_goto 37 dX11_nearest_151 (by decide) ?_
        refine gx_sub [0, 1, 2, 3] (lv' := [(0, .ref 59), (1, .int x3), (2, .int r12), (3, .int (x3 + 1))]) rfl ?_
        exact h
      · replace h := h.2 z
        refine gx_goto 148 dX11_nearest_130 (by decide) ?_
        refine gx_iinc (v := (x3 + 1)) (lv' := [(0, .ref 59), (1, .int x1), (2, .int x2), (3, .int (x3 + 1)), (4, .int r4)]) 3 dX11_nearest_148 rfl rfl rfl rfl ?_
        refine gx_goto 37 dX11_nearest_151 (by decide) ?_
        refine gx_sub [0, 1, 2, 3] (lv' := [(0, .ref 59), (1, .int x1), (2, .int x2), (3, .int (x3 + 1))]) rfl ?_
        exact h
    · replace h := h.2 z
      refine gx_iload_n 3 dX11_nearest_59 rfl rfl ?_
      refine gx_iconst (v := 1) dX11_nearest_60 (by decide) ?_
      refine gx_icmp_ne 81 dX11_nearest_61 (by decide) ⟨fun z => ?_, fun z => ?_⟩
      · replace h := h.1 z
        refine gx_aload_n 0 dX11_nearest_64 rfl rfl ?_
        refine gx_aload_n 0 dX11_nearest_65 rfl rfl ?_
        refine gx_getr 11 1 (v := 60) dX11_nearest_66 fl_X11_13 rfl rfl rfl ?_
        refine gx_iconst (v := 1) dX11_nearest_69 (by decide) ?_
        refine gx_iald (v := (I 60 1)) dX11_nearest_70 rfl rfl (gm_vin rfl) (k := 1) rfl rfl ?_
        refine gx_iconst (v := 1) dX11_nearest_71 (by decide) ?_
        refine gx_isub dX11_nearest_72 ?_
        refine gx_iconst (v := 2) dX11_nearest_73 (by decide) ?_
        refine gx_idiv dX11_nearest_74 (by decide) ?_
        refine gx_callV 11 (As := [.int (((I 60 1) - 1) / 2)]) (st := []) dX11_nearest_75 ml_X11_222 mm_X11_ranked rfl rfl rfl rfl rfl rfl ⟨rfl, rfl⟩ h (fun v h2 hq => ?_)
        clear h
        obtain ⟨r16, I13, L14, c15, rfl, rfl, h⟩ := hq
        show Z_M_nearest g Q 78 [(0, .ref 59), (1, .int x1), (2, .int x2), (3, .int x3)] [.int r16] I13 L14 c15
        refine gx_goto 112 dX11_nearest_78 (by decide) ?_
        refine gx_istore (lv' := [(0, .ref 59), (1, .int x1), (2, .int x2), (3, .int x3), (4, .int r16)]) dX11_nearest_112 rfl rfl ?_
        refine gx_iload 4 dX11_nearest_114 rfl ?_
        refine gx_aload_n 0 dX11_nearest_116 rfl rfl ?_
        refine gx_getr 11 1 (v := 60) dX11_nearest_117 fl_X11_13 rfl rfl rfl ?_
        refine gx_bipush (v := 6) dX11_nearest_120 (by decide) ?_
        refine gx_iald (v := (I13 60 6)) dX11_nearest_122 rfl rfl (gm_vin rfl) (k := 6) rfl rfl ?_
        refine gx_callS (As := [.int r16, .int (I13 60 6)]) (st := []) dX11_nearest_123 ml_X11_162 mm_X11_off rfl rfl rfl rfl ⟨rfl, rfl⟩ h (fun v h2 hq => ?_)
        clear h
        obtain ⟨r20, I17, L18, c19, rfl, rfl, h⟩ := hq
        show Z_M_nearest g Q 126 [(0, .ref 59), (1, .int x1), (2, .int x2), (3, .int x3), (4, .int r16)] [.int r20] I17 L18 c19
        refine gx_iload_n 2 dX11_nearest_126 rfl rfl ?_
        refine gx_icmp_lt 133 dX11_nearest_127 (by decide) ⟨fun z => ?_, fun z => ?_⟩
        · replace h := h.1 z
          refine gx_iload_n 3 dX11_nearest_133 rfl rfl ?_
          refine gx_istore_n (lv' := [(0, .ref 59), (1, .int x3), (2, .int x2), (3, .int x3), (4, .int r16)]) dX11_nearest_134 rfl rfl rfl ?_
          refine gx_iload 4 dX11_nearest_135 rfl ?_
          refine gx_aload_n 0 dX11_nearest_137 rfl rfl ?_
          refine gx_getr 11 1 (v := 60) dX11_nearest_138 fl_X11_13 rfl rfl rfl ?_
          refine gx_bipush (v := 6) dX11_nearest_141 (by decide) ?_
          refine gx_iald (v := (I17 60 6)) dX11_nearest_143 rfl rfl (gm_vin rfl) (k := 6) rfl rfl ?_
          refine gx_callS (As := [.int r16, .int (I17 60 6)]) (st := []) dX11_nearest_144 ml_X11_162 mm_X11_off rfl rfl rfl rfl ⟨rfl, rfl⟩ h (fun v h2 hq => ?_)
          clear h
          obtain ⟨r24, I21, L22, c23, rfl, rfl, h⟩ := hq
          show Z_M_nearest g Q 147 [(0, .ref 59), (1, .int x3), (2, .int x2), (3, .int x3), (4, .int r16)] [.int r24] I21 L22 c23
          refine gx_istore_n (lv' := [(0, .ref 59), (1, .int x3), (2, .int r24), (3, .int x3), (4, .int r16)]) dX11_nearest_147 rfl rfl rfl ?_
          refine gx_iinc (v := (x3 + 1)) (lv' := [(0, .ref 59), (1, .int x3), (2, .int r24), (3, .int (x3 + 1)), (4, .int r16)]) 3 dX11_nearest_148 rfl rfl rfl rfl ?_
          refine gx_goto 37 dX11_nearest_151 (by decide) ?_
          refine gx_sub [0, 1, 2, 3] (lv' := [(0, .ref 59), (1, .int x3), (2, .int r24), (3, .int (x3 + 1))]) rfl ?_
          exact h
        · replace h := h.2 z
          refine gx_goto 148 dX11_nearest_130 (by decide) ?_
          refine gx_iinc (v := (x3 + 1)) (lv' := [(0, .ref 59), (1, .int x1), (2, .int x2), (3, .int (x3 + 1)), (4, .int r16)]) 3 dX11_nearest_148 rfl rfl rfl rfl ?_
          refine gx_goto 37 dX11_nearest_151 (by decide) ?_
          refine gx_sub [0, 1, 2, 3] (lv' := [(0, .ref 59), (1, .int x1), (2, .int x2), (3, .int (x3 + 1))]) rfl ?_
          exact h
      · replace h := h.2 z
        refine gx_iload_n 3 dX11_nearest_81 rfl rfl ?_
        refine gx_iconst (v := 2) dX11_nearest_82 (by decide) ?_
        refine gx_icmp_ne 97 dX11_nearest_83 (by decide) ⟨fun z => ?_, fun z => ?_⟩
        · replace h := h.1 z
          refine gx_aload_n 0 dX11_nearest_86 rfl rfl ?_
          refine gx_aload_n 0 dX11_nearest_87 rfl rfl ?_
          refine gx_callV 11 (As := []) (st := [.ref 59]) dX11_nearest_88 ml_X11_225 mm_X11_nine rfl rfl rfl rfl rfl rfl ⟨rfl, rfl⟩ h (fun v h2 hq => ?_)
          clear h
          obtain ⟨r28, I25, L26, c27, rfl, rfl, h⟩ := hq
          show Z_M_nearest g Q 91 [(0, .ref 59), (1, .int x1), (2, .int x2), (3, .int x3)] [.int r28, .ref 59] I25 L26 c27
          refine gx_callV 11 (As := [.int r28]) (st := []) dX11_nearest_91 ml_X11_174 mm_X11_meanOf rfl rfl rfl rfl rfl rfl ⟨rfl, rfl⟩ h (fun v h2 hq => ?_)
          clear h
          obtain ⟨r32, I29, L30, c31, rfl, rfl, h⟩ := hq
          show Z_M_nearest g Q 94 [(0, .ref 59), (1, .int x1), (2, .int x2), (3, .int x3)] [.int r32] I29 L30 c31
          refine gx_goto 112 dX11_nearest_94 (by decide) ?_
          refine gx_istore (lv' := [(0, .ref 59), (1, .int x1), (2, .int x2), (3, .int x3), (4, .int r32)]) dX11_nearest_112 rfl rfl ?_
          refine gx_iload 4 dX11_nearest_114 rfl ?_
          refine gx_aload_n 0 dX11_nearest_116 rfl rfl ?_
          refine gx_getr 11 1 (v := 60) dX11_nearest_117 fl_X11_13 rfl rfl rfl ?_
          refine gx_bipush (v := 6) dX11_nearest_120 (by decide) ?_
          refine gx_iald (v := (I29 60 6)) dX11_nearest_122 rfl rfl (gm_vin rfl) (k := 6) rfl rfl ?_
          refine gx_callS (As := [.int r32, .int (I29 60 6)]) (st := []) dX11_nearest_123 ml_X11_162 mm_X11_off rfl rfl rfl rfl ⟨rfl, rfl⟩ h (fun v h2 hq => ?_)
          clear h
          obtain ⟨r36, I33, L34, c35, rfl, rfl, h⟩ := hq
          show Z_M_nearest g Q 126 [(0, .ref 59), (1, .int x1), (2, .int x2), (3, .int x3), (4, .int r32)] [.int r36] I33 L34 c35
          refine gx_iload_n 2 dX11_nearest_126 rfl rfl ?_
          refine gx_icmp_lt 133 dX11_nearest_127 (by decide) ⟨fun z => ?_, fun z => ?_⟩
          · replace h := h.1 z
            refine gx_iload_n 3 dX11_nearest_133 rfl rfl ?_
            refine gx_istore_n (lv' := [(0, .ref 59), (1, .int x3), (2, .int x2), (3, .int x3), (4, .int r32)]) dX11_nearest_134 rfl rfl rfl ?_
            refine gx_iload 4 dX11_nearest_135 rfl ?_
            refine gx_aload_n 0 dX11_nearest_137 rfl rfl ?_
            refine gx_getr 11 1 (v := 60) dX11_nearest_138 fl_X11_13 rfl rfl rfl ?_
            refine gx_bipush (v := 6) dX11_nearest_141 (by decide) ?_
            refine gx_iald (v := (I33 60 6)) dX11_nearest_143 rfl rfl (gm_vin rfl) (k := 6) rfl rfl ?_
            refine gx_callS (As := [.int r32, .int (I33 60 6)]) (st := []) dX11_nearest_144 ml_X11_162 mm_X11_off rfl rfl rfl rfl ⟨rfl, rfl⟩ h (fun v h2 hq => ?_)
            clear h
            obtain ⟨r40, I37, L38, c39, rfl, rfl, h⟩ := hq
            show Z_M_nearest g Q 147 [(0, .ref 59), (1, .int x3), (2, .int x2), (3, .int x3), (4, .int r32)] [.int r40] I37 L38 c39
            refine gx_istore_n (lv' := [(0, .ref 59), (1, .int x3), (2, .int r40), (3, .int x3), (4, .int r32)]) dX11_nearest_147 rfl rfl rfl ?_
            refine gx_iinc (v := (x3 + 1)) (lv' := [(0, .ref 59), (1, .int x3), (2, .int r40), (3, .int (x3 + 1)), (4, .int r32)]) 3 dX11_nearest_148 rfl rfl rfl rfl ?_
            refine gx_goto 37 dX11_nearest_151 (by decide) ?_
            refine gx_sub [0, 1, 2, 3] (lv' := [(0, .ref 59), (1, .int x3), (2, .int r40), (3, .int (x3 + 1))]) rfl ?_
            exact h
          · replace h := h.2 z
            refine gx_goto 148 dX11_nearest_130 (by decide) ?_
            refine gx_iinc (v := (x3 + 1)) (lv' := [(0, .ref 59), (1, .int x1), (2, .int x2), (3, .int (x3 + 1)), (4, .int r32)]) 3 dX11_nearest_148 rfl rfl rfl rfl ?_
            refine gx_goto 37 dX11_nearest_151 (by decide) ?_
            refine gx_sub [0, 1, 2, 3] (lv' := [(0, .ref 59), (1, .int x1), (2, .int x2), (3, .int (x3 + 1))]) rfl ?_
            exact h
        · replace h := h.2 z
          refine gx_aload_n 0 dX11_nearest_97 rfl rfl ?_
          refine gx_aload_n 0 dX11_nearest_98 rfl rfl ?_
          refine gx_aload_n 0 dX11_nearest_99 rfl rfl ?_
          refine gx_getr 11 1 (v := 60) dX11_nearest_100 fl_X11_13 rfl rfl rfl ?_
          refine gx_bipush (v := 6) dX11_nearest_103 (by decide) ?_
          refine gx_iald (v := (I 60 6)) dX11_nearest_105 rfl rfl (gm_vin rfl) (k := 6) rfl rfl ?_
          refine gx_callV 11 (As := [.int (I 60 6)]) (st := [.ref 59]) dX11_nearest_106 ml_X11_219 mm_X11_leaderFor rfl rfl rfl rfl rfl rfl ⟨rfl, rfl⟩ h (fun v h2 hq => ?_)
          clear h
          obtain ⟨r44, I41, L42, c43, rfl, rfl, h⟩ := hq
          show Z_M_nearest g Q 109 [(0, .ref 59), (1, .int x1), (2, .int x2), (3, .int x3)] [.int r44, .ref 59] I41 L42 c43
          refine gx_callV 11 (As := [.int r44]) (st := []) dX11_nearest_109 ml_X11_171 mm_X11_numberOf rfl rfl rfl rfl rfl rfl ⟨rfl, rfl⟩ h (fun v h2 hq => ?_)
          clear h
          obtain ⟨r48, I45, L46, c47, rfl, rfl, h⟩ := hq
          show Z_M_nearest g Q 112 [(0, .ref 59), (1, .int x1), (2, .int x2), (3, .int x3)] [.int r48] I45 L46 c47
          refine gx_istore (lv' := [(0, .ref 59), (1, .int x1), (2, .int x2), (3, .int x3), (4, .int r48)]) dX11_nearest_112 rfl rfl ?_
          refine gx_iload 4 dX11_nearest_114 rfl ?_
          refine gx_aload_n 0 dX11_nearest_116 rfl rfl ?_
          refine gx_getr 11 1 (v := 60) dX11_nearest_117 fl_X11_13 rfl rfl rfl ?_
          refine gx_bipush (v := 6) dX11_nearest_120 (by decide) ?_
          refine gx_iald (v := (I45 60 6)) dX11_nearest_122 rfl rfl (gm_vin rfl) (k := 6) rfl rfl ?_
          refine gx_callS (As := [.int r48, .int (I45 60 6)]) (st := []) dX11_nearest_123 ml_X11_162 mm_X11_off rfl rfl rfl rfl ⟨rfl, rfl⟩ h (fun v h2 hq => ?_)
          clear h
          obtain ⟨r52, I49, L50, c51, rfl, rfl, h⟩ := hq
          show Z_M_nearest g Q 126 [(0, .ref 59), (1, .int x1), (2, .int x2), (3, .int x3), (4, .int r48)] [.int r52] I49 L50 c51
          refine gx_iload_n 2 dX11_nearest_126 rfl rfl ?_
          refine gx_icmp_lt 133 dX11_nearest_127 (by decide) ⟨fun z => ?_, fun z => ?_⟩
          · replace h := h.1 z
            refine gx_iload_n 3 dX11_nearest_133 rfl rfl ?_
            refine gx_istore_n (lv' := [(0, .ref 59), (1, .int x3), (2, .int x2), (3, .int x3), (4, .int r48)]) dX11_nearest_134 rfl rfl rfl ?_
            refine gx_iload 4 dX11_nearest_135 rfl ?_
            refine gx_aload_n 0 dX11_nearest_137 rfl rfl ?_
            refine gx_getr 11 1 (v := 60) dX11_nearest_138 fl_X11_13 rfl rfl rfl ?_
            refine gx_bipush (v := 6) dX11_nearest_141 (by decide) ?_
            refine gx_iald (v := (I49 60 6)) dX11_nearest_143 rfl rfl (gm_vin rfl) (k := 6) rfl rfl ?_
            refine gx_callS (As := [.int r48, .int (I49 60 6)]) (st := []) dX11_nearest_144 ml_X11_162 mm_X11_off rfl rfl rfl rfl ⟨rfl, rfl⟩ h (fun v h2 hq => ?_)
            clear h
            obtain ⟨r56, I53, L54, c55, rfl, rfl, h⟩ := hq
            show Z_M_nearest g Q 147 [(0, .ref 59), (1, .int x3), (2, .int x2), (3, .int x3), (4, .int r48)] [.int r56] I53 L54 c55
            refine gx_istore_n (lv' := [(0, .ref 59), (1, .int x3), (2, .int r56), (3, .int x3), (4, .int r48)]) dX11_nearest_147 rfl rfl rfl ?_
            refine gx_iinc (v := (x3 + 1)) (lv' := [(0, .ref 59), (1, .int x3), (2, .int r56), (3, .int (x3 + 1)), (4, .int r48)]) 3 dX11_nearest_148 rfl rfl rfl rfl ?_
            refine gx_goto 37 dX11_nearest_151 (by decide) ?_
            refine gx_sub [0, 1, 2, 3] (lv' := [(0, .ref 59), (1, .int x3), (2, .int r56), (3, .int (x3 + 1))]) rfl ?_
            exact h
          · replace h := h.2 z
            refine gx_goto 148 dX11_nearest_130 (by decide) ?_
            refine gx_iinc (v := (x3 + 1)) (lv' := [(0, .ref 59), (1, .int x1), (2, .int x2), (3, .int (x3 + 1)), (4, .int r48)]) 3 dX11_nearest_148 rfl rfl rfl rfl ?_
            refine gx_goto 37 dX11_nearest_151 (by decide) ?_
            refine gx_sub [0, 1, 2, 3] (lv' := [(0, .ref 59), (1, .int x1), (2, .int x2), (3, .int (x3 + 1))]) rfl ?_
            exact h
abbrev Z_M_isMany (g : gm_G) (Q : Bool → mI → mL → gm_cfg → Prop) (pc : Nat) (lv : List (Nat × Value)) (st : List Value) (I : mI) (L : mL) (c : gm_cfg) : Prop := gm_X g RX11 "isMany" cX11_isMany 2 (some .boolean) 2 0 0 (qZ Q) 0 0 pc lv st (SH, I, L, RR c)
abbrev C_M_isMany (g : gm_G) (x1 : Int32) (I : mI) (L : mL) (c : gm_cfg) (Q : Bool → mI → mL → gm_cfg → Prop) : Prop := gm_Met g yX11_isMany cX11_isMany 2 (some .boolean) 2 0 0 [.ref 59, .int x1] (SH, I, L, RR c) (qZ Q)
set_option maxRecDepth 100000 in
theorem e_M_isMany {g : gm_G} {Q : Bool → mI → mL → gm_cfg → Prop} {x1 : Int32} {I : mI} {L : mL} {c : gm_cfg} (h : (C_M_within g (Int32.toInt64 x1) 0 4 I L c (fun b4 I1 L2 c3 => ((b4 = false → Q false I1 L2 c3) ∧ (b4 = true → (((I1 60 1) < x1 → Q false I1 L2 c3) ∧ (¬ (I1 60 1) < x1 → Q true I1 L2 c3))))))) : C_M_isMany g x1 I L c Q := by
  refine gm_enter (lv := [(0, .ref 59), (1, .int x1)]) (by decide) rfl rfl rfl rfl ?_
  show Z_M_isMany g Q 0 [(0, .ref 59), (1, .int x1)] [] I L c
  refine gx_iload_n 1 dX11_isMany_0 rfl rfl ?_
  refine gx_i2l dX11_isMany_1 ?_
  refine gx_lconst (v := 0) dX11_isMany_2 (by decide) ?_
  refine gx_ldc2 dX11_isMany_3 kl_X11_149 ?_
  refine gx_callS (As := [.long (Int32.toInt64 x1), .long 0, .long 4]) (st := []) dX11_isMany_6 ml_X11_125 mm_X11_within rfl rfl rfl rfl ⟨rfl, rfl⟩ h (fun v h2 hq => ?_)
  clear h
  obtain ⟨b4, I1, L2, c3, rfl, rfl, h⟩ := hq
  show Z_M_isMany g Q 9 [(0, .ref 59), (1, .int x1)] [.int (gm_b b4)] I1 L2 c3
  refine gx_if_eq 26 dX11_isMany_9 (by decide) ⟨fun z => ?_, fun z => ?_⟩
  · replace h := h.1 (gm_b0.mp z)
    refine gx_iconst (v := 0) dX11_isMany_26 (by decide) ?_
    exact gx_zret .boolean dX11_isMany_27 rfl rfl rfl rfl ⟨false, _, _, _, rfl, rfl, h⟩
  · replace h := h.2 (gm_bn0 z)
    refine gx_iload_n 1 dX11_isMany_12 rfl rfl ?_
    refine gx_aload_n 0 dX11_isMany_13 rfl rfl ?_
    refine gx_getr 11 1 (v := 60) dX11_isMany_14 fl_X11_13 rfl rfl rfl ?_
    refine gx_iconst (v := 1) dX11_isMany_17 (by decide) ?_
    refine gx_iald (v := (I1 60 1)) dX11_isMany_18 rfl rfl (gm_vin rfl) (k := 1) rfl rfl ?_
    refine gx_icmp_gt 26 dX11_isMany_19 (by decide) ⟨fun z => ?_, fun z => ?_⟩
    · replace h := h.1 z
      refine gx_iconst (v := 0) dX11_isMany_26 (by decide) ?_
      exact gx_zret .boolean dX11_isMany_27 rfl rfl rfl rfl ⟨false, _, _, _, rfl, rfl, h⟩
    · replace h := h.2 z
      refine gx_iconst (v := 1) dX11_isMany_22 (by decide) ?_
      refine gx_goto 27 dX11_isMany_23 (by decide) ?_
      exact gx_zret .boolean dX11_isMany_27 rfl rfl rfl rfl ⟨true, _, _, _, rfl, rfl, h⟩
abbrev Z_M_gridMany (g : gm_G) (Q : Int32 → mI → mL → gm_cfg → Prop) (pc : Nat) (lv : List (Nat × Value)) (st : List Value) (I : mI) (L : mL) (c : gm_cfg) : Prop := gm_X g RX11 "gridMany" cX11_gridMany 1 (some .int) 1 0 0 (qI Q) 0 0 pc lv st (SH, I, L, RR c)
abbrev C_M_gridMany (g : gm_G) (I : mI) (L : mL) (c : gm_cfg) (Q : Int32 → mI → mL → gm_cfg → Prop) : Prop := gm_Met g yX11_gridMany cX11_gridMany 1 (some .int) 1 0 0 [.ref 59] (SH, I, L, RR c) (qI Q)
set_option maxRecDepth 100000 in
theorem e_M_gridMany {g : gm_G} {Q : Int32 → mI → mL → gm_cfg → Prop} {I : mI} {L : mL} {c : gm_cfg} (h : Q (((I 60 3) - (I 60 2)) + 1) I L c) : C_M_gridMany g  I L c Q := by
  refine gm_enter (lv := [(0, .ref 59)]) (by decide) rfl rfl rfl rfl ?_
  show Z_M_gridMany g Q 0 [(0, .ref 59)] [] I L c
  refine gx_aload_n 0 dX11_gridMany_0 rfl rfl ?_
  refine gx_getr 11 1 (v := 60) dX11_gridMany_1 fl_X11_13 rfl rfl rfl ?_
  refine gx_iconst (v := 3) dX11_gridMany_4 (by decide) ?_
  refine gx_iald (v := (I 60 3)) dX11_gridMany_5 rfl rfl (gm_vin rfl) (k := 3) rfl rfl ?_
  refine gx_aload_n 0 dX11_gridMany_6 rfl rfl ?_
  refine gx_getr 11 1 (v := 60) dX11_gridMany_7 fl_X11_13 rfl rfl rfl ?_
  refine gx_iconst (v := 2) dX11_gridMany_10 (by decide) ?_
  refine gx_iald (v := (I 60 2)) dX11_gridMany_11 rfl rfl (gm_vin rfl) (k := 2) rfl rfl ?_
  refine gx_isub dX11_gridMany_12 ?_
  refine gx_iconst (v := 1) dX11_gridMany_13 (by decide) ?_
  refine gx_iadd dX11_gridMany_14 ?_
  exact gx_iret dX11_gridMany_15 rfl rfl rfl ⟨_, _, _, _, rfl, rfl, h⟩
abbrev Z_M_byGoal (g : gm_G) (Q : Int64 → mI → mL → gm_cfg → Prop) (pc : Nat) (lv : List (Nat × Value)) (st : List Value) (I : mI) (L : mL) (c : gm_cfg) : Prop := gm_X g RX11 "byGoal" cX11_byGoal 3 (some .long) 4 0 0 (qL Q) 0 0 pc lv st (SH, I, L, RR c)
abbrev C_M_byGoal (g : gm_G) (x1 : Int32) (I : mI) (L : mL) (c : gm_cfg) (Q : Int64 → mI → mL → gm_cfg → Prop) : Prop := gm_Met g yX11_byGoal cX11_byGoal 3 (some .long) 4 0 0 [.ref 59, .int x1] (SH, I, L, RR c) (qL Q)
set_option maxRecDepth 100000 in
theorem e_M_byGoal {g : gm_G} {Q : Int64 → mI → mL → gm_cfg → Prop} {x1 : Int32} {I : mI} {L : mL} {c : gm_cfg} (h : (vp_in (29 + x1) 330 ∧ (C_M_goalAt g x1 I L c (fun r4 I1 L2 c3 => (C_M_numberOf g x1 I1 L2 c3 (fun r8 I5 L6 c7 => ((r4 = r8 → (vp_in (23 + (I 60 (Int32.toNatClampNeg (29 + x1)))) 330 ∧ (vp_in (17 + (I 60 (Int32.toNatClampNeg (29 + x1)))) 330 ∧ Q ((Int32.toInt64 (I5 60 (Int32.toNatClampNeg (23 + (I 60 (Int32.toNatClampNeg (29 + x1))))))) * ((2 * (Int32.toInt64 (I5 60 (Int32.toNatClampNeg (17 + (I 60 (Int32.toNatClampNeg (29 + x1)))))))) + 1)) I5 L6 c7))) ∧ (¬ r4 = r8 → Q 0 I5 L6 c7)))))))) : C_M_byGoal g x1 I L c Q := by
  refine gm_enter (lv := [(0, .ref 59), (1, .int x1)]) (by decide) rfl rfl rfl rfl ?_
  show Z_M_byGoal g Q 0 [(0, .ref 59), (1, .int x1)] [] I L c
  refine gx_aload_n 0 dX11_byGoal_0 rfl rfl ?_
  refine gx_getr 11 1 (v := 60) dX11_byGoal_1 fl_X11_13 rfl rfl rfl ?_
  refine gx_bipush (v := 29) dX11_byGoal_4 (by decide) ?_
  refine gx_iload_n 1 dX11_byGoal_6 rfl rfl ?_
  refine gx_iadd dX11_byGoal_7 ?_
  obtain ⟨hi, h⟩ := h
  refine gx_iald (v := (I 60 (Int32.toNatClampNeg (29 + x1)))) dX11_byGoal_8 rfl rfl hi (k := (Int32.toNatClampNeg (29 + x1))) rfl rfl ?_
  refine gx_istore_n (lv' := [(0, .ref 59), (1, .int x1), (2, .int (I 60 (Int32.toNatClampNeg (29 + x1))))]) dX11_byGoal_9 rfl rfl rfl ?_
  refine gx_aload_n 0 dX11_byGoal_10 rfl rfl ?_
  refine gx_iload_n 1 dX11_byGoal_11 rfl rfl ?_
  refine gx_callV 11 (As := [.int x1]) (st := []) dX11_byGoal_12 ml_X11_186 mm_X11_goalAt rfl rfl rfl rfl rfl rfl ⟨rfl, rfl⟩ h (fun v h2 hq => ?_)
  clear h
  obtain ⟨r4, I1, L2, c3, rfl, rfl, h⟩ := hq
  show Z_M_byGoal g Q 15 [(0, .ref 59), (1, .int x1), (2, .int (I 60 (Int32.toNatClampNeg (29 + x1))))] [.int r4] I1 L2 c3
  refine gx_aload_n 0 dX11_byGoal_15 rfl rfl ?_
  refine gx_iload_n 1 dX11_byGoal_16 rfl rfl ?_
  refine gx_callV 11 (As := [.int x1]) (st := [.int r4]) dX11_byGoal_17 ml_X11_171 mm_X11_numberOf rfl rfl rfl rfl rfl rfl ⟨rfl, rfl⟩ h (fun v h2 hq => ?_)
  clear h
  obtain ⟨r8, I5, L6, c7, rfl, rfl, h⟩ := hq
  show Z_M_byGoal g Q 20 [(0, .ref 59), (1, .int x1), (2, .int (I 60 (Int32.toNatClampNeg (29 + x1))))] [.int r8, .int r4] I5 L6 c7
  refine gx_icmp_ne 53 dX11_byGoal_20 (by decide) ⟨fun z => ?_, fun z => ?_⟩
  · replace h := h.1 z
    refine gx_aload_n 0 dX11_byGoal_23 rfl rfl ?_
    refine gx_getr 11 1 (v := 60) dX11_byGoal_24 fl_X11_13 rfl rfl rfl ?_
    refine gx_bipush (v := 23) dX11_byGoal_27 (by decide) ?_
    refine gx_iload_n 2 dX11_byGoal_29 rfl rfl ?_
    refine gx_iadd dX11_byGoal_30 ?_
    obtain ⟨hi, h⟩ := h
    refine gx_iald (v := (I5 60 (Int32.toNatClampNeg (23 + (I 60 (Int32.toNatClampNeg (29 + x1))))))) dX11_byGoal_31 rfl rfl hi (k := (Int32.toNatClampNeg (23 + (I 60 (Int32.toNatClampNeg (29 + x1)))))) rfl rfl ?_
    refine gx_i2l dX11_byGoal_32 ?_
    refine gx_ldc2 dX11_byGoal_33 kl_X11_196 ?_
    refine gx_aload_n 0 dX11_byGoal_36 rfl rfl ?_
    refine gx_getr 11 1 (v := 60) dX11_byGoal_37 fl_X11_13 rfl rfl rfl ?_
    refine gx_bipush (v := 17) dX11_byGoal_40 (by decide) ?_
    refine gx_iload_n 2 dX11_byGoal_42 rfl rfl ?_
    refine gx_iadd dX11_byGoal_43 ?_
    obtain ⟨hi, h⟩ := h
    refine gx_iald (v := (I5 60 (Int32.toNatClampNeg (17 + (I 60 (Int32.toNatClampNeg (29 + x1))))))) dX11_byGoal_44 rfl rfl hi (k := (Int32.toNatClampNeg (17 + (I 60 (Int32.toNatClampNeg (29 + x1)))))) rfl rfl ?_
    refine gx_i2l dX11_byGoal_45 ?_
    refine gx_lmul dX11_byGoal_46 ?_
    refine gx_lconst (v := 1) dX11_byGoal_47 (by decide) ?_
    refine gx_ladd dX11_byGoal_48 ?_
    refine gx_lmul dX11_byGoal_49 ?_
    refine gx_goto 54 dX11_byGoal_50 (by decide) ?_
    exact gx_lret dX11_byGoal_54 rfl rfl rfl ⟨_, _, _, _, rfl, rfl, h⟩
  · replace h := h.2 z
    refine gx_lconst (v := 0) dX11_byGoal_53 (by decide) ?_
    exact gx_lret dX11_byGoal_54 rfl rfl rfl ⟨_, _, _, _, rfl, rfl, h⟩
abbrev Z_M_isOwn (g : gm_G) (Q : Bool → mI → mL → gm_cfg → Prop) (pc : Nat) (lv : List (Nat × Value)) (st : List Value) (I : mI) (L : mL) (c : gm_cfg) : Prop := gm_X g RX11 "isOwn" cX11_isOwn 3 (some .boolean) 2 0 0 (qZ Q) 0 0 pc lv st (SH, I, L, RR c)
abbrev C_M_isOwn (g : gm_G) (x1 : Int32) (x2 : Int32) (I : mI) (L : mL) (c : gm_cfg) (Q : Bool → mI → mL → gm_cfg → Prop) : Prop := gm_Met g yX11_isOwn cX11_isOwn 3 (some .boolean) 2 0 0 [.ref 59, .int x1, .int x2] (SH, I, L, RR c) (qZ Q)
set_option maxRecDepth 100000 in
theorem e_M_isOwn {g : gm_G} {Q : Bool → mI → mL → gm_cfg → Prop} {x1 x2 : Int32} {I : mI} {L : mL} {c : gm_cfg} (h : (C_M_numberOf g x1 I L c (fun r4 I1 L2 c3 => (vp_in (29 + x1) 330 ∧ (C_M_sightOf g (I1 60 (Int32.toNatClampNeg (29 + x1))) x2 I1 L2 c3 (fun r8 I5 L6 c7 => (C_M_off g r4 r8 I5 L6 c7 (fun r12 I9 L10 c11 => (vp_in (29 + x1) 330 ∧ (vp_in (17 + (I9 60 (Int32.toNatClampNeg (29 + x1)))) 330 ∧ (((I9 60 (Int32.toNatClampNeg (17 + (I9 60 (Int32.toNatClampNeg (29 + x1)))))) < r12 → Q false I9 L10 c11) ∧ (¬ (I9 60 (Int32.toNatClampNeg (17 + (I9 60 (Int32.toNatClampNeg (29 + x1)))))) < r12 → Q true I9 L10 c11)))))))))))) : C_M_isOwn g x1 x2 I L c Q := by
  refine gm_enter (lv := [(0, .ref 59), (1, .int x1), (2, .int x2)]) (by decide) rfl rfl rfl rfl ?_
  show Z_M_isOwn g Q 0 [(0, .ref 59), (1, .int x1), (2, .int x2)] [] I L c
  refine gx_aload_n 0 dX11_isOwn_0 rfl rfl ?_
  refine gx_iload_n 1 dX11_isOwn_1 rfl rfl ?_
  refine gx_callV 11 (As := [.int x1]) (st := []) dX11_isOwn_2 ml_X11_171 mm_X11_numberOf rfl rfl rfl rfl rfl rfl ⟨rfl, rfl⟩ h (fun v h2 hq => ?_)
  clear h
  obtain ⟨r4, I1, L2, c3, rfl, rfl, h⟩ := hq
  show Z_M_isOwn g Q 5 [(0, .ref 59), (1, .int x1), (2, .int x2)] [.int r4] I1 L2 c3
  refine gx_aload_n 0 dX11_isOwn_5 rfl rfl ?_
  refine gx_aload_n 0 dX11_isOwn_6 rfl rfl ?_
  refine gx_getr 11 1 (v := 60) dX11_isOwn_7 fl_X11_13 rfl rfl rfl ?_
  refine gx_bipush (v := 29) dX11_isOwn_10 (by decide) ?_
  refine gx_iload_n 1 dX11_isOwn_12 rfl rfl ?_
  refine gx_iadd dX11_isOwn_13 ?_
  obtain ⟨hi, h⟩ := h
  refine gx_iald (v := (I1 60 (Int32.toNatClampNeg (29 + x1)))) dX11_isOwn_14 rfl rfl hi (k := (Int32.toNatClampNeg (29 + x1))) rfl rfl ?_
  refine gx_iload_n 2 dX11_isOwn_15 rfl rfl ?_
  refine gx_callV 11 (As := [.int (I1 60 (Int32.toNatClampNeg (29 + x1))), .int x2]) (st := [.int r4]) dX11_isOwn_16 ml_X11_159 mm_X11_sightOf rfl rfl rfl rfl rfl rfl ⟨rfl, rfl⟩ h (fun v h2 hq => ?_)
  clear h
  obtain ⟨r8, I5, L6, c7, rfl, rfl, h⟩ := hq
  show Z_M_isOwn g Q 19 [(0, .ref 59), (1, .int x1), (2, .int x2)] [.int r8, .int r4] I5 L6 c7
  refine gx_callS (As := [.int r4, .int r8]) (st := []) dX11_isOwn_19 ml_X11_162 mm_X11_off rfl rfl rfl rfl ⟨rfl, rfl⟩ h (fun v h2 hq => ?_)
  clear h
  obtain ⟨r12, I9, L10, c11, rfl, rfl, h⟩ := hq
  show Z_M_isOwn g Q 22 [(0, .ref 59), (1, .int x1), (2, .int x2)] [.int r12] I9 L10 c11
  refine gx_aload_n 0 dX11_isOwn_22 rfl rfl ?_
  refine gx_getr 11 1 (v := 60) dX11_isOwn_23 fl_X11_13 rfl rfl rfl ?_
  refine gx_bipush (v := 17) dX11_isOwn_26 (by decide) ?_
  refine gx_aload_n 0 dX11_isOwn_28 rfl rfl ?_
  refine gx_getr 11 1 (v := 60) dX11_isOwn_29 fl_X11_13 rfl rfl rfl ?_
  refine gx_bipush (v := 29) dX11_isOwn_32 (by decide) ?_
  refine gx_iload_n 1 dX11_isOwn_34 rfl rfl ?_
  refine gx_iadd dX11_isOwn_35 ?_
  obtain ⟨hi, h⟩ := h
  refine gx_iald (v := (I9 60 (Int32.toNatClampNeg (29 + x1)))) dX11_isOwn_36 rfl rfl hi (k := (Int32.toNatClampNeg (29 + x1))) rfl rfl ?_
  refine gx_iadd dX11_isOwn_37 ?_
  obtain ⟨hi, h⟩ := h
  refine gx_iald (v := (I9 60 (Int32.toNatClampNeg (17 + (I9 60 (Int32.toNatClampNeg (29 + x1))))))) dX11_isOwn_38 rfl rfl hi (k := (Int32.toNatClampNeg (17 + (I9 60 (Int32.toNatClampNeg (29 + x1)))))) rfl rfl ?_
  refine gx_icmp_gt 46 dX11_isOwn_39 (by decide) ⟨fun z => ?_, fun z => ?_⟩
  · replace h := h.1 z
    refine gx_iconst (v := 0) dX11_isOwn_46 (by decide) ?_
    exact gx_zret .boolean dX11_isOwn_47 rfl rfl rfl rfl ⟨false, _, _, _, rfl, rfl, h⟩
  · replace h := h.2 z
    refine gx_iconst (v := 1) dX11_isOwn_42 (by decide) ?_
    refine gx_goto 47 dX11_isOwn_43 (by decide) ?_
    exact gx_zret .boolean dX11_isOwn_47 rfl rfl rfl rfl ⟨true, _, _, _, rfl, rfl, h⟩
abbrev Z_M_chanceOf (g : gm_G) (Q : Int64 → mI → mL → gm_cfg → Prop) (pc : Nat) (lv : List (Nat × Value)) (st : List Value) (I : mI) (L : mL) (c : gm_cfg) : Prop := gm_X g RX11 "chanceOf" cX11_chanceOf 4 (some .long) 5 0 0 (qL Q) 0 0 pc lv st (SH, I, L, RR c)
abbrev C_M_chanceOf (g : gm_G) (x1 : Int32) (x2 : Int32) (I : mI) (L : mL) (c : gm_cfg) (Q : Int64 → mI → mL → gm_cfg → Prop) : Prop := gm_Met g yX11_chanceOf cX11_chanceOf 4 (some .long) 5 0 0 [.ref 59, .int x1, .int x2] (SH, I, L, RR c) (qL Q)
set_option maxRecDepth 100000 in
theorem e_M_chanceOf {g : gm_G} {Q : Int64 → mI → mL → gm_cfg → Prop} {x1 x2 : Int32} {I : mI} {L : mL} {c : gm_cfg} (h : (C_M_goalAt g x1 I L c (fun r4 I1 L2 c3 => ((r4 = (-1) → (C_M_byGoal g x1 I1 L2 c3 (fun r8 I5 L6 c7 => (C_M_isOwn g x1 x2 I5 L6 c7 (fun b12 I9 L10 c11 => ((b12 = false → Q (r8 + 0) I9 L10 c11) ∧ (b12 = true → Q (r8 + 10) I9 L10 c11))))))) ∧ (¬ r4 = (-1) → (vp_in (29 + x1) 330 ∧ (vp_in (23 + (I1 60 (Int32.toNatClampNeg (29 + x1)))) 330 ∧ (C_M_byGoal g x1 I1 L2 c3 (fun r16 I13 L14 c15 => (C_M_isOwn g x1 x2 I13 L14 c15 (fun b20 I17 L18 c19 => ((b20 = false → Q (r16 + 0) I17 L18 c19) ∧ (b20 = true → Q (r16 + (Int32.toInt64 (10 - (I1 60 (Int32.toNatClampNeg (23 + (I1 60 (Int32.toNatClampNeg (29 + x1))))))))) I17 L18 c19))))))))))))) : C_M_chanceOf g x1 x2 I L c Q := by
  refine gm_enter (lv := [(0, .ref 59), (1, .int x1), (2, .int x2)]) (by decide) rfl rfl rfl rfl ?_
  show Z_M_chanceOf g Q 0 [(0, .ref 59), (1, .int x1), (2, .int x2)] [] I L c
  refine gx_aload_n 0 dX11_chanceOf_0 rfl rfl ?_
  refine gx_iload_n 1 dX11_chanceOf_1 rfl rfl ?_
  refine gx_callV 11 (As := [.int x1]) (st := []) dX11_chanceOf_2 ml_X11_186 mm_X11_goalAt rfl rfl rfl rfl rfl rfl ⟨rfl, rfl⟩ h (fun v h2 hq => ?_)
  clear h
  obtain ⟨r4, I1, L2, c3, rfl, rfl, h⟩ := hq
  show Z_M_chanceOf g Q 5 [(0, .ref 59), (1, .int x1), (2, .int x2)] [.int r4] I1 L2 c3
  refine gx_iconst (v := (-1)) dX11_chanceOf_5 (by decide) ?_
  refine gx_icmp_ne 14 dX11_chanceOf_6 (by decide) ⟨fun z => ?_, fun z => ?_⟩
  · replace h := h.1 z
    refine gx_bipush (v := 10) dX11_chanceOf_9 (by decide) ?_
    refine gx_goto 34 dX11_chanceOf_11 (by decide) ?_
    refine gx_istore_n (lv' := [(0, .ref 59), (1, .int x1), (2, .int x2), (3, .int 10)]) dX11_chanceOf_34 rfl rfl rfl ?_
    refine gx_aload_n 0 dX11_chanceOf_35 rfl rfl ?_
    refine gx_iload_n 1 dX11_chanceOf_36 rfl rfl ?_
    refine gx_callV 11 (As := [.int x1]) (st := []) dX11_chanceOf_37 ml_X11_228 mm_X11_byGoal rfl rfl rfl rfl rfl rfl ⟨rfl, rfl⟩ h (fun v h2 hq => ?_)
    clear h
    obtain ⟨r8, I5, L6, c7, rfl, rfl, h⟩ := hq
    show Z_M_chanceOf g Q 40 [(0, .ref 59), (1, .int x1), (2, .int x2), (3, .int 10)] [.long r8] I5 L6 c7
    refine gx_aload_n 0 dX11_chanceOf_40 rfl rfl ?_
    refine gx_iload_n 1 dX11_chanceOf_41 rfl rfl ?_
    refine gx_iload_n 2 dX11_chanceOf_42 rfl rfl ?_
    refine gx_callV 11 (As := [.int x1, .int x2]) (st := [.long r8]) dX11_chanceOf_43 ml_X11_232 mm_X11_isOwn rfl rfl rfl rfl rfl rfl ⟨rfl, rfl⟩ h (fun v h2 hq => ?_)
    clear h
    obtain ⟨b12, I9, L10, c11, rfl, rfl, h⟩ := hq
    show Z_M_chanceOf g Q 46 [(0, .ref 59), (1, .int x1), (2, .int x2), (3, .int 10)] [.int (gm_b b12), .long r8] I9 L10 c11
    refine gx_if_eq 53 dX11_chanceOf_46 (by decide) ⟨fun z => ?_, fun z => ?_⟩
    · replace h := h.1 (gm_b0.mp z)
      refine gx_iconst (v := 0) dX11_chanceOf_53 (by decide) ?_
      refine gx_i2l dX11_chanceOf_54 ?_
      show Z_M_chanceOf g Q 55 [(0, .ref 59), (1, .int x1), (2, .int x2), (3, .int 10)] [.long 0, .long r8] I9 L10 c11
      refine gx_ladd dX11_chanceOf_55 ?_
      exact gx_lret dX11_chanceOf_56 rfl rfl rfl ⟨_, _, _, _, rfl, rfl, h⟩
    · replace h := h.2 (gm_bn0 z)
      refine gx_iload_n 3 dX11_chanceOf_49 rfl rfl ?_
      refine gx_goto 54 dX11_chanceOf_50 (by decide) ?_
      refine gx_i2l dX11_chanceOf_54 ?_
      show Z_M_chanceOf g Q 55 [(0, .ref 59), (1, .int x1), (2, .int x2), (3, .int 10)] [.long 10, .long r8] I9 L10 c11
      refine gx_ladd dX11_chanceOf_55 ?_
      exact gx_lret dX11_chanceOf_56 rfl rfl rfl ⟨_, _, _, _, rfl, rfl, h⟩
  · replace h := h.2 z
    refine gx_bipush (v := 10) dX11_chanceOf_14 (by decide) ?_
    refine gx_aload_n 0 dX11_chanceOf_16 rfl rfl ?_
    refine gx_getr 11 1 (v := 60) dX11_chanceOf_17 fl_X11_13 rfl rfl rfl ?_
    refine gx_bipush (v := 23) dX11_chanceOf_20 (by decide) ?_
    refine gx_aload_n 0 dX11_chanceOf_22 rfl rfl ?_
    refine gx_getr 11 1 (v := 60) dX11_chanceOf_23 fl_X11_13 rfl rfl rfl ?_
    refine gx_bipush (v := 29) dX11_chanceOf_26 (by decide) ?_
    refine gx_iload_n 1 dX11_chanceOf_28 rfl rfl ?_
    refine gx_iadd dX11_chanceOf_29 ?_
    obtain ⟨hi, h⟩ := h
    refine gx_iald (v := (I1 60 (Int32.toNatClampNeg (29 + x1)))) dX11_chanceOf_30 rfl rfl hi (k := (Int32.toNatClampNeg (29 + x1))) rfl rfl ?_
    refine gx_iadd dX11_chanceOf_31 ?_
    obtain ⟨hi, h⟩ := h
    refine gx_iald (v := (I1 60 (Int32.toNatClampNeg (23 + (I1 60 (Int32.toNatClampNeg (29 + x1))))))) dX11_chanceOf_32 rfl rfl hi (k := (Int32.toNatClampNeg (23 + (I1 60 (Int32.toNatClampNeg (29 + x1)))))) rfl rfl ?_
    refine gx_isub dX11_chanceOf_33 ?_
    refine gx_istore_n (lv' := [(0, .ref 59), (1, .int x1), (2, .int x2), (3, .int (10 - (I1 60 (Int32.toNatClampNeg (23 + (I1 60 (Int32.toNatClampNeg (29 + x1))))))))]) dX11_chanceOf_34 rfl rfl rfl ?_
    refine gx_aload_n 0 dX11_chanceOf_35 rfl rfl ?_
    refine gx_iload_n 1 dX11_chanceOf_36 rfl rfl ?_
    refine gx_callV 11 (As := [.int x1]) (st := []) dX11_chanceOf_37 ml_X11_228 mm_X11_byGoal rfl rfl rfl rfl rfl rfl ⟨rfl, rfl⟩ h (fun v h2 hq => ?_)
    clear h
    obtain ⟨r16, I13, L14, c15, rfl, rfl, h⟩ := hq
    show Z_M_chanceOf g Q 40 [(0, .ref 59), (1, .int x1), (2, .int x2), (3, .int (10 - (I1 60 (Int32.toNatClampNeg (23 + (I1 60 (Int32.toNatClampNeg (29 + x1))))))))] [.long r16] I13 L14 c15
    refine gx_aload_n 0 dX11_chanceOf_40 rfl rfl ?_
    refine gx_iload_n 1 dX11_chanceOf_41 rfl rfl ?_
    refine gx_iload_n 2 dX11_chanceOf_42 rfl rfl ?_
    refine gx_callV 11 (As := [.int x1, .int x2]) (st := [.long r16]) dX11_chanceOf_43 ml_X11_232 mm_X11_isOwn rfl rfl rfl rfl rfl rfl ⟨rfl, rfl⟩ h (fun v h2 hq => ?_)
    clear h
    obtain ⟨b20, I17, L18, c19, rfl, rfl, h⟩ := hq
    show Z_M_chanceOf g Q 46 [(0, .ref 59), (1, .int x1), (2, .int x2), (3, .int (10 - (I1 60 (Int32.toNatClampNeg (23 + (I1 60 (Int32.toNatClampNeg (29 + x1))))))))] [.int (gm_b b20), .long r16] I17 L18 c19
    refine gx_if_eq 53 dX11_chanceOf_46 (by decide) ⟨fun z => ?_, fun z => ?_⟩
    · replace h := h.1 (gm_b0.mp z)
      refine gx_iconst (v := 0) dX11_chanceOf_53 (by decide) ?_
      refine gx_i2l dX11_chanceOf_54 ?_
      show Z_M_chanceOf g Q 55 [(0, .ref 59), (1, .int x1), (2, .int x2), (3, .int (10 - (I1 60 (Int32.toNatClampNeg (23 + (I1 60 (Int32.toNatClampNeg (29 + x1))))))))] [.long 0, .long r16] I17 L18 c19
      refine gx_ladd dX11_chanceOf_55 ?_
      exact gx_lret dX11_chanceOf_56 rfl rfl rfl ⟨_, _, _, _, rfl, rfl, h⟩
    · replace h := h.2 (gm_bn0 z)
      refine gx_iload_n 3 dX11_chanceOf_49 rfl rfl ?_
      refine gx_goto 54 dX11_chanceOf_50 (by decide) ?_
      refine gx_i2l dX11_chanceOf_54 ?_
      refine gx_ladd dX11_chanceOf_55 ?_
      exact gx_lret dX11_chanceOf_56 rfl rfl rfl ⟨_, _, _, _, rfl, rfl, h⟩
abbrev Z_M_laysWays (g : gm_G) (Q : mI → mL → gm_cfg → Prop) (pc : Nat) (lv : List (Nat × Value)) (st : List Value) (I : mI) (L : mL) (c : gm_cfg) : Prop := gm_X g RX11 "laysWays" cX11_laysWays 6 none 6 0 0 (qV Q) 0 0 pc lv st (SH, I, L, RR c)
abbrev C_M_laysWays (g : gm_G) (x1 : Int32) (x2 : Int32) (I : mI) (L : mL) (c : gm_cfg) (Q : mI → mL → gm_cfg → Prop) : Prop := gm_Met g yX11_laysWays cX11_laysWays 6 none 6 0 0 [.ref 59, .int x1, .int x2] (SH, I, L, RR c) (qV Q)
set_option maxRecDepth 100000 in
theorem e_M_laysWays {g : gm_G} {Q : mI → mL → gm_cfg → Prop} {x1 x2 : Int32} {I : mI} {L : mL} {c : gm_cfg} (h : Z_M_laysWays g Q 7 [(0, .ref 59), (1, .int x1), (2, .int x2), (3, .int 0)] [] I (gm_u L 59 19 0) c) : C_M_laysWays g x1 x2 I L c Q := by
  refine gm_enter (lv := [(0, .ref 59), (1, .int x1), (2, .int x2)]) (by decide) rfl rfl rfl rfl ?_
  show Z_M_laysWays g Q 0 [(0, .ref 59), (1, .int x1), (2, .int x2)] [] I L c
  refine gx_aload_n 0 dX11_laysWays_0 rfl rfl ?_
  refine gx_lconst (v := 0) dX11_laysWays_1 (by decide) ?_
  refine gx_putl 11 19 dX11_laysWays_2 fl_X11_236 rfl rfl rfl ⟨rfl, rfl⟩ ?_
  show Z_M_laysWays g Q 5 [(0, .ref 59), (1, .int x1), (2, .int x2)] [] I (gm_u L 59 19 0) c
  refine gx_iconst (v := 0) dX11_laysWays_5 (by decide) ?_
  refine gx_istore_n (lv' := [(0, .ref 59), (1, .int x1), (2, .int x2), (3, .int 0)]) dX11_laysWays_6 rfl rfl rfl ?_
  exact h
set_option maxRecDepth 100000 in
theorem r_M_laysWays_7 {g : gm_G} {Q : mI → mL → gm_cfg → Prop} {x1 x2 x3 : Int32} {I : mI} {L : mL} {c : gm_cfg} (h : (C_M_gridMany g I L c (fun r4 I1 L2 c3 => ((r4 ≤ x3 → Q I1 L2 c3) ∧ (¬ r4 ≤ x3 → (C_M_weightOf g ((I1 60 2) + x3) I1 L2 c3 (fun r8 I5 L6 c7 => (vp_in x3 200 ∧ Z_M_laysWays g Q 41 [(0, .ref 59), (1, .int x1), (2, .int x2), (3, .int x3), (4, .int ((I1 60 2) + x3)), (5, .int 0)] [] I5 (gm_u L6 65 (Int32.toNatClampNeg x3) (Int32.toInt64 r8)) c7)))))))) : Z_M_laysWays g Q 7 [(0, .ref 59), (1, .int x1), (2, .int x2), (3, .int x3)] [] I L c := by
  refine gx_iload_n 3 dX11_laysWays_7 rfl rfl ?_
  refine gx_aload_n 0 dX11_laysWays_8 rfl rfl ?_
  refine gx_callV 11 (As := []) (st := [.int x3]) dX11_laysWays_9 ml_X11_240 mm_X11_gridMany rfl rfl rfl rfl rfl rfl ⟨rfl, rfl⟩ h (fun v h2 hq => ?_)
  clear h
  obtain ⟨r4, I1, L2, c3, rfl, rfl, h⟩ := hq
  show Z_M_laysWays g Q 12 [(0, .ref 59), (1, .int x1), (2, .int x2), (3, .int x3)] [.int r4, .int x3] I1 L2 c3
  refine gx_icmp_ge 106 dX11_laysWays_12 (by decide) ⟨fun z => ?_, fun z => ?_⟩
  · replace h := h.1 z
    exact gx_vret dX11_laysWays_106 rfl rfl rfl ⟨_, _, _, rfl, rfl, h⟩
  · replace h := h.2 z
    refine gx_aload_n 0 dX11_laysWays_15 rfl rfl ?_
    refine gx_getr 11 1 (v := 60) dX11_laysWays_16 fl_X11_13 rfl rfl rfl ?_
    refine gx_iconst (v := 2) dX11_laysWays_19 (by decide) ?_
    refine gx_iald (v := (I1 60 2)) dX11_laysWays_20 rfl rfl (gm_vin rfl) (k := 2) rfl rfl ?_
    refine gx_iload_n 3 dX11_laysWays_21 rfl rfl ?_
    refine gx_iadd dX11_laysWays_22 ?_
    refine gx_istore (lv' := [(0, .ref 59), (1, .int x1), (2, .int x2), (3, .int x3), (4, .int ((I1 60 2) + x3))]) dX11_laysWays_23 rfl rfl ?_
    refine gx_aload_n 0 dX11_laysWays_25 rfl rfl ?_
    refine gx_getr 11 18 (v := 65) dX11_laysWays_26 fl_X11_33 rfl rfl rfl ?_
    refine gx_iload_n 3 dX11_laysWays_29 rfl rfl ?_
    refine gx_aload_n 0 dX11_laysWays_30 rfl rfl ?_
    refine gx_iload 4 dX11_laysWays_31 rfl ?_
    refine gx_callV 11 (As := [.int ((I1 60 2) + x3)]) (st := [.int x3, .ref 65]) dX11_laysWays_33 ml_X11_168 mm_X11_weightOf rfl rfl rfl rfl rfl rfl ⟨rfl, rfl⟩ h (fun v h2 hq => ?_)
    clear h
    obtain ⟨r8, I5, L6, c7, rfl, rfl, h⟩ := hq
    show Z_M_laysWays g Q 36 [(0, .ref 59), (1, .int x1), (2, .int x2), (3, .int x3), (4, .int ((I1 60 2) + x3))] [.int r8, .int x3, .ref 65] I5 L6 c7
    refine gx_i2l dX11_laysWays_36 ?_
    obtain ⟨hi, h⟩ := h
    refine gx_last dX11_laysWays_37 rfl rfl hi (k := (Int32.toNatClampNeg x3)) rfl ?_
    show Z_M_laysWays g Q 38 [(0, .ref 59), (1, .int x1), (2, .int x2), (3, .int x3), (4, .int ((I1 60 2) + x3))] [] I5 (gm_u L6 65 (Int32.toNatClampNeg x3) (Int32.toInt64 r8)) c7
    refine gx_iconst (v := 0) dX11_laysWays_38 (by decide) ?_
    refine gx_istore (lv' := [(0, .ref 59), (1, .int x1), (2, .int x2), (3, .int x3), (4, .int ((I1 60 2) + x3)), (5, .int 0)]) dX11_laysWays_39 rfl rfl ?_
    exact h
set_option maxRecDepth 100000 in
theorem r_M_laysWays_41 {g : gm_G} {Q : mI → mL → gm_cfg → Prop} {x1 x2 x3 x4 x5 : Int32} {I : mI} {L : mL} {c : gm_cfg} (h : ((x1 ≤ x5 → (vp_in x3 200 ∧ Z_M_laysWays g Q 7 [(0, .ref 59), (1, .int x1), (2, .int x2), (3, .int (x3 + 1))] [] I (gm_u L 59 19 ((L 59 19) + (L 65 (Int32.toNatClampNeg x3)))) c)) ∧ (¬ x1 ≤ x5 → (vp_in x3 200 ∧ ((x5 = x2 → (C_M_byGoal g x5 I L c (fun r4 I1 L2 c3 => (vp_in x3 200 ∧ Z_M_laysWays g Q 41 [(0, .ref 59), (1, .int x1), (2, .int x2), (3, .int x3), (4, .int x4), (5, .int (x5 + 1))] [] I1 (gm_u L2 65 (Int32.toNatClampNeg x3) ((L 65 (Int32.toNatClampNeg x3)) * r4)) c3)))) ∧ (¬ x5 = x2 → (C_M_chanceOf g x5 x4 I L c (fun r8 I5 L6 c7 => (vp_in x3 200 ∧ Z_M_laysWays g Q 41 [(0, .ref 59), (1, .int x1), (2, .int x2), (3, .int x3), (4, .int x4), (5, .int (x5 + 1))] [] I5 (gm_u L6 65 (Int32.toNatClampNeg x3) ((L 65 (Int32.toNatClampNeg x3)) * r8)) c7))))))))) : Z_M_laysWays g Q 41 [(0, .ref 59), (1, .int x1), (2, .int x2), (3, .int x3), (4, .int x4), (5, .int x5)] [] I L c := by
  refine gx_iload 5 dX11_laysWays_41 rfl ?_
  refine gx_iload_n 1 dX11_laysWays_43 rfl rfl ?_
  refine gx_icmp_ge 85 dX11_laysWays_44 (by decide) ⟨fun z => ?_, fun z => ?_⟩
  · replace h := h.1 z
    refine gx_aload_n 0 dX11_laysWays_85 rfl rfl ?_
    refine gx_dup dX11_laysWays_86 rfl ?_
    refine gx_getl 11 19 (v := (L 59 19)) dX11_laysWays_87 fl_X11_236 rfl rfl rfl ?_
    refine gx_aload_n 0 dX11_laysWays_90 rfl rfl ?_
    refine gx_getr 11 18 (v := 65) dX11_laysWays_91 fl_X11_33 rfl rfl rfl ?_
    refine gx_iload_n 3 dX11_laysWays_94 rfl rfl ?_
    obtain ⟨hi, h⟩ := h
    refine gx_lald (v := (L 65 (Int32.toNatClampNeg x3))) dX11_laysWays_95 rfl rfl hi (k := (Int32.toNatClampNeg x3)) rfl rfl ?_
    refine gx_ladd dX11_laysWays_96 ?_
    refine gx_putl 11 19 dX11_laysWays_97 fl_X11_236 rfl rfl rfl ⟨rfl, rfl⟩ ?_
    show Z_M_laysWays g Q 100 [(0, .ref 59), (1, .int x1), (2, .int x2), (3, .int x3), (4, .int x4), (5, .int x5)] [] I (gm_u L 59 19 ((L 59 19) + (L 65 (Int32.toNatClampNeg x3)))) c
    refine gx_iinc (v := (x3 + 1)) (lv' := [(0, .ref 59), (1, .int x1), (2, .int x2), (3, .int (x3 + 1)), (4, .int x4), (5, .int x5)]) 3 dX11_laysWays_100 rfl rfl rfl rfl ?_
    refine gx_goto 7 dX11_laysWays_103 (by decide) ?_
    refine gx_sub [0, 1, 2, 3] (lv' := [(0, .ref 59), (1, .int x1), (2, .int x2), (3, .int (x3 + 1))]) rfl ?_
    exact h
  · replace h := h.2 z
    refine gx_aload_n 0 dX11_laysWays_47 rfl rfl ?_
    refine gx_getr 11 18 (v := 65) dX11_laysWays_48 fl_X11_33 rfl rfl rfl ?_
    refine gx_iload_n 3 dX11_laysWays_51 rfl rfl ?_
    refine gx_dup2 dX11_laysWays_52 rfl rfl ?_
    obtain ⟨hi, h⟩ := h
    refine gx_lald (v := (L 65 (Int32.toNatClampNeg x3))) dX11_laysWays_53 rfl rfl hi (k := (Int32.toNatClampNeg x3)) rfl rfl ?_
    refine gx_iload 5 dX11_laysWays_54 rfl ?_
    refine gx_iload_n 2 dX11_laysWays_56 rfl rfl ?_
    refine gx_icmp_ne 69 dX11_laysWays_57 (by decide) ⟨fun z => ?_, fun z => ?_⟩
    · replace h := h.1 z
      refine gx_aload_n 0 dX11_laysWays_60 rfl rfl ?_
      refine gx_iload 5 dX11_laysWays_61 rfl ?_
      refine gx_callV 11 (As := [.int x5]) (st := [.long (L 65 (Int32.toNatClampNeg x3)), .int x3, .ref 65]) dX11_laysWays_63 ml_X11_228 mm_X11_byGoal rfl rfl rfl rfl rfl rfl ⟨rfl, rfl⟩ h (fun v h2 hq => ?_)
      clear h
      obtain ⟨r4, I1, L2, c3, rfl, rfl, h⟩ := hq
      show Z_M_laysWays g Q 66 [(0, .ref 59), (1, .int x1), (2, .int x2), (3, .int x3), (4, .int x4), (5, .int x5)] [.long r4, .long (L 65 (Int32.toNatClampNeg x3)), .int x3, .ref 65] I1 L2 c3
      refine gx_goto 77 dX11_laysWays_66 (by decide) ?_
      refine gx_lmul dX11_laysWays_77 ?_
      obtain ⟨hi, h⟩ := h
      refine gx_last dX11_laysWays_78 rfl rfl hi (k := (Int32.toNatClampNeg x3)) rfl ?_
      show Z_M_laysWays g Q 79 [(0, .ref 59), (1, .int x1), (2, .int x2), (3, .int x3), (4, .int x4), (5, .int x5)] [] I1 (gm_u L2 65 (Int32.toNatClampNeg x3) ((L 65 (Int32.toNatClampNeg x3)) * r4)) c3
      refine gx_iinc (v := (x5 + 1)) (lv' := [(0, .ref 59), (1, .int x1), (2, .int x2), (3, .int x3), (4, .int x4), (5, .int (x5 + 1))]) 5 dX11_laysWays_79 rfl rfl rfl rfl ?_
      refine gx_goto 41 dX11_laysWays_82 (by decide) ?_
      exact h
    · replace h := h.2 z
      refine gx_aload_n 0 dX11_laysWays_69 rfl rfl ?_
      refine gx_iload 5 dX11_laysWays_70 rfl ?_
      refine gx_iload 4 dX11_laysWays_72 rfl ?_
      refine gx_callV 11 (As := [.int x5, .int x4]) (st := [.long (L 65 (Int32.toNatClampNeg x3)), .int x3, .ref 65]) dX11_laysWays_74 ml_X11_243 mm_X11_chanceOf rfl rfl rfl rfl rfl rfl ⟨rfl, rfl⟩ h (fun v h2 hq => ?_)
      clear h
      obtain ⟨r8, I5, L6, c7, rfl, rfl, h⟩ := hq
      show Z_M_laysWays g Q 77 [(0, .ref 59), (1, .int x1), (2, .int x2), (3, .int x3), (4, .int x4), (5, .int x5)] [.long r8, .long (L 65 (Int32.toNatClampNeg x3)), .int x3, .ref 65] I5 L6 c7
      refine gx_lmul dX11_laysWays_77 ?_
      obtain ⟨hi, h⟩ := h
      refine gx_last dX11_laysWays_78 rfl rfl hi (k := (Int32.toNatClampNeg x3)) rfl ?_
      show Z_M_laysWays g Q 79 [(0, .ref 59), (1, .int x1), (2, .int x2), (3, .int x3), (4, .int x4), (5, .int x5)] [] I5 (gm_u L6 65 (Int32.toNatClampNeg x3) ((L 65 (Int32.toNatClampNeg x3)) * r8)) c7
      refine gx_iinc (v := (x5 + 1)) (lv' := [(0, .ref 59), (1, .int x1), (2, .int x2), (3, .int x3), (4, .int x4), (5, .int (x5 + 1))]) 5 dX11_laysWays_79 rfl rfl rfl rfl ?_
      refine gx_goto 41 dX11_laysWays_82 (by decide) ?_
      exact h
abbrev Z_M_odds (g : gm_G) (Q : Int64 → mI → mL → gm_cfg → Prop) (pc : Nat) (lv : List (Nat × Value)) (st : List Value) (I : mI) (L : mL) (c : gm_cfg) : Prop := gm_X g RX11 "odds" cX11_odds 3 (some .long) 7 0 0 (qL Q) 0 0 pc lv st (SH, I, L, RR c)
abbrev C_M_odds (g : gm_G) (x1 : Int32) (x2 : Int32) (I : mI) (L : mL) (c : gm_cfg) (Q : Int64 → mI → mL → gm_cfg → Prop) : Prop := gm_Met g yX11_odds cX11_odds 3 (some .long) 7 0 0 [.ref 59, .int x1, .int x2] (SH, I, L, RR c) (qL Q)
set_option maxRecDepth 100000 in
theorem e_M_odds {g : gm_G} {Q : Int64 → mI → mL → gm_cfg → Prop} {x1 x2 : Int32} {I : mI} {L : mL} {c : gm_cfg} (h : (C_M_isGrid g x1 (gm_u I 59 0 0) L c (fun b4 I1 L2 c3 => ((b4 = false → Q (-3) I1 L2 c3) ∧ (b4 = true → (C_M_isMany g x2 I1 L2 c3 (fun b8 I5 L6 c7 => ((b8 = false → Q (-3) I5 L6 c7) ∧ (b8 = true → (C_M_laysWays g x2 (-1) I5 L6 c7 (fun I9 L10 c11 => (vp_in (x1 - (I9 60 2)) 200 ∧ Q (L10 65 (Int32.toNatClampNeg (x1 - (I9 60 2)))) I9 L10 c11)))))))))))) : C_M_odds g x1 x2 I L c Q := by
  refine gm_enter (lv := [(0, .ref 59), (1, .int x1), (2, .int x2)]) (by decide) rfl rfl rfl rfl ?_
  show Z_M_odds g Q 0 [(0, .ref 59), (1, .int x1), (2, .int x2)] [] I L c
  refine gx_aload_n 0 dX11_odds_0 rfl rfl ?_
  refine gx_iconst (v := 0) dX11_odds_1 (by decide) ?_
  refine gx_puti 11 0 dX11_odds_2 fl_X11_1 rfl rfl rfl ⟨rfl, rfl⟩ ?_
  show Z_M_odds g Q 5 [(0, .ref 59), (1, .int x1), (2, .int x2)] [] (gm_u I 59 0 0) L c
  refine gx_aload_n 0 dX11_odds_5 rfl rfl ?_
  refine gx_iload_n 1 dX11_odds_6 rfl rfl ?_
  refine gx_callV 11 (As := [.int x1]) (st := []) dX11_odds_7 ml_X11_165 mm_X11_isGrid rfl rfl rfl rfl rfl rfl ⟨rfl, rfl⟩ h (fun v h2 hq => ?_)
  clear h
  obtain ⟨b4, I1, L2, c3, rfl, rfl, h⟩ := hq
  show Z_M_odds g Q 10 [(0, .ref 59), (1, .int x1), (2, .int x2)] [.int (gm_b b4)] I1 L2 c3
  refine gx_if_eq 21 dX11_odds_10 (by decide) ⟨fun z => ?_, fun z => ?_⟩
  · replace h := h.1 (gm_b0.mp z)
    refine gx_ldc2 dX11_odds_21 kl_X11_250 ?_
    exact gx_lret dX11_odds_24 rfl rfl rfl ⟨_, _, _, _, rfl, rfl, h⟩
  · replace h := h.2 (gm_bn0 z)
    refine gx_aload_n 0 dX11_odds_13 rfl rfl ?_
    refine gx_iload_n 2 dX11_odds_14 rfl rfl ?_
    refine gx_callV 11 (As := [.int x2]) (st := []) dX11_odds_15 ml_X11_247 mm_X11_isMany rfl rfl rfl rfl rfl rfl ⟨rfl, rfl⟩ h (fun v h2 hq => ?_)
    clear h
    obtain ⟨b8, I5, L6, c7, rfl, rfl, h⟩ := hq
    show Z_M_odds g Q 18 [(0, .ref 59), (1, .int x1), (2, .int x2)] [.int (gm_b b8)] I5 L6 c7
    refine gx_if_ne 25 dX11_odds_18 (by decide) ⟨fun z => ?_, fun z => ?_⟩
    · replace h := h.1 (gm_b0.mp z)
      refine gx_ldc2 dX11_odds_21 kl_X11_250 ?_
      exact gx_lret dX11_odds_24 rfl rfl rfl ⟨_, _, _, _, rfl, rfl, h⟩
    · replace h := h.2 (gm_bn0 z)
      refine gx_aload_n 0 dX11_odds_25 rfl rfl ?_
      refine gx_iload_n 2 dX11_odds_26 rfl rfl ?_
      refine gx_iconst (v := (-1)) dX11_odds_27 (by decide) ?_
      refine gx_callV 11 (As := [.int x2, .int (-1)]) (st := []) dX11_odds_28 ml_X11_252 mm_X11_laysWays rfl rfl rfl rfl rfl rfl ⟨rfl, rfl⟩ h (fun v h2 hq => ?_)
      clear h
      obtain ⟨I9, L10, c11, rfl, rfl, h⟩ := hq
      show Z_M_odds g Q 31 [(0, .ref 59), (1, .int x1), (2, .int x2)] [] I9 L10 c11
      refine gx_aload_n 0 dX11_odds_31 rfl rfl ?_
      refine gx_getr 11 18 (v := 65) dX11_odds_32 fl_X11_33 rfl rfl rfl ?_
      refine gx_iload_n 1 dX11_odds_35 rfl rfl ?_
      refine gx_aload_n 0 dX11_odds_36 rfl rfl ?_
      refine gx_getr 11 1 (v := 60) dX11_odds_37 fl_X11_13 rfl rfl rfl ?_
      refine gx_iconst (v := 2) dX11_odds_40 (by decide) ?_
      refine gx_iald (v := (I9 60 2)) dX11_odds_41 rfl rfl (gm_vin rfl) (k := 2) rfl rfl ?_
      refine gx_isub dX11_odds_42 ?_
      obtain ⟨hi, h⟩ := h
      refine gx_lald (v := (L10 65 (Int32.toNatClampNeg (x1 - (I9 60 2))))) dX11_odds_43 rfl rfl hi (k := (Int32.toNatClampNeg (x1 - (I9 60 2)))) rfl rfl ?_
      exact gx_lret dX11_odds_44 rfl rfl rfl ⟨_, _, _, _, rfl, rfl, h⟩
abbrev Z_M_out (g : gm_G) (Q : Int64 → mI → mL → gm_cfg → Prop) (pc : Nat) (lv : List (Nat × Value)) (st : List Value) (I : mI) (L : mL) (c : gm_cfg) : Prop := gm_X g RX11 "out" cX11_out 2 (some .long) 7 0 0 (qL Q) 0 0 pc lv st (SH, I, L, RR c)
abbrev C_M_out (g : gm_G) (x1 : Int32) (I : mI) (L : mL) (c : gm_cfg) (Q : Int64 → mI → mL → gm_cfg → Prop) : Prop := gm_Met g yX11_out cX11_out 2 (some .long) 7 0 0 [.ref 59, .int x1] (SH, I, L, RR c) (qL Q)
set_option maxRecDepth 100000 in
theorem e_M_out {g : gm_G} {Q : Int64 → mI → mL → gm_cfg → Prop} {x1 : Int32} {I : mI} {L : mL} {c : gm_cfg} (h : (C_M_isMany g x1 (gm_u I 59 0 0) L c (fun b4 I1 L2 c3 => ((b4 = false → Q (-3) I1 L2 c3) ∧ (b4 = true → (C_M_laysWays g x1 (-1) I1 L2 c3 (fun I5 L6 c7 => Q (L6 59 19) I5 L6 c7))))))) : C_M_out g x1 I L c Q := by
  refine gm_enter (lv := [(0, .ref 59), (1, .int x1)]) (by decide) rfl rfl rfl rfl ?_
  show Z_M_out g Q 0 [(0, .ref 59), (1, .int x1)] [] I L c
  refine gx_aload_n 0 dX11_out_0 rfl rfl ?_
  refine gx_iconst (v := 0) dX11_out_1 (by decide) ?_
  refine gx_puti 11 0 dX11_out_2 fl_X11_1 rfl rfl rfl ⟨rfl, rfl⟩ ?_
  show Z_M_out g Q 5 [(0, .ref 59), (1, .int x1)] [] (gm_u I 59 0 0) L c
  refine gx_aload_n 0 dX11_out_5 rfl rfl ?_
  refine gx_iload_n 1 dX11_out_6 rfl rfl ?_
  refine gx_callV 11 (As := [.int x1]) (st := []) dX11_out_7 ml_X11_247 mm_X11_isMany rfl rfl rfl rfl rfl rfl ⟨rfl, rfl⟩ h (fun v h2 hq => ?_)
  clear h
  obtain ⟨b4, I1, L2, c3, rfl, rfl, h⟩ := hq
  show Z_M_out g Q 10 [(0, .ref 59), (1, .int x1)] [.int (gm_b b4)] I1 L2 c3
  refine gx_if_ne 17 dX11_out_10 (by decide) ⟨fun z => ?_, fun z => ?_⟩
  · replace h := h.1 (gm_b0.mp z)
    refine gx_ldc2 dX11_out_13 kl_X11_250 ?_
    exact gx_lret dX11_out_16 rfl rfl rfl ⟨_, _, _, _, rfl, rfl, h⟩
  · replace h := h.2 (gm_bn0 z)
    refine gx_aload_n 0 dX11_out_17 rfl rfl ?_
    refine gx_iload_n 1 dX11_out_18 rfl rfl ?_
    refine gx_iconst (v := (-1)) dX11_out_19 (by decide) ?_
    refine gx_callV 11 (As := [.int x1, .int (-1)]) (st := []) dX11_out_20 ml_X11_252 mm_X11_laysWays rfl rfl rfl rfl rfl rfl ⟨rfl, rfl⟩ h (fun v h2 hq => ?_)
    clear h
    obtain ⟨I5, L6, c7, rfl, rfl, h⟩ := hq
    show Z_M_out g Q 23 [(0, .ref 59), (1, .int x1)] [] I5 L6 c7
    refine gx_aload_n 0 dX11_out_23 rfl rfl ?_
    refine gx_getl 11 19 (v := (L6 59 19)) dX11_out_24 fl_X11_236 rfl rfl rfl ?_
    exact gx_lret dX11_out_27 rfl rfl rfl ⟨_, _, _, _, rfl, rfl, h⟩
abbrev Z_M_likeliest (g : gm_G) (Q : Int32 → mI → mL → gm_cfg → Prop) (pc : Nat) (lv : List (Nat × Value)) (st : List Value) (I : mI) (L : mL) (c : gm_cfg) : Prop := gm_X g RX11 "likeliest" cX11_likeliest 4 (some .int) 7 0 0 (qI Q) 0 0 pc lv st (SH, I, L, RR c)
abbrev C_M_likeliest (g : gm_G) (x1 : Int32) (I : mI) (L : mL) (c : gm_cfg) (Q : Int32 → mI → mL → gm_cfg → Prop) : Prop := gm_Met g yX11_likeliest cX11_likeliest 4 (some .int) 7 0 0 [.ref 59, .int x1] (SH, I, L, RR c) (qI Q)
set_option maxRecDepth 100000 in
theorem e_M_likeliest {g : gm_G} {Q : Int32 → mI → mL → gm_cfg → Prop} {x1 : Int32} {I : mI} {L : mL} {c : gm_cfg} (h : (C_M_isMany g x1 (gm_u I 59 0 0) L c (fun b4 I1 L2 c3 => ((b4 = false → Q (-3) I1 L2 c3) ∧ (b4 = true → (C_M_laysWays g x1 (-1) I1 L2 c3 (fun I5 L6 c7 => Z_M_likeliest g Q 26 [(0, .ref 59), (1, .int x1), (2, .int 0), (3, .int 1)] [] I5 L6 c7))))))) : C_M_likeliest g x1 I L c Q := by
  refine gm_enter (lv := [(0, .ref 59), (1, .int x1)]) (by decide) rfl rfl rfl rfl ?_
  show Z_M_likeliest g Q 0 [(0, .ref 59), (1, .int x1)] [] I L c
  refine gx_aload_n 0 dX11_likeliest_0 rfl rfl ?_
  refine gx_iconst (v := 0) dX11_likeliest_1 (by decide) ?_
  refine gx_puti 11 0 dX11_likeliest_2 fl_X11_1 rfl rfl rfl ⟨rfl, rfl⟩ ?_
  show Z_M_likeliest g Q 5 [(0, .ref 59), (1, .int x1)] [] (gm_u I 59 0 0) L c
  refine gx_aload_n 0 dX11_likeliest_5 rfl rfl ?_
  refine gx_iload_n 1 dX11_likeliest_6 rfl rfl ?_
  refine gx_callV 11 (As := [.int x1]) (st := []) dX11_likeliest_7 ml_X11_247 mm_X11_isMany rfl rfl rfl rfl rfl rfl ⟨rfl, rfl⟩ h (fun v h2 hq => ?_)
  clear h
  obtain ⟨b4, I1, L2, c3, rfl, rfl, h⟩ := hq
  show Z_M_likeliest g Q 10 [(0, .ref 59), (1, .int x1)] [.int (gm_b b4)] I1 L2 c3
  refine gx_if_ne 16 dX11_likeliest_10 (by decide) ⟨fun z => ?_, fun z => ?_⟩
  · replace h := h.1 (gm_b0.mp z)
    refine gx_bipush (v := (-3)) dX11_likeliest_13 (by decide) ?_
    exact gx_iret dX11_likeliest_15 rfl rfl rfl ⟨_, _, _, _, rfl, rfl, h⟩
  · replace h := h.2 (gm_bn0 z)
    refine gx_aload_n 0 dX11_likeliest_16 rfl rfl ?_
    refine gx_iload_n 1 dX11_likeliest_17 rfl rfl ?_
    refine gx_iconst (v := (-1)) dX11_likeliest_18 (by decide) ?_
    refine gx_callV 11 (As := [.int x1, .int (-1)]) (st := []) dX11_likeliest_19 ml_X11_252 mm_X11_laysWays rfl rfl rfl rfl rfl rfl ⟨rfl, rfl⟩ h (fun v h2 hq => ?_)
    clear h
    obtain ⟨I5, L6, c7, rfl, rfl, h⟩ := hq
    show Z_M_likeliest g Q 22 [(0, .ref 59), (1, .int x1)] [] I5 L6 c7
    refine gx_iconst (v := 0) dX11_likeliest_22 (by decide) ?_
    refine gx_istore_n (lv' := [(0, .ref 59), (1, .int x1), (2, .int 0)]) dX11_likeliest_23 rfl rfl rfl ?_
    refine gx_iconst (v := 1) dX11_likeliest_24 (by decide) ?_
    refine gx_istore_n (lv' := [(0, .ref 59), (1, .int x1), (2, .int 0), (3, .int 1)]) dX11_likeliest_25 rfl rfl rfl ?_
    exact h
set_option maxRecDepth 100000 in
theorem r_M_likeliest_26 {g : gm_G} {Q : Int32 → mI → mL → gm_cfg → Prop} {x1 x2 x3 : Int32} {I : mI} {L : mL} {c : gm_cfg} (h : (C_M_gridMany g I L c (fun r4 I1 L2 c3 => ((r4 ≤ x3 → (((L2 59 19) = 0 → Q (-1) I1 L2 c3) ∧ (¬ (L2 59 19) = 0 → Q ((I1 60 2) + x2) I1 L2 c3))) ∧ (¬ r4 ≤ x3 → (vp_in x3 200 ∧ (vp_in x2 200 ∧ (((L2 65 (Int32.toNatClampNeg x3)) ≤ (L2 65 (Int32.toNatClampNeg x2)) → Z_M_likeliest g Q 26 [(0, .ref 59), (1, .int x1), (2, .int x2), (3, .int (x3 + 1))] [] I1 L2 c3) ∧ (¬ (L2 65 (Int32.toNatClampNeg x3)) ≤ (L2 65 (Int32.toNatClampNeg x2)) → Z_M_likeliest g Q 26 [(0, .ref 59), (1, .int x1), (2, .int x3), (3, .int (x3 + 1))] [] I1 L2 c3))))))))) : Z_M_likeliest g Q 26 [(0, .ref 59), (1, .int x1), (2, .int x2), (3, .int x3)] [] I L c := by
  refine gx_iload_n 3 dX11_likeliest_26 rfl rfl ?_
  refine gx_aload_n 0 dX11_likeliest_27 rfl rfl ?_
  refine gx_callV 11 (As := []) (st := [.int x3]) dX11_likeliest_28 ml_X11_240 mm_X11_gridMany rfl rfl rfl rfl rfl rfl ⟨rfl, rfl⟩ h (fun v h2 hq => ?_)
  clear h
  obtain ⟨r4, I1, L2, c3, rfl, rfl, h⟩ := hq
  show Z_M_likeliest g Q 31 [(0, .ref 59), (1, .int x1), (2, .int x2), (3, .int x3)] [.int r4, .int x3] I1 L2 c3
  refine gx_icmp_ge 58 dX11_likeliest_31 (by decide) ⟨fun z => ?_, fun z => ?_⟩
  · replace h := h.1 z
    refine gx_aload_n 0 dX11_likeliest_58 rfl rfl ?_
    refine gx_getl 11 19 (v := (L2 59 19)) dX11_likeliest_59 fl_X11_236 rfl rfl rfl ?_
    refine gx_lconst (v := 0) dX11_likeliest_62 (by decide) ?_
    refine gx_lcmp_ne 71 dX11_likeliest_63 dX11_likeliest_64 (by decide) ⟨fun z => ?_, fun z => ?_⟩
    · replace h := h.1 z
      refine gx_iconst (v := (-1)) dX11_likeliest_67 (by decide) ?_
      refine gx_goto 79 dX11_likeliest_68 (by decide) ?_
      exact gx_iret dX11_likeliest_79 rfl rfl rfl ⟨_, _, _, _, rfl, rfl, h⟩
    · replace h := h.2 z
      refine gx_aload_n 0 dX11_likeliest_71 rfl rfl ?_
      refine gx_getr 11 1 (v := 60) dX11_likeliest_72 fl_X11_13 rfl rfl rfl ?_
      refine gx_iconst (v := 2) dX11_likeliest_75 (by decide) ?_
      refine gx_iald (v := (I1 60 2)) dX11_likeliest_76 rfl rfl (gm_vin rfl) (k := 2) rfl rfl ?_
      refine gx_iload_n 2 dX11_likeliest_77 rfl rfl ?_
      refine gx_iadd dX11_likeliest_78 ?_
      exact gx_iret dX11_likeliest_79 rfl rfl rfl ⟨_, _, _, _, rfl, rfl, h⟩
  · replace h := h.2 z
    refine gx_aload_n 0 dX11_likeliest_34 rfl rfl ?_
    refine gx_getr 11 18 (v := 65) dX11_likeliest_35 fl_X11_33 rfl rfl rfl ?_
    refine gx_iload_n 3 dX11_likeliest_38 rfl rfl ?_
    obtain ⟨hi, h⟩ := h
    refine gx_lald (v := (L2 65 (Int32.toNatClampNeg x3))) dX11_likeliest_39 rfl rfl hi (k := (Int32.toNatClampNeg x3)) rfl rfl ?_
    refine gx_aload_n 0 dX11_likeliest_40 rfl rfl ?_
    refine gx_getr 11 18 (v := 65) dX11_likeliest_41 fl_X11_33 rfl rfl rfl ?_
    refine gx_iload_n 2 dX11_likeliest_44 rfl rfl ?_
    obtain ⟨hi, h⟩ := h
    refine gx_lald (v := (L2 65 (Int32.toNatClampNeg x2))) dX11_likeliest_45 rfl rfl hi (k := (Int32.toNatClampNeg x2)) rfl rfl ?_
    refine gx_lcmp_le 52 dX11_likeliest_46 dX11_likeliest_47 (by decide) ⟨fun z => ?_, fun z => ?_⟩
    · replace h := h.1 z
      refine gx_iinc (v := (x3 + 1)) (lv' := [(0, .ref 59), (1, .int x1), (2, .int x2), (3, .int (x3 + 1))]) 3 dX11_likeliest_52 rfl rfl rfl rfl ?_
      refine gx_goto 26 dX11_likeliest_55 (by decide) ?_
      exact h
    · replace h := h.2 z
      refine gx_iload_n 3 dX11_likeliest_50 rfl rfl ?_
      refine gx_istore_n (lv' := [(0, .ref 59), (1, .int x1), (2, .int x3), (3, .int x3)]) dX11_likeliest_51 rfl rfl rfl ?_
      refine gx_iinc (v := (x3 + 1)) (lv' := [(0, .ref 59), (1, .int x1), (2, .int x3), (3, .int (x3 + 1))]) 3 dX11_likeliest_52 rfl rfl rfl rfl ?_
      refine gx_goto 26 dX11_likeliest_55 (by decide) ?_
      exact h
abbrev Z_M_span (g : gm_G) (Q : Int32 → mI → mL → gm_cfg → Prop) (pc : Nat) (lv : List (Nat × Value)) (st : List Value) (I : mI) (L : mL) (c : gm_cfg) : Prop := gm_X g RX11 "span" cX11_span 7 (some .int) 7 0 0 (qI Q) 0 0 pc lv st (SH, I, L, RR c)
abbrev C_M_span (g : gm_G) (x1 : Int32) (x2 : Int32) (I : mI) (L : mL) (c : gm_cfg) (Q : Int32 → mI → mL → gm_cfg → Prop) : Prop := gm_Met g yX11_span cX11_span 7 (some .int) 7 0 0 [.ref 59, .int x1, .int x2] (SH, I, L, RR c) (qI Q)
set_option maxRecDepth 100000 in
theorem e_M_span {g : gm_G} {Q : Int32 → mI → mL → gm_cfg → Prop} {x1 x2 : Int32} {I : mI} {L : mL} {c : gm_cfg} (h : (C_M_within g (Int32.toInt64 x2) 0 2 (gm_u I 59 0 0) L c (fun b4 I1 L2 c3 => ((b4 = false → Q (-2) I1 L2 c3) ∧ (b4 = true → (C_M_isMany g x1 I1 L2 c3 (fun b8 I5 L6 c7 => ((b8 = false → Q (-3) I5 L6 c7) ∧ (b8 = true → (C_M_laysWays g x1 (-1) I5 L6 c7 (fun I9 L10 c11 => Z_M_span g Q 48 [(0, .ref 59), (1, .int x1), (2, .int x2), (3, .int 0), (4, .int (-1)), (5, .int (-1)), (6, .int 0)] [] I9 L10 c11))))))))))) : C_M_span g x1 x2 I L c Q := by
  refine gm_enter (lv := [(0, .ref 59), (1, .int x1), (2, .int x2)]) (by decide) rfl rfl rfl rfl ?_
  show Z_M_span g Q 0 [(0, .ref 59), (1, .int x1), (2, .int x2)] [] I L c
  refine gx_aload_n 0 dX11_span_0 rfl rfl ?_
  refine gx_iconst (v := 0) dX11_span_1 (by decide) ?_
  refine gx_puti 11 0 dX11_span_2 fl_X11_1 rfl rfl rfl ⟨rfl, rfl⟩ ?_
  show Z_M_span g Q 5 [(0, .ref 59), (1, .int x1), (2, .int x2)] [] (gm_u I 59 0 0) L c
  refine gx_iload_n 2 dX11_span_5 rfl rfl ?_
  refine gx_i2l dX11_span_6 ?_
  refine gx_lconst (v := 0) dX11_span_7 (by decide) ?_
  refine gx_ldc2 dX11_span_8 kl_X11_196 ?_
  refine gx_callS (As := [.long (Int32.toInt64 x2), .long 0, .long 2]) (st := []) dX11_span_11 ml_X11_125 mm_X11_within rfl rfl rfl rfl ⟨rfl, rfl⟩ h (fun v h2 hq => ?_)
  clear h
  obtain ⟨b4, I1, L2, c3, rfl, rfl, h⟩ := hq
  show Z_M_span g Q 14 [(0, .ref 59), (1, .int x1), (2, .int x2)] [.int (gm_b b4)] I1 L2 c3
  refine gx_if_ne 20 dX11_span_14 (by decide) ⟨fun z => ?_, fun z => ?_⟩
  · replace h := h.1 (gm_b0.mp z)
    refine gx_bipush (v := (-2)) dX11_span_17 (by decide) ?_
    exact gx_iret dX11_span_19 rfl rfl rfl ⟨_, _, _, _, rfl, rfl, h⟩
  · replace h := h.2 (gm_bn0 z)
    refine gx_aload_n 0 dX11_span_20 rfl rfl ?_
    refine gx_iload_n 1 dX11_span_21 rfl rfl ?_
    refine gx_callV 11 (As := [.int x1]) (st := []) dX11_span_22 ml_X11_247 mm_X11_isMany rfl rfl rfl rfl rfl rfl ⟨rfl, rfl⟩ h (fun v h2 hq => ?_)
    clear h
    obtain ⟨b8, I5, L6, c7, rfl, rfl, h⟩ := hq
    show Z_M_span g Q 25 [(0, .ref 59), (1, .int x1), (2, .int x2)] [.int (gm_b b8)] I5 L6 c7
    refine gx_if_ne 31 dX11_span_25 (by decide) ⟨fun z => ?_, fun z => ?_⟩
    · replace h := h.1 (gm_b0.mp z)
      refine gx_bipush (v := (-3)) dX11_span_28 (by decide) ?_
      exact gx_iret dX11_span_30 rfl rfl rfl ⟨_, _, _, _, rfl, rfl, h⟩
    · replace h := h.2 (gm_bn0 z)
      refine gx_aload_n 0 dX11_span_31 rfl rfl ?_
      refine gx_iload_n 1 dX11_span_32 rfl rfl ?_
      refine gx_iconst (v := (-1)) dX11_span_33 (by decide) ?_
      refine gx_callV 11 (As := [.int x1, .int (-1)]) (st := []) dX11_span_34 ml_X11_252 mm_X11_laysWays rfl rfl rfl rfl rfl rfl ⟨rfl, rfl⟩ h (fun v h2 hq => ?_)
      clear h
      obtain ⟨I9, L10, c11, rfl, rfl, h⟩ := hq
      show Z_M_span g Q 37 [(0, .ref 59), (1, .int x1), (2, .int x2)] [] I9 L10 c11
      refine gx_iconst (v := 0) dX11_span_37 (by decide) ?_
      refine gx_istore_n (lv' := [(0, .ref 59), (1, .int x1), (2, .int x2), (3, .int 0)]) dX11_span_38 rfl rfl rfl ?_
      refine gx_iconst (v := (-1)) dX11_span_39 (by decide) ?_
      refine gx_istore (lv' := [(0, .ref 59), (1, .int x1), (2, .int x2), (3, .int 0), (4, .int (-1))]) dX11_span_40 rfl rfl ?_
      refine gx_iconst (v := (-1)) dX11_span_42 (by decide) ?_
      refine gx_istore (lv' := [(0, .ref 59), (1, .int x1), (2, .int x2), (3, .int 0), (4, .int (-1)), (5, .int (-1))]) dX11_span_43 rfl rfl ?_
      refine gx_iconst (v := 0) dX11_span_45 (by decide) ?_
      refine gx_istore (lv' := [(0, .ref 59), (1, .int x1), (2, .int x2), (3, .int 0), (4, .int (-1)), (5, .int (-1)), (6, .int 0)]) dX11_span_46 rfl rfl ?_
      exact h
set_option maxRecDepth 100000 in
theorem r_M_span_48 {g : gm_G} {Q : Int32 → mI → mL → gm_cfg → Prop} {x1 x2 x3 x4 x5 x6 : Int32} {I : mI} {L : mL} {c : gm_cfg} (h : (C_M_gridMany g I L c (fun r4 I1 L2 c3 => ((r4 ≤ x6 → ((x2 = 0 → Q x4 I1 L2 c3) ∧ (¬ x2 = 0 → ((x2 = 1 → Q x5 I1 L2 c3) ∧ (¬ x2 = 1 → Q x3 I1 L2 c3))))) ∧ (¬ r4 ≤ x6 → (vp_in x6 200 ∧ (((L2 65 (Int32.toNatClampNeg x6)) = 0 → Z_M_span g Q 48 [(0, .ref 59), (1, .int x1), (2, .int x2), (3, .int x3), (4, .int x4), (5, .int x5), (6, .int (x6 + 1))] [] I1 L2 c3) ∧ (¬ (L2 65 (Int32.toNatClampNeg x6)) = 0 → ((x4 = (-1) → Z_M_span g Q 48 [(0, .ref 59), (1, .int x1), (2, .int x2), (3, .int (x3 + 1)), (4, .int ((I1 60 2) + x6)), (5, .int ((I1 60 2) + x6)), (6, .int (x6 + 1))] [] I1 L2 c3) ∧ (¬ x4 = (-1) → Z_M_span g Q 48 [(0, .ref 59), (1, .int x1), (2, .int x2), (3, .int (x3 + 1)), (4, .int x4), (5, .int ((I1 60 2) + x6)), (6, .int (x6 + 1))] [] I1 L2 c3)))))))))) : Z_M_span g Q 48 [(0, .ref 59), (1, .int x1), (2, .int x2), (3, .int x3), (4, .int x4), (5, .int x5), (6, .int x6)] [] I L c := by
  refine gx_iload 6 dX11_span_48 rfl ?_
  refine gx_aload_n 0 dX11_span_50 rfl rfl ?_
  refine gx_callV 11 (As := []) (st := [.int x6]) dX11_span_51 ml_X11_240 mm_X11_gridMany rfl rfl rfl rfl rfl rfl ⟨rfl, rfl⟩ h (fun v h2 hq => ?_)
  clear h
  obtain ⟨r4, I1, L2, c3, rfl, rfl, h⟩ := hq
  show Z_M_span g Q 54 [(0, .ref 59), (1, .int x1), (2, .int x2), (3, .int x3), (4, .int x4), (5, .int x5), (6, .int x6)] [.int r4, .int x6] I1 L2 c3
  refine gx_icmp_ge 114 dX11_span_54 (by decide) ⟨fun z => ?_, fun z => ?_⟩
  · replace h := h.1 z
    refine gx_iload_n 2 dX11_span_114 rfl rfl ?_
    refine gx_if_ne 123 dX11_span_115 (by decide) ⟨fun z => ?_, fun z => ?_⟩
    · replace h := h.1 z
      refine gx_iload 4 dX11_span_118 rfl ?_
      refine gx_goto 134 dX11_span_120 (by decide) ?_
      exact gx_iret dX11_span_134 rfl rfl rfl ⟨_, _, _, _, rfl, rfl, h⟩
    · replace h := h.2 z
      refine gx_iload_n 2 dX11_span_123 rfl rfl ?_
      refine gx_iconst (v := 1) dX11_span_124 (by decide) ?_
      refine gx_icmp_ne 133 dX11_span_125 (by decide) ⟨fun z => ?_, fun z => ?_⟩
      · replace h := h.1 z
        refine gx_iload 5 dX11_span_128 rfl ?_
        refine gx_goto 134 dX11_span_130 (by decide) ?_
        exact gx_iret dX11_span_134 rfl rfl rfl ⟨_, _, _, _, rfl, rfl, h⟩
      · replace h := h.2 z
        refine gx_iload_n 3 dX11_span_133 rfl rfl ?_
        exact gx_iret dX11_span_134 rfl rfl rfl ⟨_, _, _, _, rfl, rfl, h⟩
  · replace h := h.2 z
    refine gx_aload_n 0 dX11_span_57 rfl rfl ?_
    refine gx_getr 11 18 (v := 65) dX11_span_58 fl_X11_33 rfl rfl rfl ?_
    refine gx_iload 6 dX11_span_61 rfl ?_
    obtain ⟨hi, h⟩ := h
    refine gx_lald (v := (L2 65 (Int32.toNatClampNeg x6))) dX11_span_63 rfl rfl hi (k := (Int32.toNatClampNeg x6)) rfl rfl ?_
    refine gx_lconst (v := 0) dX11_span_64 (by decide) ?_
    refine gx_lcmp_ne 72 dX11_span_65 dX11_span_66 (by decide) ⟨fun z => ?_, fun z => ?_⟩
    · replace h := h.1 z
      refine gx_goto 108 dX11_span_69 (by decide) ?_
      refine gx_iinc (v := (x6 + 1)) (lv' := [(0, .ref 59), (1, .int x1), (2, .int x2), (3, .int x3), (4, .int x4), (5, .int x5), (6, .int (x6 + 1))]) 6 dX11_span_108 rfl rfl rfl rfl ?_
      refine gx_goto 48 dX11_span_111 (by decide) ?_
      exact h
    · replace h := h.2 z
      refine gx_iinc (v := (x3 + 1)) (lv' := [(0, .ref 59), (1, .int x1), (2, .int x2), (3, .int (x3 + 1)), (4, .int x4), (5, .int x5), (6, .int x6)]) 3 dX11_span_72 rfl rfl rfl rfl ?_
      refine gx_iload 4 dX11_span_75 rfl ?_
      refine gx_iconst (v := (-1)) dX11_span_77 (by decide) ?_
      refine gx_icmp_ne 93 dX11_span_78 (by decide) ⟨fun z => ?_, fun z => ?_⟩
      · replace h := h.1 z
        refine gx_aload_n 0 dX11_span_81 rfl rfl ?_
        refine gx_getr 11 1 (v := 60) dX11_span_82 fl_X11_13 rfl rfl rfl ?_
        refine gx_iconst (v := 2) dX11_span_85 (by decide) ?_
        refine gx_iald (v := (I1 60 2)) dX11_span_86 rfl rfl (gm_vin rfl) (k := 2) rfl rfl ?_
        refine gx_iload 6 dX11_span_87 rfl ?_
        refine gx_iadd dX11_span_89 ?_
        refine gx_goto 95 dX11_span_90 (by decide) ?_
        refine gx_istore (lv' := [(0, .ref 59), (1, .int x1), (2, .int x2), (3, .int (x3 + 1)), (4, .int ((I1 60 2) + x6)), (5, .int x5), (6, .int x6)]) dX11_span_95 rfl rfl ?_
        refine gx_aload_n 0 dX11_span_97 rfl rfl ?_
        refine gx_getr 11 1 (v := 60) dX11_span_98 fl_X11_13 rfl rfl rfl ?_
        refine gx_iconst (v := 2) dX11_span_101 (by decide) ?_
        refine gx_iald (v := (I1 60 2)) dX11_span_102 rfl rfl (gm_vin rfl) (k := 2) rfl rfl ?_
        refine gx_iload 6 dX11_span_103 rfl ?_
        refine gx_iadd dX11_span_105 ?_
        refine gx_istore (lv' := [(0, .ref 59), (1, .int x1), (2, .int x2), (3, .int (x3 + 1)), (4, .int ((I1 60 2) + x6)), (5, .int ((I1 60 2) + x6)), (6, .int x6)]) dX11_span_106 rfl rfl ?_
        refine gx_iinc (v := (x6 + 1)) (lv' := [(0, .ref 59), (1, .int x1), (2, .int x2), (3, .int (x3 + 1)), (4, .int ((I1 60 2) + x6)), (5, .int ((I1 60 2) + x6)), (6, .int (x6 + 1))]) 6 dX11_span_108 rfl rfl rfl rfl ?_
        refine gx_goto 48 dX11_span_111 (by decide) ?_
        exact h
      · replace h := h.2 z
        refine gx_iload 4 dX11_span_93 rfl ?_
        refine gx_istore (lv' := [(0, .ref 59), (1, .int x1), (2, .int x2), (3, .int (x3 + 1)), (4, .int x4), (5, .int x5), (6, .int x6)]) dX11_span_95 rfl rfl ?_
        refine gx_aload_n 0 dX11_span_97 rfl rfl ?_
        refine gx_getr 11 1 (v := 60) dX11_span_98 fl_X11_13 rfl rfl rfl ?_
        refine gx_iconst (v := 2) dX11_span_101 (by decide) ?_
        refine gx_iald (v := (I1 60 2)) dX11_span_102 rfl rfl (gm_vin rfl) (k := 2) rfl rfl ?_
        refine gx_iload 6 dX11_span_103 rfl ?_
        refine gx_iadd dX11_span_105 ?_
        refine gx_istore (lv' := [(0, .ref 59), (1, .int x1), (2, .int x2), (3, .int (x3 + 1)), (4, .int x4), (5, .int ((I1 60 2) + x6)), (6, .int x6)]) dX11_span_106 rfl rfl ?_
        refine gx_iinc (v := (x6 + 1)) (lv' := [(0, .ref 59), (1, .int x1), (2, .int x2), (3, .int (x3 + 1)), (4, .int x4), (5, .int ((I1 60 2) + x6)), (6, .int (x6 + 1))]) 6 dX11_span_108 rfl rfl rfl rfl ?_
        refine gx_goto 48 dX11_span_111 (by decide) ?_
        exact h
abbrev Z_M_expect (g : gm_G) (Q : Int64 → mI → mL → gm_cfg → Prop) (pc : Nat) (lv : List (Nat × Value)) (st : List Value) (I : mI) (L : mL) (c : gm_cfg) : Prop := gm_X g RX11 "expect" cX11_expect 9 (some .long) 7 0 0 (qL Q) 0 0 pc lv st (SH, I, L, RR c)
abbrev C_M_expect (g : gm_G) (x1 : Int32) (x2 : Int32) (I : mI) (L : mL) (c : gm_cfg) (Q : Int64 → mI → mL → gm_cfg → Prop) : Prop := gm_Met g yX11_expect cX11_expect 9 (some .long) 7 0 0 [.ref 59, .int x1, .int x2] (SH, I, L, RR c) (qL Q)
set_option maxRecDepth 100000 in
theorem e_M_expect {g : gm_G} {Q : Int64 → mI → mL → gm_cfg → Prop} {x1 x2 : Int32} {I : mI} {L : mL} {c : gm_cfg} (h : (C_M_within g (Int32.toInt64 x2) 0 2 (gm_u I 59 0 0) L c (fun b4 I1 L2 c3 => ((b4 = false → Q (-2) I1 L2 c3) ∧ (b4 = true → (C_M_isMany g x1 I1 L2 c3 (fun b8 I5 L6 c7 => ((b8 = false → Q (-3) I5 L6 c7) ∧ (b8 = true → (C_M_laysWays g x1 (-1) I5 L6 c7 (fun I9 L10 c11 => (((L10 59 19) = 0 → Q (-1) I9 L10 c11) ∧ (¬ (L10 59 19) = 0 → Z_M_expect g Q 63 [(0, .ref 59), (1, .int x1), (2, .int x2), (3, .long 0), (5, .long 0), (7, .int (-1)), (8, .int 0)] [] I9 L10 c11))))))))))))) : C_M_expect g x1 x2 I L c Q := by
  refine gm_enter (lv := [(0, .ref 59), (1, .int x1), (2, .int x2)]) (by decide) rfl rfl rfl rfl ?_
  show Z_M_expect g Q 0 [(0, .ref 59), (1, .int x1), (2, .int x2)] [] I L c
  refine gx_aload_n 0 dX11_expect_0 rfl rfl ?_
  refine gx_iconst (v := 0) dX11_expect_1 (by decide) ?_
  refine gx_puti 11 0 dX11_expect_2 fl_X11_1 rfl rfl rfl ⟨rfl, rfl⟩ ?_
  show Z_M_expect g Q 5 [(0, .ref 59), (1, .int x1), (2, .int x2)] [] (gm_u I 59 0 0) L c
  refine gx_iload_n 2 dX11_expect_5 rfl rfl ?_
  refine gx_i2l dX11_expect_6 ?_
  refine gx_lconst (v := 0) dX11_expect_7 (by decide) ?_
  refine gx_ldc2 dX11_expect_8 kl_X11_196 ?_
  refine gx_callS (As := [.long (Int32.toInt64 x2), .long 0, .long 2]) (st := []) dX11_expect_11 ml_X11_125 mm_X11_within rfl rfl rfl rfl ⟨rfl, rfl⟩ h (fun v h2 hq => ?_)
  clear h
  obtain ⟨b4, I1, L2, c3, rfl, rfl, h⟩ := hq
  show Z_M_expect g Q 14 [(0, .ref 59), (1, .int x1), (2, .int x2)] [.int (gm_b b4)] I1 L2 c3
  refine gx_if_ne 21 dX11_expect_14 (by decide) ⟨fun z => ?_, fun z => ?_⟩
  · replace h := h.1 (gm_b0.mp z)
    refine gx_ldc2 dX11_expect_17 kl_X11_255 ?_
    exact gx_lret dX11_expect_20 rfl rfl rfl ⟨_, _, _, _, rfl, rfl, h⟩
  · replace h := h.2 (gm_bn0 z)
    refine gx_aload_n 0 dX11_expect_21 rfl rfl ?_
    refine gx_iload_n 1 dX11_expect_22 rfl rfl ?_
    refine gx_callV 11 (As := [.int x1]) (st := []) dX11_expect_23 ml_X11_247 mm_X11_isMany rfl rfl rfl rfl rfl rfl ⟨rfl, rfl⟩ h (fun v h2 hq => ?_)
    clear h
    obtain ⟨b8, I5, L6, c7, rfl, rfl, h⟩ := hq
    show Z_M_expect g Q 26 [(0, .ref 59), (1, .int x1), (2, .int x2)] [.int (gm_b b8)] I5 L6 c7
    refine gx_if_ne 33 dX11_expect_26 (by decide) ⟨fun z => ?_, fun z => ?_⟩
    · replace h := h.1 (gm_b0.mp z)
      refine gx_ldc2 dX11_expect_29 kl_X11_250 ?_
      exact gx_lret dX11_expect_32 rfl rfl rfl ⟨_, _, _, _, rfl, rfl, h⟩
    · replace h := h.2 (gm_bn0 z)
      refine gx_aload_n 0 dX11_expect_33 rfl rfl ?_
      refine gx_iload_n 1 dX11_expect_34 rfl rfl ?_
      refine gx_iconst (v := (-1)) dX11_expect_35 (by decide) ?_
      refine gx_callV 11 (As := [.int x1, .int (-1)]) (st := []) dX11_expect_36 ml_X11_252 mm_X11_laysWays rfl rfl rfl rfl rfl rfl ⟨rfl, rfl⟩ h (fun v h2 hq => ?_)
      clear h
      obtain ⟨I9, L10, c11, rfl, rfl, h⟩ := hq
      show Z_M_expect g Q 39 [(0, .ref 59), (1, .int x1), (2, .int x2)] [] I9 L10 c11
      refine gx_aload_n 0 dX11_expect_39 rfl rfl ?_
      refine gx_getl 11 19 (v := (L10 59 19)) dX11_expect_40 fl_X11_236 rfl rfl rfl ?_
      refine gx_lconst (v := 0) dX11_expect_43 (by decide) ?_
      refine gx_lcmp_ne 52 dX11_expect_44 dX11_expect_45 (by decide) ⟨fun z => ?_, fun z => ?_⟩
      · replace h := h.1 z
        refine gx_ldc2 dX11_expect_48 kl_X11_257 ?_
        exact gx_lret dX11_expect_51 rfl rfl rfl ⟨_, _, _, _, rfl, rfl, h⟩
      · replace h := h.2 z
        refine gx_lconst (v := 0) dX11_expect_52 (by decide) ?_
        refine gx_lstore_n (lv' := [(0, .ref 59), (1, .int x1), (2, .int x2), (3, .long 0)]) dX11_expect_53 rfl rfl rfl ?_
        refine gx_lconst (v := 0) dX11_expect_54 (by decide) ?_
        refine gx_lstore (lv' := [(0, .ref 59), (1, .int x1), (2, .int x2), (3, .long 0), (5, .long 0)]) dX11_expect_55 rfl rfl ?_
        refine gx_iconst (v := (-1)) dX11_expect_57 (by decide) ?_
        refine gx_istore (lv' := [(0, .ref 59), (1, .int x1), (2, .int x2), (3, .long 0), (5, .long 0), (7, .int (-1))]) dX11_expect_58 rfl rfl ?_
        refine gx_iconst (v := 0) dX11_expect_60 (by decide) ?_
        refine gx_istore (lv' := [(0, .ref 59), (1, .int x1), (2, .int x2), (3, .long 0), (5, .long 0), (7, .int (-1)), (8, .int 0)]) dX11_expect_61 rfl rfl ?_
        exact h
set_option maxRecDepth 100000 in
theorem r_M_expect_63 {g : gm_G} {Q : Int64 → mI → mL → gm_cfg → Prop} {x1 x2 x7 x8 : Int32} {x3 x5 : Int64} {I : mI} {L : mL} {c : gm_cfg} (h : (C_M_gridMany g I L c (fun r4 I1 L2 c3 => ((r4 ≤ x8 → ((x2 = 0 → (¬ (L2 59 19) = 0 ∧ Q (x3 / (L2 59 19)) I1 L2 c3)) ∧ (¬ x2 = 0 → ((x2 = 1 → (¬ (L2 59 19) = 0 ∧ Q (x3 - x3 / (L2 59 19) * (L2 59 19)) I1 L2 c3)) ∧ (¬ x2 = 1 → Q (Int32.toInt64 x7) I1 L2 c3))))) ∧ (¬ r4 ≤ x8 → (vp_in x8 200 ∧ (vp_in x8 200 ∧ ((x7 = (-1) → (((2 * (x5 + (L2 65 (Int32.toNatClampNeg x8)))) < (L2 59 19) → Z_M_expect g Q 63 [(0, .ref 59), (1, .int x1), (2, .int x2), (3, .long (x3 + ((L2 65 (Int32.toNatClampNeg x8)) * (Int32.toInt64 ((I1 60 2) + x8))))), (5, .long (x5 + (L2 65 (Int32.toNatClampNeg x8)))), (7, .int x7), (8, .int (x8 + 1))] [] I1 L2 c3) ∧ (¬ (2 * (x5 + (L2 65 (Int32.toNatClampNeg x8)))) < (L2 59 19) → Z_M_expect g Q 63 [(0, .ref 59), (1, .int x1), (2, .int x2), (3, .long (x3 + ((L2 65 (Int32.toNatClampNeg x8)) * (Int32.toInt64 ((I1 60 2) + x8))))), (5, .long (x5 + (L2 65 (Int32.toNatClampNeg x8)))), (7, .int ((I1 60 2) + x8)), (8, .int (x8 + 1))] [] I1 L2 c3))) ∧ (¬ x7 = (-1) → Z_M_expect g Q 63 [(0, .ref 59), (1, .int x1), (2, .int x2), (3, .long (x3 + ((L2 65 (Int32.toNatClampNeg x8)) * (Int32.toInt64 ((I1 60 2) + x8))))), (5, .long (x5 + (L2 65 (Int32.toNatClampNeg x8)))), (7, .int x7), (8, .int (x8 + 1))] [] I1 L2 c3))))))))) : Z_M_expect g Q 63 [(0, .ref 59), (1, .int x1), (2, .int x2), (3, .long x3), (5, .long x5), (7, .int x7), (8, .int x8)] [] I L c := by
  refine gx_iload 6 dX11_expect_63 rfl ?_
  refine gx_aload_n 0 dX11_expect_65 rfl rfl ?_
  refine gx_callV 11 (As := []) (st := [.int x8]) dX11_expect_66 ml_X11_240 mm_X11_gridMany rfl rfl rfl rfl rfl rfl ⟨rfl, rfl⟩ h (fun v h2 hq => ?_)
  clear h
  obtain ⟨r4, I1, L2, c3, rfl, rfl, h⟩ := hq
  show Z_M_expect g Q 69 [(0, .ref 59), (1, .int x1), (2, .int x2), (3, .long x3), (5, .long x5), (7, .int x7), (8, .int x8)] [.int r4, .int x8] I1 L2 c3
  refine gx_icmp_ge 142 dX11_expect_69 (by decide) ⟨fun z => ?_, fun z => ?_⟩
  · replace h := h.1 z
    refine gx_iload_n 2 dX11_expect_142 rfl rfl ?_
    refine gx_if_ne 155 dX11_expect_143 (by decide) ⟨fun z => ?_, fun z => ?_⟩
    · replace h := h.1 z
      refine gx_lload_n 3 dX11_expect_146 rfl rfl ?_
      refine gx_aload_n 0 dX11_expect_147 rfl rfl ?_
      refine gx_getl 11 19 (v := (L2 59 19)) dX11_expect_148 fl_X11_236 rfl rfl rfl ?_
      obtain ⟨hn, h⟩ := h
      refine gx_ldiv dX11_expect_151 hn ?_
      refine gx_goto 172 dX11_expect_152 (by decide) ?_
      exact gx_lret dX11_expect_172 rfl rfl rfl ⟨_, _, _, _, rfl, rfl, h⟩
    · replace h := h.2 z
      refine gx_iload_n 2 dX11_expect_155 rfl rfl ?_
      refine gx_iconst (v := 1) dX11_expect_156 (by decide) ?_
      refine gx_icmp_ne 169 dX11_expect_157 (by decide) ⟨fun z => ?_, fun z => ?_⟩
      · replace h := h.1 z
        refine gx_lload_n 3 dX11_expect_160 rfl rfl ?_
        refine gx_aload_n 0 dX11_expect_161 rfl rfl ?_
        refine gx_getl 11 19 (v := (L2 59 19)) dX11_expect_162 fl_X11_236 rfl rfl rfl ?_
        obtain ⟨hn, h⟩ := h
        refine gx_lrem dX11_expect_165 hn ?_
        refine gx_goto 172 dX11_expect_166 (by decide) ?_
        exact gx_lret dX11_expect_172 rfl rfl rfl ⟨_, _, _, _, rfl, rfl, h⟩
      · replace h := h.2 z
        refine gx_iload 5 dX11_expect_169 rfl ?_
        refine gx_i2l dX11_expect_171 ?_
        exact gx_lret dX11_expect_172 rfl rfl rfl ⟨_, _, _, _, rfl, rfl, h⟩
  · replace h := h.2 z
    refine gx_lload_n 3 dX11_expect_72 rfl rfl ?_
    refine gx_aload_n 0 dX11_expect_73 rfl rfl ?_
    refine gx_getr 11 18 (v := 65) dX11_expect_74 fl_X11_33 rfl rfl rfl ?_
    refine gx_iload 6 dX11_expect_77 rfl ?_
    obtain ⟨hi, h⟩ := h
    refine gx_lald (v := (L2 65 (Int32.toNatClampNeg x8))) dX11_expect_79 rfl rfl hi (k := (Int32.toNatClampNeg x8)) rfl rfl ?_
    refine gx_aload_n 0 dX11_expect_80 rfl rfl ?_
    refine gx_getr 11 1 (v := 60) dX11_expect_81 fl_X11_13 rfl rfl rfl ?_
    refine gx_iconst (v := 2) dX11_expect_84 (by decide) ?_
    refine gx_iald (v := (I1 60 2)) dX11_expect_85 rfl rfl (gm_vin rfl) (k := 2) rfl rfl ?_
    refine gx_iload 6 dX11_expect_86 rfl ?_
    refine gx_iadd dX11_expect_88 ?_
    refine gx_i2l dX11_expect_89 ?_
    refine gx_lmul dX11_expect_90 ?_
    refine gx_ladd dX11_expect_91 ?_
    refine gx_lstore_n (lv' := [(0, .ref 59), (1, .int x1), (2, .int x2), (3, .long (x3 + ((L2 65 (Int32.toNatClampNeg x8)) * (Int32.toInt64 ((I1 60 2) + x8))))), (5, .long x5), (7, .int x7), (8, .int x8)]) dX11_expect_92 rfl rfl rfl ?_
    refine gx_lload 4 dX11_expect_93 rfl ?_
    refine gx_aload_n 0 dX11_expect_95 rfl rfl ?_
    refine gx_getr 11 18 (v := 65) dX11_expect_96 fl_X11_33 rfl rfl rfl ?_
    refine gx_iload 6 dX11_expect_99 rfl ?_
    obtain ⟨hi, h⟩ := h
    refine gx_lald (v := (L2 65 (Int32.toNatClampNeg x8))) dX11_expect_101 rfl rfl hi (k := (Int32.toNatClampNeg x8)) rfl rfl ?_
    refine gx_ladd dX11_expect_102 ?_
    refine gx_lstore (lv' := [(0, .ref 59), (1, .int x1), (2, .int x2), (3, .long (x3 + ((L2 65 (Int32.toNatClampNeg x8)) * (Int32.toInt64 ((I1 60 2) + x8))))), (5, .long (x5 + (L2 65 (Int32.toNatClampNeg x8)))), (7, .int x7), (8, .int x8)]) dX11_expect_103 rfl rfl ?_
    refine gx_iload 5 dX11_expect_105 rfl ?_
    refine gx_iconst (v := (-1)) dX11_expect_107 (by decide) ?_
    refine gx_icmp_ne 136 dX11_expect_108 (by decide) ⟨fun z => ?_, fun z => ?_⟩
    · replace h := h.1 z
      refine gx_ldc2 dX11_expect_111 kl_X11_196 ?_
      refine gx_lload 4 dX11_expect_114 rfl ?_
      refine gx_lmul dX11_expect_116 ?_
      refine gx_aload_n 0 dX11_expect_117 rfl rfl ?_
      refine gx_getl 11 19 (v := (L2 59 19)) dX11_expect_118 fl_X11_236 rfl rfl rfl ?_
      refine gx_lcmp_lt 136 dX11_expect_121 dX11_expect_122 (by decide) ⟨fun z => ?_, fun z => ?_⟩
      · replace h := h.1 z
        refine gx_iinc (v := (x8 + 1)) (lv' := [(0, .ref 59), (1, .int x1), (2, .int x2), (3, .long (x3 + ((L2 65 (Int32.toNatClampNeg x8)) * (Int32.toInt64 ((I1 60 2) + x8))))), (5, .long (x5 + (L2 65 (Int32.toNatClampNeg x8)))), (7, .int x7), (8, .int (x8 + 1))]) 6 dX11_expect_136 rfl rfl rfl rfl ?_
        refine gx_goto 63 dX11_expect_139 (by decide) ?_
        exact h
      · replace h := h.2 z
        refine gx_aload_n 0 dX11_expect_125 rfl rfl ?_
        refine gx_getr 11 1 (v := 60) dX11_expect_126 fl_X11_13 rfl rfl rfl ?_
        refine gx_iconst (v := 2) dX11_expect_129 (by decide) ?_
        refine gx_iald (v := (I1 60 2)) dX11_expect_130 rfl rfl (gm_vin rfl) (k := 2) rfl rfl ?_
        refine gx_iload 6 dX11_expect_131 rfl ?_
        refine gx_iadd dX11_expect_133 ?_
        refine gx_istore (lv' := [(0, .ref 59), (1, .int x1), (2, .int x2), (3, .long (x3 + ((L2 65 (Int32.toNatClampNeg x8)) * (Int32.toInt64 ((I1 60 2) + x8))))), (5, .long (x5 + (L2 65 (Int32.toNatClampNeg x8)))), (7, .int ((I1 60 2) + x8)), (8, .int x8)]) dX11_expect_134 rfl rfl ?_
        refine gx_iinc (v := (x8 + 1)) (lv' := [(0, .ref 59), (1, .int x1), (2, .int x2), (3, .long (x3 + ((L2 65 (Int32.toNatClampNeg x8)) * (Int32.toInt64 ((I1 60 2) + x8))))), (5, .long (x5 + (L2 65 (Int32.toNatClampNeg x8)))), (7, .int ((I1 60 2) + x8)), (8, .int (x8 + 1))]) 6 dX11_expect_136 rfl rfl rfl rfl ?_
        refine gx_goto 63 dX11_expect_139 (by decide) ?_
        exact h
    · replace h := h.2 z
      refine gx_iinc (v := (x8 + 1)) (lv' := [(0, .ref 59), (1, .int x1), (2, .int x2), (3, .long (x3 + ((L2 65 (Int32.toNatClampNeg x8)) * (Int32.toInt64 ((I1 60 2) + x8))))), (5, .long (x5 + (L2 65 (Int32.toNatClampNeg x8)))), (7, .int x7), (8, .int (x8 + 1))]) 6 dX11_expect_136 rfl rfl rfl rfl ?_
      refine gx_goto 63 dX11_expect_139 (by decide) ?_
      exact h
abbrev Z_M_copiedOf (g : gm_G) (Q : Int64 → mI → mL → gm_cfg → Prop) (pc : Nat) (lv : List (Nat × Value)) (st : List Value) (I : mI) (L : mL) (c : gm_cfg) : Prop := gm_X g RX11 "copiedOf" cX11_copiedOf 3 (some .long) 7 0 0 (qL Q) 0 0 pc lv st (SH, I, L, RR c)
abbrev C_M_copiedOf (g : gm_G) (x1 : Int32) (x2 : Int32) (I : mI) (L : mL) (c : gm_cfg) (Q : Int64 → mI → mL → gm_cfg → Prop) : Prop := gm_Met g yX11_copiedOf cX11_copiedOf 3 (some .long) 7 0 0 [.ref 59, .int x1, .int x2] (SH, I, L, RR c) (qL Q)
set_option maxRecDepth 100000 in
theorem e_M_copiedOf {g : gm_G} {Q : Int64 → mI → mL → gm_cfg → Prop} {x1 x2 : Int32} {I : mI} {L : mL} {c : gm_cfg} (h : (C_M_laysWays g x2 x1 I L c (fun I1 L2 c3 => Q (L2 59 19) I1 L2 c3))) : C_M_copiedOf g x1 x2 I L c Q := by
  refine gm_enter (lv := [(0, .ref 59), (1, .int x1), (2, .int x2)]) (by decide) rfl rfl rfl rfl ?_
  show Z_M_copiedOf g Q 0 [(0, .ref 59), (1, .int x1), (2, .int x2)] [] I L c
  refine gx_aload_n 0 dX11_copiedOf_0 rfl rfl ?_
  refine gx_iload_n 2 dX11_copiedOf_1 rfl rfl ?_
  refine gx_iload_n 1 dX11_copiedOf_2 rfl rfl ?_
  refine gx_callV 11 (As := [.int x2, .int x1]) (st := []) dX11_copiedOf_3 ml_X11_252 mm_X11_laysWays rfl rfl rfl rfl rfl rfl ⟨rfl, rfl⟩ h (fun v h2 hq => ?_)
  clear h
  obtain ⟨I1, L2, c3, rfl, rfl, h⟩ := hq
  show Z_M_copiedOf g Q 6 [(0, .ref 59), (1, .int x1), (2, .int x2)] [] I1 L2 c3
  refine gx_aload_n 0 dX11_copiedOf_6 rfl rfl ?_
  refine gx_getl 11 19 (v := (L2 59 19)) dX11_copiedOf_7 fl_X11_236 rfl rfl rfl ?_
  exact gx_lret dX11_copiedOf_10 rfl rfl rfl ⟨_, _, _, _, rfl, rfl, h⟩
abbrev Z_M_copied (g : gm_G) (Q : Int64 → mI → mL → gm_cfg → Prop) (pc : Nat) (lv : List (Nat × Value)) (st : List Value) (I : mI) (L : mL) (c : gm_cfg) : Prop := gm_X g RX11 "copied" cX11_copied 3 (some .long) 8 0 0 (qL Q) 0 0 pc lv st (SH, I, L, RR c)
abbrev C_M_copied (g : gm_G) (x1 : Int32) (x2 : Int32) (I : mI) (L : mL) (c : gm_cfg) (Q : Int64 → mI → mL → gm_cfg → Prop) : Prop := gm_Met g yX11_copied cX11_copied 3 (some .long) 8 0 0 [.ref 59, .int x1, .int x2] (SH, I, L, RR c) (qL Q)
set_option maxRecDepth 100000 in
theorem e_M_copied {g : gm_G} {Q : Int64 → mI → mL → gm_cfg → Prop} {x1 x2 : Int32} {I : mI} {L : mL} {c : gm_cfg} (h : (C_M_isMany g x2 (gm_u I 59 0 0) L c (fun b4 I1 L2 c3 => ((b4 = false → Q (-3) I1 L2 c3) ∧ (b4 = true → (C_M_within g (Int32.toInt64 x1) 0 (Int32.toInt64 (x2 - 1)) I1 L2 c3 (fun b8 I5 L6 c7 => ((b8 = false → Q (-2) I5 L6 c7) ∧ (b8 = true → (C_M_copiedOf g x1 x2 I5 L6 c7 (fun r12 I9 L10 c11 => Q r12 I9 L10 c11))))))))))) : C_M_copied g x1 x2 I L c Q := by
  refine gm_enter (lv := [(0, .ref 59), (1, .int x1), (2, .int x2)]) (by decide) rfl rfl rfl rfl ?_
  show Z_M_copied g Q 0 [(0, .ref 59), (1, .int x1), (2, .int x2)] [] I L c
  refine gx_aload_n 0 dX11_copied_0 rfl rfl ?_
  refine gx_iconst (v := 0) dX11_copied_1 (by decide) ?_
  refine gx_puti 11 0 dX11_copied_2 fl_X11_1 rfl rfl rfl ⟨rfl, rfl⟩ ?_
  show Z_M_copied g Q 5 [(0, .ref 59), (1, .int x1), (2, .int x2)] [] (gm_u I 59 0 0) L c
  refine gx_aload_n 0 dX11_copied_5 rfl rfl ?_
  refine gx_iload_n 2 dX11_copied_6 rfl rfl ?_
  refine gx_callV 11 (As := [.int x2]) (st := []) dX11_copied_7 ml_X11_247 mm_X11_isMany rfl rfl rfl rfl rfl rfl ⟨rfl, rfl⟩ h (fun v h2 hq => ?_)
  clear h
  obtain ⟨b4, I1, L2, c3, rfl, rfl, h⟩ := hq
  show Z_M_copied g Q 10 [(0, .ref 59), (1, .int x1), (2, .int x2)] [.int (gm_b b4)] I1 L2 c3
  refine gx_if_ne 17 dX11_copied_10 (by decide) ⟨fun z => ?_, fun z => ?_⟩
  · replace h := h.1 (gm_b0.mp z)
    refine gx_ldc2 dX11_copied_13 kl_X11_250 ?_
    exact gx_lret dX11_copied_16 rfl rfl rfl ⟨_, _, _, _, rfl, rfl, h⟩
  · replace h := h.2 (gm_bn0 z)
    refine gx_iload_n 1 dX11_copied_17 rfl rfl ?_
    refine gx_i2l dX11_copied_18 ?_
    refine gx_lconst (v := 0) dX11_copied_19 (by decide) ?_
    refine gx_iload_n 2 dX11_copied_20 rfl rfl ?_
    refine gx_iconst (v := 1) dX11_copied_21 (by decide) ?_
    refine gx_isub dX11_copied_22 ?_
    refine gx_i2l dX11_copied_23 ?_
    refine gx_callS (As := [.long (Int32.toInt64 x1), .long 0, .long (Int32.toInt64 (x2 - 1))]) (st := []) dX11_copied_24 ml_X11_125 mm_X11_within rfl rfl rfl rfl ⟨rfl, rfl⟩ h (fun v h2 hq => ?_)
    clear h
    obtain ⟨b8, I5, L6, c7, rfl, rfl, h⟩ := hq
    show Z_M_copied g Q 27 [(0, .ref 59), (1, .int x1), (2, .int x2)] [.int (gm_b b8)] I5 L6 c7
    refine gx_if_eq 39 dX11_copied_27 (by decide) ⟨fun z => ?_, fun z => ?_⟩
    · replace h := h.1 (gm_b0.mp z)
      refine gx_ldc2 dX11_copied_39 kl_X11_255 ?_
      exact gx_lret dX11_copied_42 rfl rfl rfl ⟨_, _, _, _, rfl, rfl, h⟩
    · replace h := h.2 (gm_bn0 z)
      refine gx_aload_n 0 dX11_copied_30 rfl rfl ?_
      refine gx_iload_n 1 dX11_copied_31 rfl rfl ?_
      refine gx_iload_n 2 dX11_copied_32 rfl rfl ?_
      refine gx_callV 11 (As := [.int x1, .int x2]) (st := []) dX11_copied_33 ml_X11_259 mm_X11_copiedOf rfl rfl rfl rfl rfl rfl ⟨rfl, rfl⟩ h (fun v h2 hq => ?_)
      clear h
      obtain ⟨r12, I9, L10, c11, rfl, rfl, h⟩ := hq
      show Z_M_copied g Q 36 [(0, .ref 59), (1, .int x1), (2, .int x2)] [.long r12] I9 L10 c11
      refine gx_goto 42 dX11_copied_36 (by decide) ?_
      exact gx_lret dX11_copied_42 rfl rfl rfl ⟨_, _, _, _, rfl, rfl, h⟩
abbrev Z_M_copier (g : gm_G) (Q : Int32 → mI → mL → gm_cfg → Prop) (pc : Nat) (lv : List (Nat × Value)) (st : List Value) (I : mI) (L : mL) (c : gm_cfg) : Prop := gm_X g RX11 "copier" cX11_copier 8 (some .int) 8 0 0 (qI Q) 0 0 pc lv st (SH, I, L, RR c)
abbrev C_M_copier (g : gm_G) (x1 : Int32) (I : mI) (L : mL) (c : gm_cfg) (Q : Int32 → mI → mL → gm_cfg → Prop) : Prop := gm_Met g yX11_copier cX11_copier 8 (some .int) 8 0 0 [.ref 59, .int x1] (SH, I, L, RR c) (qI Q)
set_option maxRecDepth 100000 in
theorem e_M_copier {g : gm_G} {Q : Int32 → mI → mL → gm_cfg → Prop} {x1 : Int32} {I : mI} {L : mL} {c : gm_cfg} (h : (C_M_isMany g x1 (gm_u I 59 0 0) L c (fun b4 I1 L2 c3 => ((b4 = false → Q (-3) I1 L2 c3) ∧ (b4 = true → Z_M_copier g Q 23 [(0, .ref 59), (1, .int x1), (2, .int (-1)), (3, .long 0), (5, .int 0)] [] I1 L2 c3))))) : C_M_copier g x1 I L c Q := by
  refine gm_enter (lv := [(0, .ref 59), (1, .int x1)]) (by decide) rfl rfl rfl rfl ?_
  show Z_M_copier g Q 0 [(0, .ref 59), (1, .int x1)] [] I L c
  refine gx_aload_n 0 dX11_copier_0 rfl rfl ?_
  refine gx_iconst (v := 0) dX11_copier_1 (by decide) ?_
  refine gx_puti 11 0 dX11_copier_2 fl_X11_1 rfl rfl rfl ⟨rfl, rfl⟩ ?_
  show Z_M_copier g Q 5 [(0, .ref 59), (1, .int x1)] [] (gm_u I 59 0 0) L c
  refine gx_aload_n 0 dX11_copier_5 rfl rfl ?_
  refine gx_iload_n 1 dX11_copier_6 rfl rfl ?_
  refine gx_callV 11 (As := [.int x1]) (st := []) dX11_copier_7 ml_X11_247 mm_X11_isMany rfl rfl rfl rfl rfl rfl ⟨rfl, rfl⟩ h (fun v h2 hq => ?_)
  clear h
  obtain ⟨b4, I1, L2, c3, rfl, rfl, h⟩ := hq
  show Z_M_copier g Q 10 [(0, .ref 59), (1, .int x1)] [.int (gm_b b4)] I1 L2 c3
  refine gx_if_ne 16 dX11_copier_10 (by decide) ⟨fun z => ?_, fun z => ?_⟩
  · replace h := h.1 (gm_b0.mp z)
    refine gx_bipush (v := (-3)) dX11_copier_13 (by decide) ?_
    exact gx_iret dX11_copier_15 rfl rfl rfl ⟨_, _, _, _, rfl, rfl, h⟩
  · replace h := h.2 (gm_bn0 z)
    refine gx_iconst (v := (-1)) dX11_copier_16 (by decide) ?_
    refine gx_istore_n (lv' := [(0, .ref 59), (1, .int x1), (2, .int (-1))]) dX11_copier_17 rfl rfl rfl ?_
    refine gx_lconst (v := 0) dX11_copier_18 (by decide) ?_
    refine gx_lstore_n (lv' := [(0, .ref 59), (1, .int x1), (2, .int (-1)), (3, .long 0)]) dX11_copier_19 rfl rfl rfl ?_
    refine gx_iconst (v := 0) dX11_copier_20 (by decide) ?_
    refine gx_istore (lv' := [(0, .ref 59), (1, .int x1), (2, .int (-1)), (3, .long 0), (5, .int 0)]) dX11_copier_21 rfl rfl ?_
    exact h
set_option maxRecDepth 100000 in
theorem r_M_copier_23 {g : gm_G} {Q : Int32 → mI → mL → gm_cfg → Prop} {x1 x2 x5 : Int32} {x3 : Int64} {I : mI} {L : mL} {c : gm_cfg} (h : ((x1 ≤ x5 → Q x2 I L c) ∧ (¬ x1 ≤ x5 → (C_M_copiedOf g x5 x1 I L c (fun r4 I1 L2 c3 => (((x3 : Int64) < r4 → Z_M_copier g Q 23 [(0, .ref 59), (1, .int x1), (2, .int x5), (3, .long r4), (5, .int (x5 + 1))] [] I1 L2 c3) ∧ (¬ (x3 : Int64) < r4 → Z_M_copier g Q 23 [(0, .ref 59), (1, .int x1), (2, .int x2), (3, .long x3), (5, .int (x5 + 1))] [] I1 L2 c3))))))) : Z_M_copier g Q 23 [(0, .ref 59), (1, .int x1), (2, .int x2), (3, .long x3), (5, .int x5)] [] I L c := by
  refine gx_iload 4 dX11_copier_23 rfl ?_
  refine gx_iload_n 1 dX11_copier_25 rfl rfl ?_
  refine gx_icmp_ge 60 dX11_copier_26 (by decide) ⟨fun z => ?_, fun z => ?_⟩
  · replace h := h.1 z
    refine gx_iload_n 2 dX11_copier_60 rfl rfl ?_
    exact gx_iret dX11_copier_61 rfl rfl rfl ⟨_, _, _, _, rfl, rfl, h⟩
  · replace h := h.2 z
    refine gx_aload_n 0 dX11_copier_29 rfl rfl ?_
    refine gx_iload 4 dX11_copier_30 rfl ?_
    refine gx_iload_n 1 dX11_copier_32 rfl rfl ?_
    refine gx_callV 11 (As := [.int x5, .int x1]) (st := []) dX11_copier_33 ml_X11_259 mm_X11_copiedOf rfl rfl rfl rfl rfl rfl ⟨rfl, rfl⟩ h (fun v h2 hq => ?_)
    clear h
    obtain ⟨r4, I1, L2, c3, rfl, rfl, h⟩ := hq
    show Z_M_copier g Q 36 [(0, .ref 59), (1, .int x1), (2, .int x2), (3, .long x3), (5, .int x5)] [.long r4] I1 L2 c3
    refine gx_lstore (lv' := [(0, .ref 59), (1, .int x1), (2, .int x2), (3, .long x3), (5, .int x5), (6, .long r4)]) dX11_copier_36 rfl rfl ?_
    refine gx_lload 5 dX11_copier_38 rfl ?_
    refine gx_lload_n 3 dX11_copier_40 rfl rfl ?_
    refine gx_lcmp_gt 48 dX11_copier_41 dX11_copier_42 (by decide) ⟨fun z => ?_, fun z => ?_⟩
    · replace h := h.1 z
      refine gx_lload 5 dX11_copier_48 rfl ?_
      refine gx_lstore_n (lv' := [(0, .ref 59), (1, .int x1), (2, .int x2), (3, .long r4), (5, .int x5), (6, .long r4)]) dX11_copier_50 rfl rfl rfl ?_
      refine gx_iload 4 dX11_copier_51 rfl ?_
      refine gx_istore_n (lv' := [(0, .ref 59), (1, .int x1), (2, .int x5), (3, .long r4), (5, .int x5), (6, .long r4)]) dX11_copier_53 rfl rfl rfl ?_
      refine gx_iinc (v := (x5 + 1)) (lv' := [(0, .ref 59), (1, .int x1), (2, .int x5), (3, .long r4), (5, .int (x5 + 1)), (6, .long r4)]) 4 dX11_copier_54 rfl rfl rfl rfl ?_
      refine gx_goto 23 dX11_copier_57 (by decide) ?_
      refine gx_sub [0, 1, 2, 3, 4] (lv' := [(0, .ref 59), (1, .int x1), (2, .int x5), (3, .long r4), (5, .int (x5 + 1))]) rfl ?_
      exact h
    · replace h := h.2 z
      refine gx_goto 54 dX11_copier_45 (by decide) ?_
      refine gx_iinc (v := (x5 + 1)) (lv' := [(0, .ref 59), (1, .int x1), (2, .int x2), (3, .long x3), (5, .int (x5 + 1)), (6, .long r4)]) 4 dX11_copier_54 rfl rfl rfl rfl ?_
      refine gx_goto 23 dX11_copier_57 (by decide) ?_
      refine gx_sub [0, 1, 2, 3, 4] (lv' := [(0, .ref 59), (1, .int x1), (2, .int x2), (3, .long x3), (5, .int (x5 + 1))]) rfl ?_
      exact h
abbrev Z_M_laysNear (g : gm_G) (Q : mI → mL → gm_cfg → Prop) (pc : Nat) (lv : List (Nat × Value)) (st : List Value) (I : mI) (L : mL) (c : gm_cfg) : Prop := gm_X g RX11 "laysNear" cX11_laysNear 3 none 2 0 0 (qV Q) 0 0 pc lv st (SH, I, L, RR c)
abbrev C_M_laysNear (g : gm_G) (I : mI) (L : mL) (c : gm_cfg) (Q : mI → mL → gm_cfg → Prop) : Prop := gm_Met g yX11_laysNear cX11_laysNear 3 none 2 0 0 [.ref 59] (SH, I, L, RR c) (qV Q)
set_option maxRecDepth 100000 in
theorem e_M_laysNear {g : gm_G} {Q : mI → mL → gm_cfg → Prop} {I : mI} {L : mL} {c : gm_cfg} (h : Z_M_laysNear g Q 2 [(0, .ref 59), (1, .int 0)] [] I L c) : C_M_laysNear g  I L c Q := by
  refine gm_enter (lv := [(0, .ref 59)]) (by decide) rfl rfl rfl rfl ?_
  show Z_M_laysNear g Q 0 [(0, .ref 59)] [] I L c
  refine gx_iconst (v := 0) dX11_laysNear_0 (by decide) ?_
  refine gx_istore_n (lv' := [(0, .ref 59), (1, .int 0)]) dX11_laysNear_1 rfl rfl rfl ?_
  exact h
set_option maxRecDepth 100000 in
theorem r_M_laysNear_2 {g : gm_G} {Q : mI → mL → gm_cfg → Prop} {x1 : Int32} {I : mI} {L : mL} {c : gm_cfg} (h : (C_M_gridMany g I L c (fun r4 I1 L2 c3 => ((r4 ≤ x1 → Q I1 L2 c3) ∧ (¬ r4 ≤ x1 → (vp_in x1 200 ∧ Z_M_laysNear g Q 21 [(0, .ref 59), (1, .int x1), (2, .int 0)] [] (gm_u I1 66 (Int32.toNatClampNeg x1) 9999) L2 c3)))))) : Z_M_laysNear g Q 2 [(0, .ref 59), (1, .int x1)] [] I L c := by
  refine gx_iload_n 1 dX11_laysNear_2 rfl rfl ?_
  refine gx_aload_n 0 dX11_laysNear_3 rfl rfl ?_
  refine gx_callV 11 (As := []) (st := [.int x1]) dX11_laysNear_4 ml_X11_240 mm_X11_gridMany rfl rfl rfl rfl rfl rfl ⟨rfl, rfl⟩ h (fun v h2 hq => ?_)
  clear h
  obtain ⟨r4, I1, L2, c3, rfl, rfl, h⟩ := hq
  show Z_M_laysNear g Q 7 [(0, .ref 59), (1, .int x1)] [.int r4, .int x1] I1 L2 c3
  refine gx_icmp_ge 99 dX11_laysNear_7 (by decide) ⟨fun z => ?_, fun z => ?_⟩
  · replace h := h.1 z
    exact gx_vret dX11_laysNear_99 rfl rfl rfl ⟨_, _, _, rfl, rfl, h⟩
  · replace h := h.2 z
    refine gx_aload_n 0 dX11_laysNear_10 rfl rfl ?_
    refine gx_getr 11 20 (v := 66) dX11_laysNear_11 fl_X11_37 rfl rfl rfl ?_
    refine gx_iload_n 1 dX11_laysNear_14 rfl rfl ?_
    refine gx_sipush (v := 9999) dX11_laysNear_15 (by decide) ?_
    obtain ⟨hi, h⟩ := h
    refine gx_iast dX11_laysNear_18 rfl rfl hi (k := (Int32.toNatClampNeg x1)) rfl ?_
    show Z_M_laysNear g Q 19 [(0, .ref 59), (1, .int x1)] [] (gm_u I1 66 (Int32.toNatClampNeg x1) 9999) L2 c3
    refine gx_iconst (v := 0) dX11_laysNear_19 (by decide) ?_
    refine gx_istore_n (lv' := [(0, .ref 59), (1, .int x1), (2, .int 0)]) dX11_laysNear_20 rfl rfl rfl ?_
    exact h
set_option maxRecDepth 100000 in
theorem r_M_laysNear_21 {g : gm_G} {Q : mI → mL → gm_cfg → Prop} {x1 x2 : Int32} {I : mI} {L : mL} {c : gm_cfg} (h : (((I 60 1) ≤ x2 → Z_M_laysNear g Q 2 [(0, .ref 59), (1, .int (x1 + 1))] [] I L c) ∧ (¬ (I 60 1) ≤ x2 → (C_M_numberOf g x2 I L c (fun r4 I1 L2 c3 => (C_M_off g r4 ((I1 60 2) + x1) I1 L2 c3 (fun r8 I5 L6 c7 => (vp_in x1 200 ∧ (((I5 66 (Int32.toNatClampNeg x1)) ≤ r8 → (vp_in x1 200 ∧ (vp_in x1 200 ∧ Z_M_laysNear g Q 21 [(0, .ref 59), (1, .int x1), (2, .int (x2 + 1))] [] (gm_u I5 66 (Int32.toNatClampNeg x1) (I5 66 (Int32.toNatClampNeg x1))) L6 c7))) ∧ (¬ (I5 66 (Int32.toNatClampNeg x1)) ≤ r8 → (C_M_numberOf g x2 I5 L6 c7 (fun r12 I9 L10 c11 => (C_M_off g r12 ((I9 60 2) + x1) I9 L10 c11 (fun r16 I13 L14 c15 => (vp_in x1 200 ∧ Z_M_laysNear g Q 21 [(0, .ref 59), (1, .int x1), (2, .int (x2 + 1))] [] (gm_u I13 66 (Int32.toNatClampNeg x1) r16) L14 c15))))))))))))))) : Z_M_laysNear g Q 21 [(0, .ref 59), (1, .int x1), (2, .int x2)] [] I L c := by
  refine gx_iload_n 2 dX11_laysNear_21 rfl rfl ?_
  refine gx_aload_n 0 dX11_laysNear_22 rfl rfl ?_
  refine gx_getr 11 1 (v := 60) dX11_laysNear_23 fl_X11_13 rfl rfl rfl ?_
  refine gx_iconst (v := 1) dX11_laysNear_26 (by decide) ?_
  refine gx_iald (v := (I 60 1)) dX11_laysNear_27 rfl rfl (gm_vin rfl) (k := 1) rfl rfl ?_
  refine gx_icmp_ge 93 dX11_laysNear_28 (by decide) ⟨fun z => ?_, fun z => ?_⟩
  · replace h := h.1 z
    refine gx_iinc (v := (x1 + 1)) (lv' := [(0, .ref 59), (1, .int (x1 + 1)), (2, .int x2)]) 1 dX11_laysNear_93 rfl rfl rfl rfl ?_
    refine gx_goto 2 dX11_laysNear_96 (by decide) ?_
    refine gx_sub [0, 1] (lv' := [(0, .ref 59), (1, .int (x1 + 1))]) rfl ?_
    exact h
  · replace h := h.2 z
    refine gx_aload_n 0 dX11_laysNear_31 rfl rfl ?_
    refine gx_getr 11 20 (v := 66) dX11_laysNear_32 fl_X11_37 rfl rfl rfl ?_
    refine gx_iload_n 1 dX11_laysNear_35 rfl rfl ?_
    refine gx_aload_n 0 dX11_laysNear_36 rfl rfl ?_
    refine gx_iload_n 2 dX11_laysNear_37 rfl rfl ?_
    refine gx_callV 11 (As := [.int x2]) (st := [.int x1, .ref 66]) dX11_laysNear_38 ml_X11_171 mm_X11_numberOf rfl rfl rfl rfl rfl rfl ⟨rfl, rfl⟩ h (fun v h2 hq => ?_)
    clear h
    obtain ⟨r4, I1, L2, c3, rfl, rfl, h⟩ := hq
    show Z_M_laysNear g Q 41 [(0, .ref 59), (1, .int x1), (2, .int x2)] [.int r4, .int x1, .ref 66] I1 L2 c3
    refine gx_aload_n 0 dX11_laysNear_41 rfl rfl ?_
    refine gx_getr 11 1 (v := 60) dX11_laysNear_42 fl_X11_13 rfl rfl rfl ?_
    refine gx_iconst (v := 2) dX11_laysNear_45 (by decide) ?_
    refine gx_iald (v := (I1 60 2)) dX11_laysNear_46 rfl rfl (gm_vin rfl) (k := 2) rfl rfl ?_
    refine gx_iload_n 1 dX11_laysNear_47 rfl rfl ?_
    refine gx_iadd dX11_laysNear_48 ?_
    refine gx_callS (As := [.int r4, .int ((I1 60 2) + x1)]) (st := [.int x1, .ref 66]) dX11_laysNear_49 ml_X11_162 mm_X11_off rfl rfl rfl rfl ⟨rfl, rfl⟩ h (fun v h2 hq => ?_)
    clear h
    obtain ⟨r8, I5, L6, c7, rfl, rfl, h⟩ := hq
    show Z_M_laysNear g Q 52 [(0, .ref 59), (1, .int x1), (2, .int x2)] [.int r8, .int x1, .ref 66] I5 L6 c7
    refine gx_aload_n 0 dX11_laysNear_52 rfl rfl ?_
    refine gx_getr 11 20 (v := 66) dX11_laysNear_53 fl_X11_37 rfl rfl rfl ?_
    refine gx_iload_n 1 dX11_laysNear_56 rfl rfl ?_
    obtain ⟨hi, h⟩ := h
    refine gx_iald (v := (I5 66 (Int32.toNatClampNeg x1))) dX11_laysNear_57 rfl rfl hi (k := (Int32.toNatClampNeg x1)) rfl rfl ?_
    refine gx_icmp_ge 80 dX11_laysNear_58 (by decide) ⟨fun z => ?_, fun z => ?_⟩
    · replace h := h.1 z
      refine gx_aload_n 0 dX11_laysNear_80 rfl rfl ?_
      refine gx_getr 11 20 (v := 66) dX11_laysNear_81 fl_X11_37 rfl rfl rfl ?_
      refine gx_iload_n 1 dX11_laysNear_84 rfl rfl ?_
      obtain ⟨hi, h⟩ := h
      refine gx_iald (v := (I5 66 (Int32.toNatClampNeg x1))) dX11_laysNear_85 rfl rfl hi (k := (Int32.toNatClampNeg x1)) rfl rfl ?_
      obtain ⟨hi, h⟩ := h
      refine gx_iast dX11_laysNear_86 rfl rfl hi (k := (Int32.toNatClampNeg x1)) rfl ?_
      show Z_M_laysNear g Q 87 [(0, .ref 59), (1, .int x1), (2, .int x2)] [] (gm_u I5 66 (Int32.toNatClampNeg x1) (I5 66 (Int32.toNatClampNeg x1))) L6 c7
      refine gx_iinc (v := (x2 + 1)) (lv' := [(0, .ref 59), (1, .int x1), (2, .int (x2 + 1))]) 2 dX11_laysNear_87 rfl rfl rfl rfl ?_
      refine gx_goto 21 dX11_laysNear_90 (by decide) ?_
      exact h
    · replace h := h.2 z
      refine gx_aload_n 0 dX11_laysNear_61 rfl rfl ?_
      refine gx_iload_n 2 dX11_laysNear_62 rfl rfl ?_
      refine gx_callV 11 (As := [.int x2]) (st := [.int x1, .ref 66]) dX11_laysNear_63 ml_X11_171 mm_X11_numberOf rfl rfl rfl rfl rfl rfl ⟨rfl, rfl⟩ h (fun v h2 hq => ?_)
      clear h
      obtain ⟨r12, I9, L10, c11, rfl, rfl, h⟩ := hq
      show Z_M_laysNear g Q 66 [(0, .ref 59), (1, .int x1), (2, .int x2)] [.int r12, .int x1, .ref 66] I9 L10 c11
      refine gx_aload_n 0 dX11_laysNear_66 rfl rfl ?_
      refine gx_getr 11 1 (v := 60) dX11_laysNear_67 fl_X11_13 rfl rfl rfl ?_
      refine gx_iconst (v := 2) dX11_laysNear_70 (by decide) ?_
      refine gx_iald (v := (I9 60 2)) dX11_laysNear_71 rfl rfl (gm_vin rfl) (k := 2) rfl rfl ?_
      refine gx_iload_n 1 dX11_laysNear_72 rfl rfl ?_
      refine gx_iadd dX11_laysNear_73 ?_
      refine gx_callS (As := [.int r12, .int ((I9 60 2) + x1)]) (st := [.int x1, .ref 66]) dX11_laysNear_74 ml_X11_162 mm_X11_off rfl rfl rfl rfl ⟨rfl, rfl⟩ h (fun v h2 hq => ?_)
      clear h
      obtain ⟨r16, I13, L14, c15, rfl, rfl, h⟩ := hq
      show Z_M_laysNear g Q 77 [(0, .ref 59), (1, .int x1), (2, .int x2)] [.int r16, .int x1, .ref 66] I13 L14 c15
      refine gx_goto 86 dX11_laysNear_77 (by decide) ?_
      obtain ⟨hi, h⟩ := h
      refine gx_iast dX11_laysNear_86 rfl rfl hi (k := (Int32.toNatClampNeg x1)) rfl ?_
      show Z_M_laysNear g Q 87 [(0, .ref 59), (1, .int x1), (2, .int x2)] [] (gm_u I13 66 (Int32.toNatClampNeg x1) r16) L14 c15
      refine gx_iinc (v := (x2 + 1)) (lv' := [(0, .ref 59), (1, .int x1), (2, .int (x2 + 1))]) 2 dX11_laysNear_87 rfl rfl rfl rfl ?_
      refine gx_goto 21 dX11_laysNear_90 (by decide) ?_
      exact h
abbrev Z_M_laysAll (g : gm_G) (Q : Bool → mI → mL → gm_cfg → Prop) (pc : Nat) (lv : List (Nat × Value)) (st : List Value) (I : mI) (L : mL) (c : gm_cfg) : Prop := gm_X g RX11 "laysAll" cX11_laysAll 2 (some .boolean) 7 0 0 (qZ Q) 0 0 pc lv st (SH, I, L, RR c)
abbrev C_M_laysAll (g : gm_G) (x1 : Int32) (I : mI) (L : mL) (c : gm_cfg) (Q : Bool → mI → mL → gm_cfg → Prop) : Prop := gm_Met g yX11_laysAll cX11_laysAll 2 (some .boolean) 7 0 0 [.ref 59, .int x1] (SH, I, L, RR c) (qZ Q)
set_option maxRecDepth 100000 in
theorem e_M_laysAll {g : gm_G} {Q : Bool → mI → mL → gm_cfg → Prop} {x1 : Int32} {I : mI} {L : mL} {c : gm_cfg} (h : (C_M_isMany g x1 I L c (fun b4 I1 L2 c3 => ((b4 = false → Q false I1 L2 c3) ∧ (b4 = true → (C_M_laysWays g x1 (-1) I1 L2 c3 (fun I5 L6 c7 => (C_M_laysNear g I5 L6 c7 (fun I8 L9 c10 => Q true I8 L9 c10))))))))) : C_M_laysAll g x1 I L c Q := by
  refine gm_enter (lv := [(0, .ref 59), (1, .int x1)]) (by decide) rfl rfl rfl rfl ?_
  show Z_M_laysAll g Q 0 [(0, .ref 59), (1, .int x1)] [] I L c
  refine gx_aload_n 0 dX11_laysAll_0 rfl rfl ?_
  refine gx_iload_n 1 dX11_laysAll_1 rfl rfl ?_
  refine gx_callV 11 (As := [.int x1]) (st := []) dX11_laysAll_2 ml_X11_247 mm_X11_isMany rfl rfl rfl rfl rfl rfl ⟨rfl, rfl⟩ h (fun v h2 hq => ?_)
  clear h
  obtain ⟨b4, I1, L2, c3, rfl, rfl, h⟩ := hq
  show Z_M_laysAll g Q 5 [(0, .ref 59), (1, .int x1)] [.int (gm_b b4)] I1 L2 c3
  refine gx_if_ne 10 dX11_laysAll_5 (by decide) ⟨fun z => ?_, fun z => ?_⟩
  · replace h := h.1 (gm_b0.mp z)
    refine gx_iconst (v := 0) dX11_laysAll_8 (by decide) ?_
    exact gx_zret .boolean dX11_laysAll_9 rfl rfl rfl rfl ⟨false, _, _, _, rfl, rfl, h⟩
  · replace h := h.2 (gm_bn0 z)
    refine gx_aload_n 0 dX11_laysAll_10 rfl rfl ?_
    refine gx_iload_n 1 dX11_laysAll_11 rfl rfl ?_
    refine gx_iconst (v := (-1)) dX11_laysAll_12 (by decide) ?_
    refine gx_callV 11 (As := [.int x1, .int (-1)]) (st := []) dX11_laysAll_13 ml_X11_252 mm_X11_laysWays rfl rfl rfl rfl rfl rfl ⟨rfl, rfl⟩ h (fun v h2 hq => ?_)
    clear h
    obtain ⟨I5, L6, c7, rfl, rfl, h⟩ := hq
    show Z_M_laysAll g Q 16 [(0, .ref 59), (1, .int x1)] [] I5 L6 c7
    refine gx_aload_n 0 dX11_laysAll_16 rfl rfl ?_
    refine gx_callV 11 (As := []) (st := []) dX11_laysAll_17 ml_X11_266 mm_X11_laysNear rfl rfl rfl rfl rfl rfl ⟨rfl, rfl⟩ h (fun v h2 hq => ?_)
    clear h
    obtain ⟨I8, L9, c10, rfl, rfl, h⟩ := hq
    show Z_M_laysAll g Q 20 [(0, .ref 59), (1, .int x1)] [] I8 L9 c10
    refine gx_iconst (v := 1) dX11_laysAll_20 (by decide) ?_
    exact gx_zret .boolean dX11_laysAll_21 rfl rfl rfl rfl ⟨true, _, _, _, rfl, rfl, h⟩
abbrev Z_M_waysBy (g : gm_G) (Q : Int64 → mI → mL → gm_cfg → Prop) (pc : Nat) (lv : List (Nat × Value)) (st : List Value) (I : mI) (L : mL) (c : gm_cfg) : Prop := gm_X g RX11 "waysBy" cX11_waysBy 8 (some .long) 2 0 0 (qL Q) 0 0 pc lv st (SH, I, L, RR c)
abbrev C_M_waysBy (g : gm_G) (x1 : Int32) (x2 : Int32) (x3 : Int32) (I : mI) (L : mL) (c : gm_cfg) (Q : Int64 → mI → mL → gm_cfg → Prop) : Prop := gm_Met g yX11_waysBy cX11_waysBy 8 (some .long) 2 0 0 [.ref 59, .int x1, .int x2, .int x3] (SH, I, L, RR c) (qL Q)
set_option maxRecDepth 100000 in
theorem e_M_waysBy {g : gm_G} {Q : Int64 → mI → mL → gm_cfg → Prop} {x1 x2 x3 : Int32} {I : mI} {L : mL} {c : gm_cfg} (h : Z_M_waysBy g Q 6 [(0, .ref 59), (1, .int x1), (2, .int x2), (3, .int x3), (4, .long 0), (6, .int 0)] [] I L c) : C_M_waysBy g x1 x2 x3 I L c Q := by
  refine gm_enter (lv := [(0, .ref 59), (1, .int x1), (2, .int x2), (3, .int x3)]) (by decide) rfl rfl rfl rfl ?_
  show Z_M_waysBy g Q 0 [(0, .ref 59), (1, .int x1), (2, .int x2), (3, .int x3)] [] I L c
  refine gx_lconst (v := 0) dX11_waysBy_0 (by decide) ?_
  refine gx_lstore (lv' := [(0, .ref 59), (1, .int x1), (2, .int x2), (3, .int x3), (4, .long 0)]) dX11_waysBy_1 rfl rfl ?_
  refine gx_iconst (v := 0) dX11_waysBy_3 (by decide) ?_
  refine gx_istore (lv' := [(0, .ref 59), (1, .int x1), (2, .int x2), (3, .int x3), (4, .long 0), (6, .int 0)]) dX11_waysBy_4 rfl rfl ?_
  exact h
set_option maxRecDepth 100000 in
theorem r_M_waysBy_6 {g : gm_G} {Q : Int64 → mI → mL → gm_cfg → Prop} {x1 x2 x3 x6 : Int32} {x4 : Int64} {I : mI} {L : mL} {c : gm_cfg} (h : (C_M_gridMany g I L c (fun r4 I1 L2 c3 => ((r4 ≤ x6 → Q x4 I1 L2 c3) ∧ (¬ r4 ≤ x6 → (C_M_off g x1 ((I1 60 2) + x6) I1 L2 c3 (fun r8 I5 L6 c7 => (vp_in x6 200 ∧ (((I5 66 (Int32.toNatClampNeg x6)) ≤ r8 → Z_M_waysBy g Q 6 [(0, .ref 59), (1, .int x1), (2, .int x2), (3, .int x3), (4, .long x4), (6, .int (x6 + 1))] [] I5 L6 c7) ∧ (¬ (I5 66 (Int32.toNatClampNeg x6)) ≤ r8 → ((x2 = (-1) → ((x3 = (-1) → (vp_in x6 200 ∧ Z_M_waysBy g Q 6 [(0, .ref 59), (1, .int x1), (2, .int x2), (3, .int x3), (4, .long (x4 + (L6 65 (Int32.toNatClampNeg x6)))), (6, .int (x6 + 1))] [] I5 L6 c7)) ∧ (¬ x3 = (-1) → (C_M_off g x3 ((I5 60 2) + x6) I5 L6 c7 (fun r12 I9 L10 c11 => ((r8 ≤ r12 → (vp_in x6 200 ∧ Z_M_waysBy g Q 6 [(0, .ref 59), (1, .int x1), (2, .int x2), (3, .int x3), (4, .long (x4 + (L10 65 (Int32.toNatClampNeg x6)))), (6, .int (x6 + 1))] [] I9 L10 c11)) ∧ (¬ r8 ≤ r12 → Z_M_waysBy g Q 6 [(0, .ref 59), (1, .int x1), (2, .int x2), (3, .int x3), (4, .long x4), (6, .int (x6 + 1))] [] I9 L10 c11))))))) ∧ (¬ x2 = (-1) → (C_M_off g x2 ((I5 60 2) + x6) I5 L6 c7 (fun r16 I13 L14 c15 => ((r16 ≤ r8 → Z_M_waysBy g Q 6 [(0, .ref 59), (1, .int x1), (2, .int x2), (3, .int x3), (4, .long x4), (6, .int (x6 + 1))] [] I13 L14 c15) ∧ (¬ r16 ≤ r8 → ((x3 = (-1) → (vp_in x6 200 ∧ Z_M_waysBy g Q 6 [(0, .ref 59), (1, .int x1), (2, .int x2), (3, .int x3), (4, .long (x4 + (L14 65 (Int32.toNatClampNeg x6)))), (6, .int (x6 + 1))] [] I13 L14 c15)) ∧ (¬ x3 = (-1) → (C_M_off g x3 ((I13 60 2) + x6) I13 L14 c15 (fun r20 I17 L18 c19 => ((r8 ≤ r20 → (vp_in x6 200 ∧ Z_M_waysBy g Q 6 [(0, .ref 59), (1, .int x1), (2, .int x2), (3, .int x3), (4, .long (x4 + (L18 65 (Int32.toNatClampNeg x6)))), (6, .int (x6 + 1))] [] I17 L18 c19)) ∧ (¬ r8 ≤ r20 → Z_M_waysBy g Q 6 [(0, .ref 59), (1, .int x1), (2, .int x2), (3, .int x3), (4, .long x4), (6, .int (x6 + 1))] [] I17 L18 c19)))))))))))))))))))))) : Z_M_waysBy g Q 6 [(0, .ref 59), (1, .int x1), (2, .int x2), (3, .int x3), (4, .long x4), (6, .int x6)] [] I L c := by
  refine gx_iload 5 dX11_waysBy_6 rfl ?_
  refine gx_aload_n 0 dX11_waysBy_8 rfl rfl ?_
  refine gx_callV 11 (As := []) (st := [.int x6]) dX11_waysBy_9 ml_X11_240 mm_X11_gridMany rfl rfl rfl rfl rfl rfl ⟨rfl, rfl⟩ h (fun v h2 hq => ?_)
  clear h
  obtain ⟨r4, I1, L2, c3, rfl, rfl, h⟩ := hq
  show Z_M_waysBy g Q 12 [(0, .ref 59), (1, .int x1), (2, .int x2), (3, .int x3), (4, .long x4), (6, .int x6)] [.int r4, .int x6] I1 L2 c3
  refine gx_icmp_ge 109 dX11_waysBy_12 (by decide) ⟨fun z => ?_, fun z => ?_⟩
  · replace h := h.1 z
    refine gx_lload 4 dX11_waysBy_109 rfl ?_
    exact gx_lret dX11_waysBy_111 rfl rfl rfl ⟨_, _, _, _, rfl, rfl, h⟩
  · replace h := h.2 z
    refine gx_iload_n 1 dX11_waysBy_15 rfl rfl ?_
    refine gx_aload_n 0 dX11_waysBy_16 rfl rfl ?_
    refine gx_getr 11 1 (v := 60) dX11_waysBy_17 fl_X11_13 rfl rfl rfl ?_
    refine gx_iconst (v := 2) dX11_waysBy_20 (by decide) ?_
    refine gx_iald (v := (I1 60 2)) dX11_waysBy_21 rfl rfl (gm_vin rfl) (k := 2) rfl rfl ?_
    refine gx_iload 5 dX11_waysBy_22 rfl ?_
    refine gx_iadd dX11_waysBy_24 ?_
    refine gx_callS (As := [.int x1, .int ((I1 60 2) + x6)]) (st := []) dX11_waysBy_25 ml_X11_162 mm_X11_off rfl rfl rfl rfl ⟨rfl, rfl⟩ h (fun v h2 hq => ?_)
    clear h
    obtain ⟨r8, I5, L6, c7, rfl, rfl, h⟩ := hq
    show Z_M_waysBy g Q 28 [(0, .ref 59), (1, .int x1), (2, .int x2), (3, .int x3), (4, .long x4), (6, .int x6)] [.int r8] I5 L6 c7
    refine gx_istore (lv' := [(0, .ref 59), (1, .int x1), (2, .int x2), (3, .int x3), (4, .long x4), (6, .int x6), (7, .int r8)]) dX11_waysBy_28 rfl rfl ?_
    refine gx_iload 6 dX11_waysBy_30 rfl ?_
    refine gx_aload_n 0 dX11_waysBy_32 rfl rfl ?_
    refine gx_getr 11 20 (v := 66) dX11_waysBy_33 fl_X11_37 rfl rfl rfl ?_
    refine gx_iload 5 dX11_waysBy_36 rfl ?_
    obtain ⟨hi, h⟩ := h
    refine gx_iald (v := (I5 66 (Int32.toNatClampNeg x6))) dX11_waysBy_38 rfl rfl hi (k := (Int32.toNatClampNeg x6)) rfl rfl ?_
    refine gx_icmp_ge 103 dX11_waysBy_39 (by decide) ⟨fun z => ?_, fun z => ?_⟩
    · replace h := h.1 z
      refine gx_iinc (v := (x6 + 1)) (lv' := [(0, .ref 59), (1, .int x1), (2, .int x2), (3, .int x3), (4, .long x4), (6, .int (x6 + 1)), (7, .int r8)]) 5 dX11_waysBy_103 rfl rfl rfl rfl ?_
      refine gx_goto 6 dX11_waysBy_106 (by decide) ?_
      refine gx_sub [0, 1, 2, 3, 4, 5] (lv' := [(0, .ref 59), (1, .int x1), (2, .int x2), (3, .int x3), (4, .long x4), (6, .int (x6 + 1))]) rfl ?_
      exact h
    · replace h := h.2 z
      refine gx_iload_n 2 dX11_waysBy_42 rfl rfl ?_
      refine gx_iconst (v := (-1)) dX11_waysBy_43 (by decide) ?_
      refine gx_icmp_eq 65 dX11_waysBy_44 (by decide) ⟨fun z => ?_, fun z => ?_⟩
      · replace h := h.1 z
        refine gx_iload_n 3 dX11_waysBy_65 rfl rfl ?_
        refine gx_iconst (v := (-1)) dX11_waysBy_66 (by decide) ?_
        refine gx_icmp_eq 91 dX11_waysBy_67 (by decide) ⟨fun z => ?_, fun z => ?_⟩
        · replace h := h.1 z
          refine gx_lload 4 dX11_waysBy_91 rfl ?_
          refine gx_aload_n 0 dX11_waysBy_93 rfl rfl ?_
          refine gx_getr 11 18 (v := 65) dX11_waysBy_94 fl_X11_33 rfl rfl rfl ?_
          refine gx_iload 5 dX11_waysBy_97 rfl ?_
          obtain ⟨hi, h⟩ := h
          refine gx_lald (v := (L6 65 (Int32.toNatClampNeg x6))) dX11_waysBy_99 rfl rfl hi (k := (Int32.toNatClampNeg x6)) rfl rfl ?_
          refine gx_ladd dX11_waysBy_100 ?_
          refine gx_lstore (lv' := [(0, .ref 59), (1, .int x1), (2, .int x2), (3, .int x3), (4, .long (x4 + (L6 65 (Int32.toNatClampNeg x6)))), (6, .int x6), (7, .int r8)]) dX11_waysBy_101 rfl rfl ?_
          refine gx_iinc (v := (x6 + 1)) (lv' := [(0, .ref 59), (1, .int x1), (2, .int x2), (3, .int x3), (4, .long (x4 + (L6 65 (Int32.toNatClampNeg x6)))), (6, .int (x6 + 1)), (7, .int r8)]) 5 dX11_waysBy_103 rfl rfl rfl rfl ?_
          refine gx_goto 6 dX11_waysBy_106 (by decide) ?_
          refine gx_sub [0, 1, 2, 3, 4, 5] (lv' := [(0, .ref 59), (1, .int x1), (2, .int x2), (3, .int x3), (4, .long (x4 + (L6 65 (Int32.toNatClampNeg x6)))), (6, .int (x6 + 1))]) rfl ?_
          exact h
        · replace h := h.2 z
          refine gx_iload 6 dX11_waysBy_70 rfl ?_
          refine gx_iload_n 3 dX11_waysBy_72 rfl rfl ?_
          refine gx_aload_n 0 dX11_waysBy_73 rfl rfl ?_
          refine gx_getr 11 1 (v := 60) dX11_waysBy_74 fl_X11_13 rfl rfl rfl ?_
          refine gx_iconst (v := 2) dX11_waysBy_77 (by decide) ?_
          refine gx_iald (v := (I5 60 2)) dX11_waysBy_78 rfl rfl (gm_vin rfl) (k := 2) rfl rfl ?_
          refine gx_iload 5 dX11_waysBy_79 rfl ?_
          refine gx_iadd dX11_waysBy_81 ?_
          refine gx_callS (As := [.int x3, .int ((I5 60 2) + x6)]) (st := [.int r8]) dX11_waysBy_82 ml_X11_162 mm_X11_off rfl rfl rfl rfl ⟨rfl, rfl⟩ h (fun v h2 hq => ?_)
          clear h
          obtain ⟨r12, I9, L10, c11, rfl, rfl, h⟩ := hq
          show Z_M_waysBy g Q 85 [(0, .ref 59), (1, .int x1), (2, .int x2), (3, .int x3), (4, .long x4), (6, .int x6), (7, .int r8)] [.int r12, .int r8] I9 L10 c11
          refine gx_icmp_le 91 dX11_waysBy_85 (by decide) ⟨fun z => ?_, fun z => ?_⟩
          · replace h := h.1 z
            refine gx_lload 4 dX11_waysBy_91 rfl ?_
            refine gx_aload_n 0 dX11_waysBy_93 rfl rfl ?_
            refine gx_getr 11 18 (v := 65) dX11_waysBy_94 fl_X11_33 rfl rfl rfl ?_
            refine gx_iload 5 dX11_waysBy_97 rfl ?_
            obtain ⟨hi, h⟩ := h
            refine gx_lald (v := (L10 65 (Int32.toNatClampNeg x6))) dX11_waysBy_99 rfl rfl hi (k := (Int32.toNatClampNeg x6)) rfl rfl ?_
            refine gx_ladd dX11_waysBy_100 ?_
            refine gx_lstore (lv' := [(0, .ref 59), (1, .int x1), (2, .int x2), (3, .int x3), (4, .long (x4 + (L10 65 (Int32.toNatClampNeg x6)))), (6, .int x6), (7, .int r8)]) dX11_waysBy_101 rfl rfl ?_
            refine gx_iinc (v := (x6 + 1)) (lv' := [(0, .ref 59), (1, .int x1), (2, .int x2), (3, .int x3), (4, .long (x4 + (L10 65 (Int32.toNatClampNeg x6)))), (6, .int (x6 + 1)), (7, .int r8)]) 5 dX11_waysBy_103 rfl rfl rfl rfl ?_
            refine gx_goto 6 dX11_waysBy_106 (by decide) ?_
            refine gx_sub [0, 1, 2, 3, 4, 5] (lv' := [(0, .ref 59), (1, .int x1), (2, .int x2), (3, .int x3), (4, .long (x4 + (L10 65 (Int32.toNatClampNeg x6)))), (6, .int (x6 + 1))]) rfl ?_
            exact h
          · replace h := h.2 z
            refine gx_goto 103 dX11_waysBy_88 (by decide) ?_
            refine gx_iinc (v := (x6 + 1)) (lv' := [(0, .ref 59), (1, .int x1), (2, .int x2), (3, .int x3), (4, .long x4), (6, .int (x6 + 1)), (7, .int r8)]) 5 dX11_waysBy_103 rfl rfl rfl rfl ?_
            refine gx_goto 6 dX11_waysBy_106 (by decide) ?_
            refine gx_sub [0, 1, 2, 3, 4, 5] (lv' := [(0, .ref 59), (1, .int x1), (2, .int x2), (3, .int x3), (4, .long x4), (6, .int (x6 + 1))]) rfl ?_
            exact h
      · replace h := h.2 z
        refine gx_iload 6 dX11_waysBy_47 rfl ?_
        refine gx_iload_n 2 dX11_waysBy_49 rfl rfl ?_
        refine gx_aload_n 0 dX11_waysBy_50 rfl rfl ?_
        refine gx_getr 11 1 (v := 60) dX11_waysBy_51 fl_X11_13 rfl rfl rfl ?_
        refine gx_iconst (v := 2) dX11_waysBy_54 (by decide) ?_
        refine gx_iald (v := (I5 60 2)) dX11_waysBy_55 rfl rfl (gm_vin rfl) (k := 2) rfl rfl ?_
        refine gx_iload 5 dX11_waysBy_56 rfl ?_
        refine gx_iadd dX11_waysBy_58 ?_
        refine gx_callS (As := [.int x2, .int ((I5 60 2) + x6)]) (st := [.int r8]) dX11_waysBy_59 ml_X11_162 mm_X11_off rfl rfl rfl rfl ⟨rfl, rfl⟩ h (fun v h2 hq => ?_)
        clear h
        obtain ⟨r16, I13, L14, c15, rfl, rfl, h⟩ := hq
        show Z_M_waysBy g Q 62 [(0, .ref 59), (1, .int x1), (2, .int x2), (3, .int x3), (4, .long x4), (6, .int x6), (7, .int r8)] [.int r16, .int r8] I13 L14 c15
        refine gx_icmp_ge 103 dX11_waysBy_62 (by decide) ⟨fun z => ?_, fun z => ?_⟩
        · replace h := h.1 z
          refine gx_iinc (v := (x6 + 1)) (lv' := [(0, .ref 59), (1, .int x1), (2, .int x2), (3, .int x3), (4, .long x4), (6, .int (x6 + 1)), (7, .int r8)]) 5 dX11_waysBy_103 rfl rfl rfl rfl ?_
          refine gx_goto 6 dX11_waysBy_106 (by decide) ?_
          refine gx_sub [0, 1, 2, 3, 4, 5] (lv' := [(0, .ref 59), (1, .int x1), (2, .int x2), (3, .int x3), (4, .long x4), (6, .int (x6 + 1))]) rfl ?_
          exact h
        · replace h := h.2 z
          refine gx_iload_n 3 dX11_waysBy_65 rfl rfl ?_
          refine gx_iconst (v := (-1)) dX11_waysBy_66 (by decide) ?_
          refine gx_icmp_eq 91 dX11_waysBy_67 (by decide) ⟨fun z => ?_, fun z => ?_⟩
          · replace h := h.1 z
            refine gx_lload 4 dX11_waysBy_91 rfl ?_
            refine gx_aload_n 0 dX11_waysBy_93 rfl rfl ?_
            refine gx_getr 11 18 (v := 65) dX11_waysBy_94 fl_X11_33 rfl rfl rfl ?_
            refine gx_iload 5 dX11_waysBy_97 rfl ?_
            obtain ⟨hi, h⟩ := h
            refine gx_lald (v := (L14 65 (Int32.toNatClampNeg x6))) dX11_waysBy_99 rfl rfl hi (k := (Int32.toNatClampNeg x6)) rfl rfl ?_
            refine gx_ladd dX11_waysBy_100 ?_
            refine gx_lstore (lv' := [(0, .ref 59), (1, .int x1), (2, .int x2), (3, .int x3), (4, .long (x4 + (L14 65 (Int32.toNatClampNeg x6)))), (6, .int x6), (7, .int r8)]) dX11_waysBy_101 rfl rfl ?_
            refine gx_iinc (v := (x6 + 1)) (lv' := [(0, .ref 59), (1, .int x1), (2, .int x2), (3, .int x3), (4, .long (x4 + (L14 65 (Int32.toNatClampNeg x6)))), (6, .int (x6 + 1)), (7, .int r8)]) 5 dX11_waysBy_103 rfl rfl rfl rfl ?_
            refine gx_goto 6 dX11_waysBy_106 (by decide) ?_
            refine gx_sub [0, 1, 2, 3, 4, 5] (lv' := [(0, .ref 59), (1, .int x1), (2, .int x2), (3, .int x3), (4, .long (x4 + (L14 65 (Int32.toNatClampNeg x6)))), (6, .int (x6 + 1))]) rfl ?_
            exact h
          · replace h := h.2 z
            refine gx_iload 6 dX11_waysBy_70 rfl ?_
            refine gx_iload_n 3 dX11_waysBy_72 rfl rfl ?_
            refine gx_aload_n 0 dX11_waysBy_73 rfl rfl ?_
            refine gx_getr 11 1 (v := 60) dX11_waysBy_74 fl_X11_13 rfl rfl rfl ?_
            refine gx_iconst (v := 2) dX11_waysBy_77 (by decide) ?_
            refine gx_iald (v := (I13 60 2)) dX11_waysBy_78 rfl rfl (gm_vin rfl) (k := 2) rfl rfl ?_
            refine gx_iload 5 dX11_waysBy_79 rfl ?_
            refine gx_iadd dX11_waysBy_81 ?_
            refine gx_callS (As := [.int x3, .int ((I13 60 2) + x6)]) (st := [.int r8]) dX11_waysBy_82 ml_X11_162 mm_X11_off rfl rfl rfl rfl ⟨rfl, rfl⟩ h (fun v h2 hq => ?_)
            clear h
            obtain ⟨r20, I17, L18, c19, rfl, rfl, h⟩ := hq
            show Z_M_waysBy g Q 85 [(0, .ref 59), (1, .int x1), (2, .int x2), (3, .int x3), (4, .long x4), (6, .int x6), (7, .int r8)] [.int r20, .int r8] I17 L18 c19
            refine gx_icmp_le 91 dX11_waysBy_85 (by decide) ⟨fun z => ?_, fun z => ?_⟩
            · replace h := h.1 z
              refine gx_lload 4 dX11_waysBy_91 rfl ?_
              refine gx_aload_n 0 dX11_waysBy_93 rfl rfl ?_
              refine gx_getr 11 18 (v := 65) dX11_waysBy_94 fl_X11_33 rfl rfl rfl ?_
              refine gx_iload 5 dX11_waysBy_97 rfl ?_
              obtain ⟨hi, h⟩ := h
              refine gx_lald (v := (L18 65 (Int32.toNatClampNeg x6))) dX11_waysBy_99 rfl rfl hi (k := (Int32.toNatClampNeg x6)) rfl rfl ?_
              refine gx_ladd dX11_waysBy_100 ?_
              refine gx_lstore (lv' := [(0, .ref 59), (1, .int x1), (2, .int x2), (3, .int x3), (4, .long (x4 + (L18 65 (Int32.toNatClampNeg x6)))), (6, .int x6), (7, .int r8)]) dX11_waysBy_101 rfl rfl ?_
              refine gx_iinc (v := (x6 + 1)) (lv' := [(0, .ref 59), (1, .int x1), (2, .int x2), (3, .int x3), (4, .long (x4 + (L18 65 (Int32.toNatClampNeg x6)))), (6, .int (x6 + 1)), (7, .int r8)]) 5 dX11_waysBy_103 rfl rfl rfl rfl ?_
              refine gx_goto 6 dX11_waysBy_106 (by decide) ?_
              refine gx_sub [0, 1, 2, 3, 4, 5] (lv' := [(0, .ref 59), (1, .int x1), (2, .int x2), (3, .int x3), (4, .long (x4 + (L18 65 (Int32.toNatClampNeg x6)))), (6, .int (x6 + 1))]) rfl ?_
              exact h
            · replace h := h.2 z
              refine gx_goto 103 dX11_waysBy_88 (by decide) ?_
              refine gx_iinc (v := (x6 + 1)) (lv' := [(0, .ref 59), (1, .int x1), (2, .int x2), (3, .int x3), (4, .long x4), (6, .int (x6 + 1)), (7, .int r8)]) 5 dX11_waysBy_103 rfl rfl rfl rfl ?_
              refine gx_goto 6 dX11_waysBy_106 (by decide) ?_
              refine gx_sub [0, 1, 2, 3, 4, 5] (lv' := [(0, .ref 59), (1, .int x1), (2, .int x2), (3, .int x3), (4, .long x4), (6, .int (x6 + 1))]) rfl ?_
              exact h
abbrev Z_M_chance (g : gm_G) (Q : Int64 → mI → mL → gm_cfg → Prop) (pc : Nat) (lv : List (Nat × Value)) (st : List Value) (I : mI) (L : mL) (c : gm_cfg) : Prop := gm_X g RX11 "chance" cX11_chance 3 (some .long) 8 0 0 (qL Q) 0 0 pc lv st (SH, I, L, RR c)
abbrev C_M_chance (g : gm_G) (x1 : Int32) (x2 : Int32) (I : mI) (L : mL) (c : gm_cfg) (Q : Int64 → mI → mL → gm_cfg → Prop) : Prop := gm_Met g yX11_chance cX11_chance 3 (some .long) 8 0 0 [.ref 59, .int x1, .int x2] (SH, I, L, RR c) (qL Q)
set_option maxRecDepth 100000 in
theorem e_M_chance {g : gm_G} {Q : Int64 → mI → mL → gm_cfg → Prop} {x1 x2 : Int32} {I : mI} {L : mL} {c : gm_cfg} (h : (C_M_within g (Int32.toInt64 x1) 0 2000 (gm_u I 59 0 0) L c (fun b4 I1 L2 c3 => ((b4 = false → Q (-3) I1 L2 c3) ∧ (b4 = true → (C_M_laysAll g x2 I1 L2 c3 (fun b8 I5 L6 c7 => ((b8 = false → Q (-3) I5 L6 c7) ∧ (b8 = true → (C_M_waysBy g x1 (-1) (-1) I5 L6 c7 (fun r12 I9 L10 c11 => Q r12 I9 L10 c11))))))))))) : C_M_chance g x1 x2 I L c Q := by
  refine gm_enter (lv := [(0, .ref 59), (1, .int x1), (2, .int x2)]) (by decide) rfl rfl rfl rfl ?_
  show Z_M_chance g Q 0 [(0, .ref 59), (1, .int x1), (2, .int x2)] [] I L c
  refine gx_aload_n 0 dX11_chance_0 rfl rfl ?_
  refine gx_iconst (v := 0) dX11_chance_1 (by decide) ?_
  refine gx_puti 11 0 dX11_chance_2 fl_X11_1 rfl rfl rfl ⟨rfl, rfl⟩ ?_
  show Z_M_chance g Q 5 [(0, .ref 59), (1, .int x1), (2, .int x2)] [] (gm_u I 59 0 0) L c
  refine gx_iload_n 1 dX11_chance_5 rfl rfl ?_
  refine gx_i2l dX11_chance_6 ?_
  refine gx_lconst (v := 0) dX11_chance_7 (by decide) ?_
  refine gx_ldc2 dX11_chance_8 kl_X11_177 ?_
  refine gx_callS (As := [.long (Int32.toInt64 x1), .long 0, .long 2000]) (st := []) dX11_chance_11 ml_X11_125 mm_X11_within rfl rfl rfl rfl ⟨rfl, rfl⟩ h (fun v h2 hq => ?_)
  clear h
  obtain ⟨b4, I1, L2, c3, rfl, rfl, h⟩ := hq
  show Z_M_chance g Q 14 [(0, .ref 59), (1, .int x1), (2, .int x2)] [.int (gm_b b4)] I1 L2 c3
  refine gx_if_eq 35 dX11_chance_14 (by decide) ⟨fun z => ?_, fun z => ?_⟩
  · replace h := h.1 (gm_b0.mp z)
    refine gx_ldc2 dX11_chance_35 kl_X11_250 ?_
    exact gx_lret dX11_chance_38 rfl rfl rfl ⟨_, _, _, _, rfl, rfl, h⟩
  · replace h := h.2 (gm_bn0 z)
    refine gx_aload_n 0 dX11_chance_17 rfl rfl ?_
    refine gx_iload_n 2 dX11_chance_18 rfl rfl ?_
    refine gx_callV 11 (As := [.int x2]) (st := []) dX11_chance_19 ml_X11_269 mm_X11_laysAll rfl rfl rfl rfl rfl rfl ⟨rfl, rfl⟩ h (fun v h2 hq => ?_)
    clear h
    obtain ⟨b8, I5, L6, c7, rfl, rfl, h⟩ := hq
    show Z_M_chance g Q 22 [(0, .ref 59), (1, .int x1), (2, .int x2)] [.int (gm_b b8)] I5 L6 c7
    refine gx_if_eq 35 dX11_chance_22 (by decide) ⟨fun z => ?_, fun z => ?_⟩
    · replace h := h.1 (gm_b0.mp z)
      refine gx_ldc2 dX11_chance_35 kl_X11_250 ?_
      exact gx_lret dX11_chance_38 rfl rfl rfl ⟨_, _, _, _, rfl, rfl, h⟩
    · replace h := h.2 (gm_bn0 z)
      refine gx_aload_n 0 dX11_chance_25 rfl rfl ?_
      refine gx_iload_n 1 dX11_chance_26 rfl rfl ?_
      refine gx_iconst (v := (-1)) dX11_chance_27 (by decide) ?_
      refine gx_iconst (v := (-1)) dX11_chance_28 (by decide) ?_
      refine gx_callV 11 (As := [.int x1, .int (-1), .int (-1)]) (st := []) dX11_chance_29 ml_X11_262 mm_X11_waysBy rfl rfl rfl rfl rfl rfl ⟨rfl, rfl⟩ h (fun v h2 hq => ?_)
      clear h
      obtain ⟨r12, I9, L10, c11, rfl, rfl, h⟩ := hq
      show Z_M_chance g Q 32 [(0, .ref 59), (1, .int x1), (2, .int x2)] [.long r12] I9 L10 c11
      refine gx_goto 38 dX11_chance_32 (by decide) ?_
      exact gx_lret dX11_chance_38 rfl rfl rfl ⟨_, _, _, _, rfl, rfl, h⟩
abbrev Z_M_bestBy (g : gm_G) (Q : Int32 → mI → mL → gm_cfg → Prop) (pc : Nat) (lv : List (Nat × Value)) (st : List Value) (I : mI) (L : mL) (c : gm_cfg) : Prop := gm_X g RX11 "bestBy" cX11_bestBy 8 (some .int) 3 0 0 (qI Q) 0 0 pc lv st (SH, I, L, RR c)
abbrev C_M_bestBy (g : gm_G) (x1 : Int32) (I : mI) (L : mL) (c : gm_cfg) (Q : Int32 → mI → mL → gm_cfg → Prop) : Prop := gm_Met g yX11_bestBy cX11_bestBy 8 (some .int) 3 0 0 [.ref 59, .int x1] (SH, I, L, RR c) (qI Q)
set_option maxRecDepth 100000 in
theorem e_M_bestBy {g : gm_G} {Q : Int32 → mI → mL → gm_cfg → Prop} {x1 : Int32} {I : mI} {L : mL} {c : gm_cfg} (h : (C_M_waysBy g (I 60 2) x1 (-1) I L c (fun r4 I1 L2 c3 => Z_M_bestBy g Q 25 [(0, .ref 59), (1, .int x1), (2, .int (I 60 2)), (3, .long r4), (5, .int ((I1 60 2) + 1))] [] I1 L2 c3))) : C_M_bestBy g x1 I L c Q := by
  refine gm_enter (lv := [(0, .ref 59), (1, .int x1)]) (by decide) rfl rfl rfl rfl ?_
  show Z_M_bestBy g Q 0 [(0, .ref 59), (1, .int x1)] [] I L c
  refine gx_aload_n 0 dX11_bestBy_0 rfl rfl ?_
  refine gx_getr 11 1 (v := 60) dX11_bestBy_1 fl_X11_13 rfl rfl rfl ?_
  refine gx_iconst (v := 2) dX11_bestBy_4 (by decide) ?_
  refine gx_iald (v := (I 60 2)) dX11_bestBy_5 rfl rfl (gm_vin rfl) (k := 2) rfl rfl ?_
  refine gx_istore_n (lv' := [(0, .ref 59), (1, .int x1), (2, .int (I 60 2))]) dX11_bestBy_6 rfl rfl rfl ?_
  refine gx_aload_n 0 dX11_bestBy_7 rfl rfl ?_
  refine gx_iload_n 2 dX11_bestBy_8 rfl rfl ?_
  refine gx_iload_n 1 dX11_bestBy_9 rfl rfl ?_
  refine gx_iconst (v := (-1)) dX11_bestBy_10 (by decide) ?_
  refine gx_callV 11 (As := [.int (I 60 2), .int x1, .int (-1)]) (st := []) dX11_bestBy_11 ml_X11_262 mm_X11_waysBy rfl rfl rfl rfl rfl rfl ⟨rfl, rfl⟩ h (fun v h2 hq => ?_)
  clear h
  obtain ⟨r4, I1, L2, c3, rfl, rfl, h⟩ := hq
  show Z_M_bestBy g Q 14 [(0, .ref 59), (1, .int x1), (2, .int (I 60 2))] [.long r4] I1 L2 c3
  refine gx_lstore_n (lv' := [(0, .ref 59), (1, .int x1), (2, .int (I 60 2)), (3, .long r4)]) dX11_bestBy_14 rfl rfl rfl ?_
  refine gx_aload_n 0 dX11_bestBy_15 rfl rfl ?_
  refine gx_getr 11 1 (v := 60) dX11_bestBy_16 fl_X11_13 rfl rfl rfl ?_
  refine gx_iconst (v := 2) dX11_bestBy_19 (by decide) ?_
  refine gx_iald (v := (I1 60 2)) dX11_bestBy_20 rfl rfl (gm_vin rfl) (k := 2) rfl rfl ?_
  refine gx_iconst (v := 1) dX11_bestBy_21 (by decide) ?_
  refine gx_iadd dX11_bestBy_22 ?_
  refine gx_istore (lv' := [(0, .ref 59), (1, .int x1), (2, .int (I 60 2)), (3, .long r4), (5, .int ((I1 60 2) + 1))]) dX11_bestBy_23 rfl rfl ?_
  exact h
set_option maxRecDepth 100000 in
theorem r_M_bestBy_25 {g : gm_G} {Q : Int32 → mI → mL → gm_cfg → Prop} {x1 x2 x5 : Int32} {x3 : Int64} {I : mI} {L : mL} {c : gm_cfg} (h : (((I 60 3) < x5 → Q x2 I L c) ∧ (¬ (I 60 3) < x5 → (C_M_waysBy g x5 x1 (-1) I L c (fun r4 I1 L2 c3 => (((x3 : Int64) < r4 → Z_M_bestBy g Q 25 [(0, .ref 59), (1, .int x1), (2, .int x5), (3, .long r4), (5, .int (x5 + 1))] [] I1 L2 c3) ∧ (¬ (x3 : Int64) < r4 → Z_M_bestBy g Q 25 [(0, .ref 59), (1, .int x1), (2, .int x2), (3, .long x3), (5, .int (x5 + 1))] [] I1 L2 c3))))))) : Z_M_bestBy g Q 25 [(0, .ref 59), (1, .int x1), (2, .int x2), (3, .long x3), (5, .int x5)] [] I L c := by
  refine gx_iload 4 dX11_bestBy_25 rfl ?_
  refine gx_aload_n 0 dX11_bestBy_27 rfl rfl ?_
  refine gx_getr 11 1 (v := 60) dX11_bestBy_28 fl_X11_13 rfl rfl rfl ?_
  refine gx_iconst (v := 3) dX11_bestBy_31 (by decide) ?_
  refine gx_iald (v := (I 60 3)) dX11_bestBy_32 rfl rfl (gm_vin rfl) (k := 3) rfl rfl ?_
  refine gx_icmp_gt 68 dX11_bestBy_33 (by decide) ⟨fun z => ?_, fun z => ?_⟩
  · replace h := h.1 z
    refine gx_iload_n 2 dX11_bestBy_68 rfl rfl ?_
    exact gx_iret dX11_bestBy_69 rfl rfl rfl ⟨_, _, _, _, rfl, rfl, h⟩
  · replace h := h.2 z
    refine gx_aload_n 0 dX11_bestBy_36 rfl rfl ?_
    refine gx_iload 4 dX11_bestBy_37 rfl ?_
    refine gx_iload_n 1 dX11_bestBy_39 rfl rfl ?_
    refine gx_iconst (v := (-1)) dX11_bestBy_40 (by decide) ?_
    refine gx_callV 11 (As := [.int x5, .int x1, .int (-1)]) (st := []) dX11_bestBy_41 ml_X11_262 mm_X11_waysBy rfl rfl rfl rfl rfl rfl ⟨rfl, rfl⟩ h (fun v h2 hq => ?_)
    clear h
    obtain ⟨r4, I1, L2, c3, rfl, rfl, h⟩ := hq
    show Z_M_bestBy g Q 44 [(0, .ref 59), (1, .int x1), (2, .int x2), (3, .long x3), (5, .int x5)] [.long r4] I1 L2 c3
    refine gx_lstore (lv' := [(0, .ref 59), (1, .int x1), (2, .int x2), (3, .long x3), (5, .int x5), (6, .long r4)]) dX11_bestBy_44 rfl rfl ?_
    refine gx_lload 5 dX11_bestBy_46 rfl ?_
    refine gx_lload_n 3 dX11_bestBy_48 rfl rfl ?_
    refine gx_lcmp_gt 56 dX11_bestBy_49 dX11_bestBy_50 (by decide) ⟨fun z => ?_, fun z => ?_⟩
    · replace h := h.1 z
      refine gx_iload 4 dX11_bestBy_56 rfl ?_
      refine gx_istore_n (lv' := [(0, .ref 59), (1, .int x1), (2, .int x5), (3, .long x3), (5, .int x5), (6, .long r4)]) dX11_bestBy_58 rfl rfl rfl ?_
      refine gx_lload 5 dX11_bestBy_59 rfl ?_
      refine gx_lstore_n (lv' := [(0, .ref 59), (1, .int x1), (2, .int x5), (3, .long r4), (5, .int x5), (6, .long r4)]) dX11_bestBy_61 rfl rfl rfl ?_
      refine gx_iinc (v := (x5 + 1)) (lv' := [(0, .ref 59), (1, .int x1), (2, .int x5), (3, .long r4), (5, .int (x5 + 1)), (6, .long r4)]) 4 dX11_bestBy_62 rfl rfl rfl rfl ?_
      refine gx_goto 25 dX11_bestBy_65 (by decide) ?_
      refine gx_sub [0, 1, 2, 3, 4] (lv' := [(0, .ref 59), (1, .int x1), (2, .int x5), (3, .long r4), (5, .int (x5 + 1))]) rfl ?_
      exact h
    · replace h := h.2 z
      refine gx_goto 62 dX11_bestBy_53 (by decide) ?_
      refine gx_iinc (v := (x5 + 1)) (lv' := [(0, .ref 59), (1, .int x1), (2, .int x2), (3, .long x3), (5, .int (x5 + 1)), (6, .long r4)]) 4 dX11_bestBy_62 rfl rfl rfl rfl ?_
      refine gx_goto 25 dX11_bestBy_65 (by decide) ?_
      refine gx_sub [0, 1, 2, 3, 4] (lv' := [(0, .ref 59), (1, .int x1), (2, .int x2), (3, .long x3), (5, .int (x5 + 1))]) rfl ?_
      exact h
abbrev Z_M_best (g : gm_G) (Q : Int64 → mI → mL → gm_cfg → Prop) (pc : Nat) (lv : List (Nat × Value)) (st : List Value) (I : mI) (L : mL) (c : gm_cfg) : Prop := gm_X g RX11 "best" cX11_best 4 (some .long) 8 0 0 (qL Q) 0 0 pc lv st (SH, I, L, RR c)
abbrev C_M_best (g : gm_G) (x1 : Int32) (x2 : Int32) (I : mI) (L : mL) (c : gm_cfg) (Q : Int64 → mI → mL → gm_cfg → Prop) : Prop := gm_Met g yX11_best cX11_best 4 (some .long) 8 0 0 [.ref 59, .int x1, .int x2] (SH, I, L, RR c) (qL Q)
set_option maxRecDepth 100000 in
theorem e_M_best {g : gm_G} {Q : Int64 → mI → mL → gm_cfg → Prop} {x1 x2 : Int32} {I : mI} {L : mL} {c : gm_cfg} (h : (C_M_within g (Int32.toInt64 x2) 0 1 (gm_u I 59 0 0) L c (fun b4 I1 L2 c3 => ((b4 = false → Q (-2) I1 L2 c3) ∧ (b4 = true → (C_M_laysAll g x1 I1 L2 c3 (fun b8 I5 L6 c7 => ((b8 = false → Q (-3) I5 L6 c7) ∧ (b8 = true → (C_M_bestBy g (-1) I5 L6 c7 (fun r12 I9 L10 c11 => ((x2 = 0 → Q (Int32.toInt64 r12) I9 L10 c11) ∧ (¬ x2 = 0 → (C_M_waysBy g r12 (-1) (-1) I9 L10 c11 (fun r16 I13 L14 c15 => Q r16 I13 L14 c15))))))))))))))) : C_M_best g x1 x2 I L c Q := by
  refine gm_enter (lv := [(0, .ref 59), (1, .int x1), (2, .int x2)]) (by decide) rfl rfl rfl rfl ?_
  show Z_M_best g Q 0 [(0, .ref 59), (1, .int x1), (2, .int x2)] [] I L c
  refine gx_aload_n 0 dX11_best_0 rfl rfl ?_
  refine gx_iconst (v := 0) dX11_best_1 (by decide) ?_
  refine gx_puti 11 0 dX11_best_2 fl_X11_1 rfl rfl rfl ⟨rfl, rfl⟩ ?_
  show Z_M_best g Q 5 [(0, .ref 59), (1, .int x1), (2, .int x2)] [] (gm_u I 59 0 0) L c
  refine gx_iload_n 2 dX11_best_5 rfl rfl ?_
  refine gx_i2l dX11_best_6 ?_
  refine gx_lconst (v := 0) dX11_best_7 (by decide) ?_
  refine gx_lconst (v := 1) dX11_best_8 (by decide) ?_
  refine gx_callS (As := [.long (Int32.toInt64 x2), .long 0, .long 1]) (st := []) dX11_best_9 ml_X11_125 mm_X11_within rfl rfl rfl rfl ⟨rfl, rfl⟩ h (fun v h2 hq => ?_)
  clear h
  obtain ⟨b4, I1, L2, c3, rfl, rfl, h⟩ := hq
  show Z_M_best g Q 12 [(0, .ref 59), (1, .int x1), (2, .int x2)] [.int (gm_b b4)] I1 L2 c3
  refine gx_if_ne 19 dX11_best_12 (by decide) ⟨fun z => ?_, fun z => ?_⟩
  · replace h := h.1 (gm_b0.mp z)
    refine gx_ldc2 dX11_best_15 kl_X11_255 ?_
    exact gx_lret dX11_best_18 rfl rfl rfl ⟨_, _, _, _, rfl, rfl, h⟩
  · replace h := h.2 (gm_bn0 z)
    refine gx_aload_n 0 dX11_best_19 rfl rfl ?_
    refine gx_iload_n 1 dX11_best_20 rfl rfl ?_
    refine gx_callV 11 (As := [.int x1]) (st := []) dX11_best_21 ml_X11_269 mm_X11_laysAll rfl rfl rfl rfl rfl rfl ⟨rfl, rfl⟩ h (fun v h2 hq => ?_)
    clear h
    obtain ⟨b8, I5, L6, c7, rfl, rfl, h⟩ := hq
    show Z_M_best g Q 24 [(0, .ref 59), (1, .int x1), (2, .int x2)] [.int (gm_b b8)] I5 L6 c7
    refine gx_if_ne 31 dX11_best_24 (by decide) ⟨fun z => ?_, fun z => ?_⟩
    · replace h := h.1 (gm_b0.mp z)
      refine gx_ldc2 dX11_best_27 kl_X11_250 ?_
      exact gx_lret dX11_best_30 rfl rfl rfl ⟨_, _, _, _, rfl, rfl, h⟩
    · replace h := h.2 (gm_bn0 z)
      refine gx_aload_n 0 dX11_best_31 rfl rfl ?_
      refine gx_iconst (v := (-1)) dX11_best_32 (by decide) ?_
      refine gx_callV 11 (As := [.int (-1)]) (st := []) dX11_best_33 ml_X11_272 mm_X11_bestBy rfl rfl rfl rfl rfl rfl ⟨rfl, rfl⟩ h (fun v h2 hq => ?_)
      clear h
      obtain ⟨r12, I9, L10, c11, rfl, rfl, h⟩ := hq
      show Z_M_best g Q 36 [(0, .ref 59), (1, .int x1), (2, .int x2)] [.int r12] I9 L10 c11
      refine gx_istore_n (lv' := [(0, .ref 59), (1, .int x1), (2, .int x2), (3, .int r12)]) dX11_best_36 rfl rfl rfl ?_
      refine gx_iload_n 2 dX11_best_37 rfl rfl ?_
      refine gx_if_ne 46 dX11_best_38 (by decide) ⟨fun z => ?_, fun z => ?_⟩
      · replace h := h.1 z
        refine gx_iload_n 3 dX11_best_41 rfl rfl ?_
        refine gx_i2l dX11_best_42 ?_
        refine gx_goto 53 dX11_best_43 (by decide) ?_
        exact gx_lret dX11_best_53 rfl rfl rfl ⟨_, _, _, _, rfl, rfl, h⟩
      · replace h := h.2 z
        refine gx_aload_n 0 dX11_best_46 rfl rfl ?_
        refine gx_iload_n 3 dX11_best_47 rfl rfl ?_
        refine gx_iconst (v := (-1)) dX11_best_48 (by decide) ?_
        refine gx_iconst (v := (-1)) dX11_best_49 (by decide) ?_
        refine gx_callV 11 (As := [.int r12, .int (-1), .int (-1)]) (st := []) dX11_best_50 ml_X11_262 mm_X11_waysBy rfl rfl rfl rfl rfl rfl ⟨rfl, rfl⟩ h (fun v h2 hq => ?_)
        clear h
        obtain ⟨r16, I13, L14, c15, rfl, rfl, h⟩ := hq
        show Z_M_best g Q 53 [(0, .ref 59), (1, .int x1), (2, .int x2), (3, .int r12)] [.long r16] I13 L14 c15
        exact gx_lret dX11_best_53 rfl rfl rfl ⟨_, _, _, _, rfl, rfl, h⟩
abbrev Z_M_waysByTwo (g : gm_G) (Q : Int64 → mI → mL → gm_cfg → Prop) (pc : Nat) (lv : List (Nat × Value)) (st : List Value) (I : mI) (L : mL) (c : gm_cfg) : Prop := gm_X g RX11 "waysByTwo" cX11_waysByTwo 7 (some .long) 2 0 0 (qL Q) 0 0 pc lv st (SH, I, L, RR c)
abbrev C_M_waysByTwo (g : gm_G) (x1 : Int32) (x2 : Int32) (I : mI) (L : mL) (c : gm_cfg) (Q : Int64 → mI → mL → gm_cfg → Prop) : Prop := gm_Met g yX11_waysByTwo cX11_waysByTwo 7 (some .long) 2 0 0 [.ref 59, .int x1, .int x2] (SH, I, L, RR c) (qL Q)
set_option maxRecDepth 100000 in
theorem e_M_waysByTwo {g : gm_G} {Q : Int64 → mI → mL → gm_cfg → Prop} {x1 x2 : Int32} {I : mI} {L : mL} {c : gm_cfg} (h : Z_M_waysByTwo g Q 5 [(0, .ref 59), (1, .int x1), (2, .int x2), (3, .long 0), (5, .int 0)] [] I L c) : C_M_waysByTwo g x1 x2 I L c Q := by
  refine gm_enter (lv := [(0, .ref 59), (1, .int x1), (2, .int x2)]) (by decide) rfl rfl rfl rfl ?_
  show Z_M_waysByTwo g Q 0 [(0, .ref 59), (1, .int x1), (2, .int x2)] [] I L c
  refine gx_lconst (v := 0) dX11_waysByTwo_0 (by decide) ?_
  refine gx_lstore_n (lv' := [(0, .ref 59), (1, .int x1), (2, .int x2), (3, .long 0)]) dX11_waysByTwo_1 rfl rfl rfl ?_
  refine gx_iconst (v := 0) dX11_waysByTwo_2 (by decide) ?_
  refine gx_istore (lv' := [(0, .ref 59), (1, .int x1), (2, .int x2), (3, .long 0), (5, .int 0)]) dX11_waysByTwo_3 rfl rfl ?_
  exact h
set_option maxRecDepth 100000 in
theorem r_M_waysByTwo_5 {g : gm_G} {Q : Int64 → mI → mL → gm_cfg → Prop} {x1 x2 x5 : Int32} {x3 : Int64} {I : mI} {L : mL} {c : gm_cfg} (h : (C_M_gridMany g I L c (fun r4 I1 L2 c3 => ((r4 ≤ x5 → Q x3 I1 L2 c3) ∧ (¬ r4 ≤ x5 → (C_M_off g x1 ((I1 60 2) + x5) I1 L2 c3 (fun r8 I5 L6 c7 => (vp_in x5 200 ∧ ((r8 < (I5 66 (Int32.toNatClampNeg x5)) → (vp_in x5 200 ∧ Z_M_waysByTwo g Q 5 [(0, .ref 59), (1, .int x1), (2, .int x2), (3, .long (x3 + (L6 65 (Int32.toNatClampNeg x5)))), (5, .int (x5 + 1))] [] I5 L6 c7)) ∧ (¬ r8 < (I5 66 (Int32.toNatClampNeg x5)) → (C_M_off g x2 ((I1 60 2) + x5) I5 L6 c7 (fun r12 I9 L10 c11 => (vp_in x5 200 ∧ (((I9 66 (Int32.toNatClampNeg x5)) ≤ r12 → Z_M_waysByTwo g Q 5 [(0, .ref 59), (1, .int x1), (2, .int x2), (3, .long x3), (5, .int (x5 + 1))] [] I9 L10 c11) ∧ (¬ (I9 66 (Int32.toNatClampNeg x5)) ≤ r12 → (vp_in x5 200 ∧ Z_M_waysByTwo g Q 5 [(0, .ref 59), (1, .int x1), (2, .int x2), (3, .long (x3 + (L10 65 (Int32.toNatClampNeg x5)))), (5, .int (x5 + 1))] [] I9 L10 c11)))))))))))))))) : Z_M_waysByTwo g Q 5 [(0, .ref 59), (1, .int x1), (2, .int x2), (3, .long x3), (5, .int x5)] [] I L c := by
  refine gx_iload 4 dX11_waysByTwo_5 rfl ?_
  refine gx_aload_n 0 dX11_waysByTwo_7 rfl rfl ?_
  refine gx_callV 11 (As := []) (st := [.int x5]) dX11_waysByTwo_8 ml_X11_240 mm_X11_gridMany rfl rfl rfl rfl rfl rfl ⟨rfl, rfl⟩ h (fun v h2 hq => ?_)
  clear h
  obtain ⟨r4, I1, L2, c3, rfl, rfl, h⟩ := hq
  show Z_M_waysByTwo g Q 11 [(0, .ref 59), (1, .int x1), (2, .int x2), (3, .long x3), (5, .int x5)] [.int r4, .int x5] I1 L2 c3
  refine gx_icmp_ge 73 dX11_waysByTwo_11 (by decide) ⟨fun z => ?_, fun z => ?_⟩
  · replace h := h.1 z
    refine gx_lload_n 3 dX11_waysByTwo_73 rfl rfl ?_
    exact gx_lret dX11_waysByTwo_74 rfl rfl rfl ⟨_, _, _, _, rfl, rfl, h⟩
  · replace h := h.2 z
    refine gx_aload_n 0 dX11_waysByTwo_14 rfl rfl ?_
    refine gx_getr 11 1 (v := 60) dX11_waysByTwo_15 fl_X11_13 rfl rfl rfl ?_
    refine gx_iconst (v := 2) dX11_waysByTwo_18 (by decide) ?_
    refine gx_iald (v := (I1 60 2)) dX11_waysByTwo_19 rfl rfl (gm_vin rfl) (k := 2) rfl rfl ?_
    refine gx_iload 4 dX11_waysByTwo_20 rfl ?_
    refine gx_iadd dX11_waysByTwo_22 ?_
    refine gx_istore (lv' := [(0, .ref 59), (1, .int x1), (2, .int x2), (3, .long x3), (5, .int x5), (6, .int ((I1 60 2) + x5))]) dX11_waysByTwo_23 rfl rfl ?_
    refine gx_iload_n 1 dX11_waysByTwo_25 rfl rfl ?_
    refine gx_iload 5 dX11_waysByTwo_26 rfl ?_
    refine gx_callS (As := [.int x1, .int ((I1 60 2) + x5)]) (st := []) dX11_waysByTwo_28 ml_X11_162 mm_X11_off rfl rfl rfl rfl ⟨rfl, rfl⟩ h (fun v h2 hq => ?_)
    clear h
    obtain ⟨r8, I5, L6, c7, rfl, rfl, h⟩ := hq
    show Z_M_waysByTwo g Q 31 [(0, .ref 59), (1, .int x1), (2, .int x2), (3, .long x3), (5, .int x5), (6, .int ((I1 60 2) + x5))] [.int r8] I5 L6 c7
    refine gx_aload_n 0 dX11_waysByTwo_31 rfl rfl ?_
    refine gx_getr 11 20 (v := 66) dX11_waysByTwo_32 fl_X11_37 rfl rfl rfl ?_
    refine gx_iload 4 dX11_waysByTwo_35 rfl ?_
    obtain ⟨hi, h⟩ := h
    refine gx_iald (v := (I5 66 (Int32.toNatClampNeg x5))) dX11_waysByTwo_37 rfl rfl hi (k := (Int32.toNatClampNeg x5)) rfl rfl ?_
    refine gx_icmp_lt 57 dX11_waysByTwo_38 (by decide) ⟨fun z => ?_, fun z => ?_⟩
    · replace h := h.1 z
      refine gx_lload_n 3 dX11_waysByTwo_57 rfl rfl ?_
      refine gx_aload_n 0 dX11_waysByTwo_58 rfl rfl ?_
      refine gx_getr 11 18 (v := 65) dX11_waysByTwo_59 fl_X11_33 rfl rfl rfl ?_
      refine gx_iload 4 dX11_waysByTwo_62 rfl ?_
      obtain ⟨hi, h⟩ := h
      refine gx_lald (v := (L6 65 (Int32.toNatClampNeg x5))) dX11_waysByTwo_64 rfl rfl hi (k := (Int32.toNatClampNeg x5)) rfl rfl ?_
      refine gx_ladd dX11_waysByTwo_65 ?_
      refine gx_lstore_n (lv' := [(0, .ref 59), (1, .int x1), (2, .int x2), (3, .long (x3 + (L6 65 (Int32.toNatClampNeg x5)))), (5, .int x5), (6, .int ((I1 60 2) + x5))]) dX11_waysByTwo_66 rfl rfl rfl ?_
      refine gx_iinc (v := (x5 + 1)) (lv' := [(0, .ref 59), (1, .int x1), (2, .int x2), (3, .long (x3 + (L6 65 (Int32.toNatClampNeg x5)))), (5, .int (x5 + 1)), (6, .int ((I1 60 2) + x5))]) 4 dX11_waysByTwo_67 rfl rfl rfl rfl ?_
      refine gx_goto 5 dX11_waysByTwo_70 (by decide) ?_
      refine gx_sub [0, 1, 2, 3, 4] (lv' := [(0, .ref 59), (1, .int x1), (2, .int x2), (3, .long (x3 + (L6 65 (Int32.toNatClampNeg x5)))), (5, .int (x5 + 1))]) rfl ?_
      exact h
    · replace h := h.2 z
      refine gx_iload_n 2 dX11_waysByTwo_41 rfl rfl ?_
      refine gx_iload 5 dX11_waysByTwo_42 rfl ?_
      refine gx_callS (As := [.int x2, .int ((I1 60 2) + x5)]) (st := []) dX11_waysByTwo_44 ml_X11_162 mm_X11_off rfl rfl rfl rfl ⟨rfl, rfl⟩ h (fun v h2 hq => ?_)
      clear h
      obtain ⟨r12, I9, L10, c11, rfl, rfl, h⟩ := hq
      show Z_M_waysByTwo g Q 47 [(0, .ref 59), (1, .int x1), (2, .int x2), (3, .long x3), (5, .int x5), (6, .int ((I1 60 2) + x5))] [.int r12] I9 L10 c11
      refine gx_aload_n 0 dX11_waysByTwo_47 rfl rfl ?_
      refine gx_getr 11 20 (v := 66) dX11_waysByTwo_48 fl_X11_37 rfl rfl rfl ?_
      refine gx_iload 4 dX11_waysByTwo_51 rfl ?_
      obtain ⟨hi, h⟩ := h
      refine gx_iald (v := (I9 66 (Int32.toNatClampNeg x5))) dX11_waysByTwo_53 rfl rfl hi (k := (Int32.toNatClampNeg x5)) rfl rfl ?_
      refine gx_icmp_ge 67 dX11_waysByTwo_54 (by decide) ⟨fun z => ?_, fun z => ?_⟩
      · replace h := h.1 z
        refine gx_iinc (v := (x5 + 1)) (lv' := [(0, .ref 59), (1, .int x1), (2, .int x2), (3, .long x3), (5, .int (x5 + 1)), (6, .int ((I1 60 2) + x5))]) 4 dX11_waysByTwo_67 rfl rfl rfl rfl ?_
        refine gx_goto 5 dX11_waysByTwo_70 (by decide) ?_
        refine gx_sub [0, 1, 2, 3, 4] (lv' := [(0, .ref 59), (1, .int x1), (2, .int x2), (3, .long x3), (5, .int (x5 + 1))]) rfl ?_
        exact h
      · replace h := h.2 z
        refine gx_lload_n 3 dX11_waysByTwo_57 rfl rfl ?_
        refine gx_aload_n 0 dX11_waysByTwo_58 rfl rfl ?_
        refine gx_getr 11 18 (v := 65) dX11_waysByTwo_59 fl_X11_33 rfl rfl rfl ?_
        refine gx_iload 4 dX11_waysByTwo_62 rfl ?_
        obtain ⟨hi, h⟩ := h
        refine gx_lald (v := (L10 65 (Int32.toNatClampNeg x5))) dX11_waysByTwo_64 rfl rfl hi (k := (Int32.toNatClampNeg x5)) rfl rfl ?_
        refine gx_ladd dX11_waysByTwo_65 ?_
        refine gx_lstore_n (lv' := [(0, .ref 59), (1, .int x1), (2, .int x2), (3, .long (x3 + (L10 65 (Int32.toNatClampNeg x5)))), (5, .int x5), (6, .int ((I1 60 2) + x5))]) dX11_waysByTwo_66 rfl rfl rfl ?_
        refine gx_iinc (v := (x5 + 1)) (lv' := [(0, .ref 59), (1, .int x1), (2, .int x2), (3, .long (x3 + (L10 65 (Int32.toNatClampNeg x5)))), (5, .int (x5 + 1)), (6, .int ((I1 60 2) + x5))]) 4 dX11_waysByTwo_67 rfl rfl rfl rfl ?_
        refine gx_goto 5 dX11_waysByTwo_70 (by decide) ?_
        refine gx_sub [0, 1, 2, 3, 4] (lv' := [(0, .ref 59), (1, .int x1), (2, .int x2), (3, .long (x3 + (L10 65 (Int32.toNatClampNeg x5)))), (5, .int (x5 + 1))]) rfl ?_
        exact h
abbrev Z_M_laysTwo (g : gm_G) (Q : Int64 → mI → mL → gm_cfg → Prop) (pc : Nat) (lv : List (Nat × Value)) (st : List Value) (I : mI) (L : mL) (c : gm_cfg) : Prop := gm_X g RX11 "laysTwo" cX11_laysTwo 7 (some .long) 3 0 0 (qL Q) 0 0 pc lv st (SH, I, L, RR c)
abbrev C_M_laysTwo (g : gm_G) (I : mI) (L : mL) (c : gm_cfg) (Q : Int64 → mI → mL → gm_cfg → Prop) : Prop := gm_Met g yX11_laysTwo cX11_laysTwo 7 (some .long) 3 0 0 [.ref 59] (SH, I, L, RR c) (qL Q)
set_option maxRecDepth 100000 in
theorem e_M_laysTwo {g : gm_G} {Q : Int64 → mI → mL → gm_cfg → Prop} {I : mI} {L : mL} {c : gm_cfg} (h : Z_M_laysTwo g Q 11 [(0, .ref 59), (1, .long (-1)), (3, .int (I 60 2))] [] I L c) : C_M_laysTwo g  I L c Q := by
  refine gm_enter (lv := [(0, .ref 59)]) (by decide) rfl rfl rfl rfl ?_
  show Z_M_laysTwo g Q 0 [(0, .ref 59)] [] I L c
  refine gx_ldc2 dX11_laysTwo_0 kl_X11_257 ?_
  refine gx_lstore_n (lv' := [(0, .ref 59), (1, .long (-1))]) dX11_laysTwo_3 rfl rfl rfl ?_
  refine gx_aload_n 0 dX11_laysTwo_4 rfl rfl ?_
  refine gx_getr 11 1 (v := 60) dX11_laysTwo_5 fl_X11_13 rfl rfl rfl ?_
  refine gx_iconst (v := 2) dX11_laysTwo_8 (by decide) ?_
  refine gx_iald (v := (I 60 2)) dX11_laysTwo_9 rfl rfl (gm_vin rfl) (k := 2) rfl rfl ?_
  refine gx_istore_n (lv' := [(0, .ref 59), (1, .long (-1)), (3, .int (I 60 2))]) dX11_laysTwo_10 rfl rfl rfl ?_
  exact h
set_option maxRecDepth 100000 in
theorem r_M_laysTwo_11 {g : gm_G} {Q : Int64 → mI → mL → gm_cfg → Prop} {x3 : Int32} {x1 : Int64} {I : mI} {L : mL} {c : gm_cfg} (h : (((I 60 3) ≤ x3 → Q x1 I L c) ∧ (¬ (I 60 3) ≤ x3 → Z_M_laysTwo g Q 26 [(0, .ref 59), (1, .long x1), (3, .int x3), (4, .int (x3 + 1))] [] I L c))) : Z_M_laysTwo g Q 11 [(0, .ref 59), (1, .long x1), (3, .int x3)] [] I L c := by
  refine gx_iload_n 2 dX11_laysTwo_11 rfl rfl ?_
  refine gx_aload_n 0 dX11_laysTwo_12 rfl rfl ?_
  refine gx_getr 11 1 (v := 60) dX11_laysTwo_13 fl_X11_13 rfl rfl rfl ?_
  refine gx_iconst (v := 3) dX11_laysTwo_16 (by decide) ?_
  refine gx_iald (v := (I 60 3)) dX11_laysTwo_17 rfl rfl (gm_vin rfl) (k := 3) rfl rfl ?_
  refine gx_icmp_ge 82 dX11_laysTwo_18 (by decide) ⟨fun z => ?_, fun z => ?_⟩
  · replace h := h.1 z
    refine gx_lload_n 1 dX11_laysTwo_82 rfl rfl ?_
    exact gx_lret dX11_laysTwo_83 rfl rfl rfl ⟨_, _, _, _, rfl, rfl, h⟩
  · replace h := h.2 z
    refine gx_iload_n 2 dX11_laysTwo_21 rfl rfl ?_
    refine gx_iconst (v := 1) dX11_laysTwo_22 (by decide) ?_
    refine gx_iadd dX11_laysTwo_23 ?_
    refine gx_istore (lv' := [(0, .ref 59), (1, .long x1), (3, .int x3), (4, .int (x3 + 1))]) dX11_laysTwo_24 rfl rfl ?_
    exact h
set_option maxRecDepth 100000 in
theorem r_M_laysTwo_26 {g : gm_G} {Q : Int64 → mI → mL → gm_cfg → Prop} {x3 x4 : Int32} {x1 : Int64} {I : mI} {L : mL} {c : gm_cfg} (h : (((I 60 3) < x4 → Z_M_laysTwo g Q 11 [(0, .ref 59), (1, .long x1), (3, .int (x3 + 1))] [] I L c) ∧ (¬ (I 60 3) < x4 → (C_M_waysByTwo g x3 x4 I L c (fun r4 I1 L2 c3 => (((x1 : Int64) < r4 → Z_M_laysTwo g Q 26 [(0, .ref 59), (1, .long r4), (3, .int x3), (4, .int (x4 + 1))] [] (gm_u (gm_u I1 59 21 x3) 59 22 x4) L2 c3) ∧ (¬ (x1 : Int64) < r4 → Z_M_laysTwo g Q 26 [(0, .ref 59), (1, .long x1), (3, .int x3), (4, .int (x4 + 1))] [] I1 L2 c3))))))) : Z_M_laysTwo g Q 26 [(0, .ref 59), (1, .long x1), (3, .int x3), (4, .int x4)] [] I L c := by
  refine gx_iload 3 dX11_laysTwo_26 rfl ?_
  refine gx_aload_n 0 dX11_laysTwo_28 rfl rfl ?_
  refine gx_getr 11 1 (v := 60) dX11_laysTwo_29 fl_X11_13 rfl rfl rfl ?_
  refine gx_iconst (v := 3) dX11_laysTwo_32 (by decide) ?_
  refine gx_iald (v := (I 60 3)) dX11_laysTwo_33 rfl rfl (gm_vin rfl) (k := 3) rfl rfl ?_
  refine gx_icmp_gt 76 dX11_laysTwo_34 (by decide) ⟨fun z => ?_, fun z => ?_⟩
  · replace h := h.1 z
    refine gx_iinc (v := (x3 + 1)) (lv' := [(0, .ref 59), (1, .long x1), (3, .int (x3 + 1)), (4, .int x4)]) 2 dX11_laysTwo_76 rfl rfl rfl rfl ?_
    refine gx_goto 11 dX11_laysTwo_79 (by decide) ?_
    refine gx_sub [0, 1, 2] (lv' := [(0, .ref 59), (1, .long x1), (3, .int (x3 + 1))]) rfl ?_
    exact h
  · replace h := h.2 z
    refine gx_aload_n 0 dX11_laysTwo_37 rfl rfl ?_
    refine gx_iload_n 2 dX11_laysTwo_38 rfl rfl ?_
    refine gx_iload 3 dX11_laysTwo_39 rfl ?_
    refine gx_callV 11 (As := [.int x3, .int x4]) (st := []) dX11_laysTwo_41 ml_X11_275 mm_X11_waysByTwo rfl rfl rfl rfl rfl rfl ⟨rfl, rfl⟩ h (fun v h2 hq => ?_)
    clear h
    obtain ⟨r4, I1, L2, c3, rfl, rfl, h⟩ := hq
    show Z_M_laysTwo g Q 44 [(0, .ref 59), (1, .long x1), (3, .int x3), (4, .int x4)] [.long r4] I1 L2 c3
    refine gx_lstore (lv' := [(0, .ref 59), (1, .long x1), (3, .int x3), (4, .int x4), (5, .long r4)]) dX11_laysTwo_44 rfl rfl ?_
    refine gx_lload 4 dX11_laysTwo_46 rfl ?_
    refine gx_lload_n 1 dX11_laysTwo_48 rfl rfl ?_
    refine gx_lcmp_gt 56 dX11_laysTwo_49 dX11_laysTwo_50 (by decide) ⟨fun z => ?_, fun z => ?_⟩
    · replace h := h.1 z
      refine gx_lload 4 dX11_laysTwo_56 rfl ?_
      refine gx_lstore_n (lv' := [(0, .ref 59), (1, .long r4), (3, .int x3), (4, .int x4), (5, .long r4)]) dX11_laysTwo_58 rfl rfl rfl ?_
      refine gx_aload_n 0 dX11_laysTwo_59 rfl rfl ?_
      refine gx_iload_n 2 dX11_laysTwo_60 rfl rfl ?_
      refine gx_puti 11 21 dX11_laysTwo_61 fl_X11_278 rfl rfl rfl ⟨rfl, rfl⟩ ?_
      show Z_M_laysTwo g Q 64 [(0, .ref 59), (1, .long r4), (3, .int x3), (4, .int x4), (5, .long r4)] [] (gm_u I1 59 21 x3) L2 c3
      refine gx_aload_n 0 dX11_laysTwo_64 rfl rfl ?_
      refine gx_iload 3 dX11_laysTwo_65 rfl ?_
      refine gx_puti 11 22 dX11_laysTwo_67 fl_X11_281 rfl rfl rfl ⟨rfl, rfl⟩ ?_
      show Z_M_laysTwo g Q 70 [(0, .ref 59), (1, .long r4), (3, .int x3), (4, .int x4), (5, .long r4)] [] (gm_u (gm_u I1 59 21 x3) 59 22 x4) L2 c3
      refine gx_iinc (v := (x4 + 1)) (lv' := [(0, .ref 59), (1, .long r4), (3, .int x3), (4, .int (x4 + 1)), (5, .long r4)]) 3 dX11_laysTwo_70 rfl rfl rfl rfl ?_
      refine gx_goto 26 dX11_laysTwo_73 (by decide) ?_
      refine gx_sub [0, 1, 2, 3] (lv' := [(0, .ref 59), (1, .long r4), (3, .int x3), (4, .int (x4 + 1))]) rfl ?_
      exact h
    · replace h := h.2 z
      refine gx_goto 70 dX11_laysTwo_53 (by decide) ?_
      refine gx_iinc (v := (x4 + 1)) (lv' := [(0, .ref 59), (1, .long x1), (3, .int x3), (4, .int (x4 + 1)), (5, .long r4)]) 3 dX11_laysTwo_70 rfl rfl rfl rfl ?_
      refine gx_goto 26 dX11_laysTwo_73 (by decide) ?_
      refine gx_sub [0, 1, 2, 3] (lv' := [(0, .ref 59), (1, .long x1), (3, .int x3), (4, .int (x4 + 1))]) rfl ?_
      exact h
abbrev Z_M_bestTwo (g : gm_G) (Q : Int64 → mI → mL → gm_cfg → Prop) (pc : Nat) (lv : List (Nat × Value)) (st : List Value) (I : mI) (L : mL) (c : gm_cfg) : Prop := gm_X g RX11 "bestTwo" cX11_bestTwo 5 (some .long) 8 0 0 (qL Q) 0 0 pc lv st (SH, I, L, RR c)
abbrev C_M_bestTwo (g : gm_G) (x1 : Int32) (x2 : Int32) (I : mI) (L : mL) (c : gm_cfg) (Q : Int64 → mI → mL → gm_cfg → Prop) : Prop := gm_Met g yX11_bestTwo cX11_bestTwo 5 (some .long) 8 0 0 [.ref 59, .int x1, .int x2] (SH, I, L, RR c) (qL Q)
set_option maxRecDepth 100000 in
theorem e_M_bestTwo {g : gm_G} {Q : Int64 → mI → mL → gm_cfg → Prop} {x1 x2 : Int32} {I : mI} {L : mL} {c : gm_cfg} (h : (C_M_within g (Int32.toInt64 x2) 0 2 (gm_u I 59 0 0) L c (fun b4 I1 L2 c3 => ((b4 = false → Q (-2) I1 L2 c3) ∧ (b4 = true → (C_M_laysAll g x1 I1 L2 c3 (fun b8 I5 L6 c7 => ((b8 = false → Q (-3) I5 L6 c7) ∧ (b8 = true → (C_M_gridMany g I5 L6 c7 (fun r12 I9 L10 c11 => ((r12 = 1 → Q (-5) I9 L10 c11) ∧ (¬ r12 = 1 → (C_M_laysTwo g I9 L10 c11 (fun r16 I13 L14 c15 => ((x2 = 0 → Q (Int32.toInt64 (I13 59 21)) I13 L14 c15) ∧ (¬ x2 = 0 → ((x2 = 1 → Q (Int32.toInt64 (I13 59 22)) I13 L14 c15) ∧ (¬ x2 = 1 → Q r16 I13 L14 c15))))))))))))))))))) : C_M_bestTwo g x1 x2 I L c Q := by
  refine gm_enter (lv := [(0, .ref 59), (1, .int x1), (2, .int x2)]) (by decide) rfl rfl rfl rfl ?_
  show Z_M_bestTwo g Q 0 [(0, .ref 59), (1, .int x1), (2, .int x2)] [] I L c
  refine gx_aload_n 0 dX11_bestTwo_0 rfl rfl ?_
  refine gx_iconst (v := 0) dX11_bestTwo_1 (by decide) ?_
  refine gx_puti 11 0 dX11_bestTwo_2 fl_X11_1 rfl rfl rfl ⟨rfl, rfl⟩ ?_
  show Z_M_bestTwo g Q 5 [(0, .ref 59), (1, .int x1), (2, .int x2)] [] (gm_u I 59 0 0) L c
  refine gx_iload_n 2 dX11_bestTwo_5 rfl rfl ?_
  refine gx_i2l dX11_bestTwo_6 ?_
  refine gx_lconst (v := 0) dX11_bestTwo_7 (by decide) ?_
  refine gx_ldc2 dX11_bestTwo_8 kl_X11_196 ?_
  refine gx_callS (As := [.long (Int32.toInt64 x2), .long 0, .long 2]) (st := []) dX11_bestTwo_11 ml_X11_125 mm_X11_within rfl rfl rfl rfl ⟨rfl, rfl⟩ h (fun v h2 hq => ?_)
  clear h
  obtain ⟨b4, I1, L2, c3, rfl, rfl, h⟩ := hq
  show Z_M_bestTwo g Q 14 [(0, .ref 59), (1, .int x1), (2, .int x2)] [.int (gm_b b4)] I1 L2 c3
  refine gx_if_ne 21 dX11_bestTwo_14 (by decide) ⟨fun z => ?_, fun z => ?_⟩
  · replace h := h.1 (gm_b0.mp z)
    refine gx_ldc2 dX11_bestTwo_17 kl_X11_255 ?_
    exact gx_lret dX11_bestTwo_20 rfl rfl rfl ⟨_, _, _, _, rfl, rfl, h⟩
  · replace h := h.2 (gm_bn0 z)
    refine gx_aload_n 0 dX11_bestTwo_21 rfl rfl ?_
    refine gx_iload_n 1 dX11_bestTwo_22 rfl rfl ?_
    refine gx_callV 11 (As := [.int x1]) (st := []) dX11_bestTwo_23 ml_X11_269 mm_X11_laysAll rfl rfl rfl rfl rfl rfl ⟨rfl, rfl⟩ h (fun v h2 hq => ?_)
    clear h
    obtain ⟨b8, I5, L6, c7, rfl, rfl, h⟩ := hq
    show Z_M_bestTwo g Q 26 [(0, .ref 59), (1, .int x1), (2, .int x2)] [.int (gm_b b8)] I5 L6 c7
    refine gx_if_ne 33 dX11_bestTwo_26 (by decide) ⟨fun z => ?_, fun z => ?_⟩
    · replace h := h.1 (gm_b0.mp z)
      refine gx_ldc2 dX11_bestTwo_29 kl_X11_250 ?_
      exact gx_lret dX11_bestTwo_32 rfl rfl rfl ⟨_, _, _, _, rfl, rfl, h⟩
    · replace h := h.2 (gm_bn0 z)
      refine gx_aload_n 0 dX11_bestTwo_33 rfl rfl ?_
      refine gx_callV 11 (As := []) (st := []) dX11_bestTwo_34 ml_X11_240 mm_X11_gridMany rfl rfl rfl rfl rfl rfl ⟨rfl, rfl⟩ h (fun v h2 hq => ?_)
      clear h
      obtain ⟨r12, I9, L10, c11, rfl, rfl, h⟩ := hq
      show Z_M_bestTwo g Q 37 [(0, .ref 59), (1, .int x1), (2, .int x2)] [.int r12] I9 L10 c11
      refine gx_iconst (v := 1) dX11_bestTwo_37 (by decide) ?_
      refine gx_icmp_ne 45 dX11_bestTwo_38 (by decide) ⟨fun z => ?_, fun z => ?_⟩
      · replace h := h.1 z
        refine gx_ldc2 dX11_bestTwo_41 kl_X11_284 ?_
        exact gx_lret dX11_bestTwo_44 rfl rfl rfl ⟨_, _, _, _, rfl, rfl, h⟩
      · replace h := h.2 z
        refine gx_aload_n 0 dX11_bestTwo_45 rfl rfl ?_
        refine gx_callV 11 (As := []) (st := []) dX11_bestTwo_46 ml_X11_286 mm_X11_laysTwo rfl rfl rfl rfl rfl rfl ⟨rfl, rfl⟩ h (fun v h2 hq => ?_)
        clear h
        obtain ⟨r16, I13, L14, c15, rfl, rfl, h⟩ := hq
        show Z_M_bestTwo g Q 49 [(0, .ref 59), (1, .int x1), (2, .int x2)] [.long r16] I13 L14 c15
        refine gx_lstore_n (lv' := [(0, .ref 59), (1, .int x1), (2, .int x2), (3, .long r16)]) dX11_bestTwo_49 rfl rfl rfl ?_
        refine gx_iload_n 2 dX11_bestTwo_50 rfl rfl ?_
        refine gx_if_ne 62 dX11_bestTwo_51 (by decide) ⟨fun z => ?_, fun z => ?_⟩
        · replace h := h.1 z
          refine gx_aload_n 0 dX11_bestTwo_54 rfl rfl ?_
          refine gx_geti 11 21 (v := (I13 59 21)) dX11_bestTwo_55 fl_X11_278 rfl rfl rfl ?_
          refine gx_i2l dX11_bestTwo_58 ?_
          refine gx_goto 76 dX11_bestTwo_59 (by decide) ?_
          exact gx_lret dX11_bestTwo_76 rfl rfl rfl ⟨_, _, _, _, rfl, rfl, h⟩
        · replace h := h.2 z
          refine gx_iload_n 2 dX11_bestTwo_62 rfl rfl ?_
          refine gx_iconst (v := 1) dX11_bestTwo_63 (by decide) ?_
          refine gx_icmp_ne 75 dX11_bestTwo_64 (by decide) ⟨fun z => ?_, fun z => ?_⟩
          · replace h := h.1 z
            refine gx_aload_n 0 dX11_bestTwo_67 rfl rfl ?_
            refine gx_geti 11 22 (v := (I13 59 22)) dX11_bestTwo_68 fl_X11_281 rfl rfl rfl ?_
            refine gx_i2l dX11_bestTwo_71 ?_
            refine gx_goto 76 dX11_bestTwo_72 (by decide) ?_
            exact gx_lret dX11_bestTwo_76 rfl rfl rfl ⟨_, _, _, _, rfl, rfl, h⟩
          · replace h := h.2 z
            refine gx_lload_n 3 dX11_bestTwo_75 rfl rfl ?_
            exact gx_lret dX11_bestTwo_76 rfl rfl rfl ⟨_, _, _, _, rfl, rfl, h⟩
abbrev Z_M_laysBehind (g : gm_G) (Q : Int64 → mI → mL → gm_cfg → Prop) (pc : Nat) (lv : List (Nat × Value)) (st : List Value) (I : mI) (L : mL) (c : gm_cfg) : Prop := gm_X g RX11 "laysBehind" cX11_laysBehind 7 (some .long) 4 0 0 (qL Q) 0 0 pc lv st (SH, I, L, RR c)
abbrev C_M_laysBehind (g : gm_G) (I : mI) (L : mL) (c : gm_cfg) (Q : Int64 → mI → mL → gm_cfg → Prop) : Prop := gm_Met g yX11_laysBehind cX11_laysBehind 7 (some .long) 4 0 0 [.ref 59] (SH, I, L, RR c) (qL Q)
set_option maxRecDepth 100000 in
theorem e_M_laysBehind {g : gm_G} {Q : Int64 → mI → mL → gm_cfg → Prop} {I : mI} {L : mL} {c : gm_cfg} (h : Z_M_laysBehind g Q 11 [(0, .ref 59), (1, .long (-1)), (3, .int (I 60 2))] [] I L c) : C_M_laysBehind g  I L c Q := by
  refine gm_enter (lv := [(0, .ref 59)]) (by decide) rfl rfl rfl rfl ?_
  show Z_M_laysBehind g Q 0 [(0, .ref 59)] [] I L c
  refine gx_ldc2 dX11_laysBehind_0 kl_X11_257 ?_
  refine gx_lstore_n (lv' := [(0, .ref 59), (1, .long (-1))]) dX11_laysBehind_3 rfl rfl rfl ?_
  refine gx_aload_n 0 dX11_laysBehind_4 rfl rfl ?_
  refine gx_getr 11 1 (v := 60) dX11_laysBehind_5 fl_X11_13 rfl rfl rfl ?_
  refine gx_iconst (v := 2) dX11_laysBehind_8 (by decide) ?_
  refine gx_iald (v := (I 60 2)) dX11_laysBehind_9 rfl rfl (gm_vin rfl) (k := 2) rfl rfl ?_
  refine gx_istore_n (lv' := [(0, .ref 59), (1, .long (-1)), (3, .int (I 60 2))]) dX11_laysBehind_10 rfl rfl rfl ?_
  exact h
set_option maxRecDepth 100000 in
theorem r_M_laysBehind_11 {g : gm_G} {Q : Int64 → mI → mL → gm_cfg → Prop} {x3 : Int32} {x1 : Int64} {I : mI} {L : mL} {c : gm_cfg} (h : (((I 60 3) < x3 → Q x1 I L c) ∧ (¬ (I 60 3) < x3 → (C_M_bestBy g x3 I L c (fun r4 I1 L2 c3 => (C_M_waysBy g x3 (-1) r4 I1 L2 c3 (fun r8 I5 L6 c7 => (((x1 : Int64) < r8 → Z_M_laysBehind g Q 11 [(0, .ref 59), (1, .long r8), (3, .int (x3 + 1))] [] (gm_u (gm_u I5 59 23 x3) 59 24 r4) L6 c7) ∧ (¬ (x1 : Int64) < r8 → Z_M_laysBehind g Q 11 [(0, .ref 59), (1, .long x1), (3, .int (x3 + 1))] [] I5 L6 c7))))))))) : Z_M_laysBehind g Q 11 [(0, .ref 59), (1, .long x1), (3, .int x3)] [] I L c := by
  refine gx_iload_n 2 dX11_laysBehind_11 rfl rfl ?_
  refine gx_aload_n 0 dX11_laysBehind_12 rfl rfl ?_
  refine gx_getr 11 1 (v := 60) dX11_laysBehind_13 fl_X11_13 rfl rfl rfl ?_
  refine gx_iconst (v := 3) dX11_laysBehind_16 (by decide) ?_
  refine gx_iald (v := (I 60 3)) dX11_laysBehind_17 rfl rfl (gm_vin rfl) (k := 3) rfl rfl ?_
  refine gx_icmp_gt 68 dX11_laysBehind_18 (by decide) ⟨fun z => ?_, fun z => ?_⟩
  · replace h := h.1 z
    refine gx_lload_n 1 dX11_laysBehind_68 rfl rfl ?_
    exact gx_lret dX11_laysBehind_69 rfl rfl rfl ⟨_, _, _, _, rfl, rfl, h⟩
  · replace h := h.2 z
    refine gx_aload_n 0 dX11_laysBehind_21 rfl rfl ?_
    refine gx_iload_n 2 dX11_laysBehind_22 rfl rfl ?_
    refine gx_callV 11 (As := [.int x3]) (st := []) dX11_laysBehind_23 ml_X11_272 mm_X11_bestBy rfl rfl rfl rfl rfl rfl ⟨rfl, rfl⟩ h (fun v h2 hq => ?_)
    clear h
    obtain ⟨r4, I1, L2, c3, rfl, rfl, h⟩ := hq
    show Z_M_laysBehind g Q 26 [(0, .ref 59), (1, .long x1), (3, .int x3)] [.int r4] I1 L2 c3
    refine gx_istore (lv' := [(0, .ref 59), (1, .long x1), (3, .int x3), (4, .int r4)]) dX11_laysBehind_26 rfl rfl ?_
    refine gx_aload_n 0 dX11_laysBehind_28 rfl rfl ?_
    refine gx_iload_n 2 dX11_laysBehind_29 rfl rfl ?_
    refine gx_iconst (v := (-1)) dX11_laysBehind_30 (by decide) ?_
    refine gx_iload 3 dX11_laysBehind_31 rfl ?_
    refine gx_callV 11 (As := [.int x3, .int (-1), .int r4]) (st := []) dX11_laysBehind_33 ml_X11_262 mm_X11_waysBy rfl rfl rfl rfl rfl rfl ⟨rfl, rfl⟩ h (fun v h2 hq => ?_)
    clear h
    obtain ⟨r8, I5, L6, c7, rfl, rfl, h⟩ := hq
    show Z_M_laysBehind g Q 36 [(0, .ref 59), (1, .long x1), (3, .int x3), (4, .int r4)] [.long r8] I5 L6 c7
    refine gx_lstore (lv' := [(0, .ref 59), (1, .long x1), (3, .int x3), (4, .int r4), (5, .long r8)]) dX11_laysBehind_36 rfl rfl ?_
    refine gx_lload 4 dX11_laysBehind_38 rfl ?_
    refine gx_lload_n 1 dX11_laysBehind_40 rfl rfl ?_
    refine gx_lcmp_gt 48 dX11_laysBehind_41 dX11_laysBehind_42 (by decide) ⟨fun z => ?_, fun z => ?_⟩
    · replace h := h.1 z
      refine gx_lload 4 dX11_laysBehind_48 rfl ?_
      refine gx_lstore_n (lv' := [(0, .ref 59), (1, .long r8), (3, .int x3), (4, .int r4), (5, .long r8)]) dX11_laysBehind_50 rfl rfl rfl ?_
      refine gx_aload_n 0 dX11_laysBehind_51 rfl rfl ?_
      refine gx_iload_n 2 dX11_laysBehind_52 rfl rfl ?_
      refine gx_puti 11 23 dX11_laysBehind_53 fl_X11_290 rfl rfl rfl ⟨rfl, rfl⟩ ?_
      show Z_M_laysBehind g Q 56 [(0, .ref 59), (1, .long r8), (3, .int x3), (4, .int r4), (5, .long r8)] [] (gm_u I5 59 23 x3) L6 c7
      refine gx_aload_n 0 dX11_laysBehind_56 rfl rfl ?_
      refine gx_iload 3 dX11_laysBehind_57 rfl ?_
      refine gx_puti 11 24 dX11_laysBehind_59 fl_X11_293 rfl rfl rfl ⟨rfl, rfl⟩ ?_
      show Z_M_laysBehind g Q 62 [(0, .ref 59), (1, .long r8), (3, .int x3), (4, .int r4), (5, .long r8)] [] (gm_u (gm_u I5 59 23 x3) 59 24 r4) L6 c7
      refine gx_iinc (v := (x3 + 1)) (lv' := [(0, .ref 59), (1, .long r8), (3, .int (x3 + 1)), (4, .int r4), (5, .long r8)]) 2 dX11_laysBehind_62 rfl rfl rfl rfl ?_
      refine gx_goto 11 dX11_laysBehind_65 (by decide) ?_
      refine gx_sub [0, 1, 2] (lv' := [(0, .ref 59), (1, .long r8), (3, .int (x3 + 1))]) rfl ?_
      exact h
    · replace h := h.2 z
      refine gx_goto 62 dX11_laysBehind_45 (by decide) ?_
      refine gx_iinc (v := (x3 + 1)) (lv' := [(0, .ref 59), (1, .long x1), (3, .int (x3 + 1)), (4, .int r4), (5, .long r8)]) 2 dX11_laysBehind_62 rfl rfl rfl rfl ?_
      refine gx_goto 11 dX11_laysBehind_65 (by decide) ?_
      refine gx_sub [0, 1, 2] (lv' := [(0, .ref 59), (1, .long x1), (3, .int (x3 + 1))]) rfl ?_
      exact h
abbrev Z_M_behind (g : gm_G) (Q : Int64 → mI → mL → gm_cfg → Prop) (pc : Nat) (lv : List (Nat × Value)) (st : List Value) (I : mI) (L : mL) (c : gm_cfg) : Prop := gm_X g RX11 "behind" cX11_behind 5 (some .long) 8 0 0 (qL Q) 0 0 pc lv st (SH, I, L, RR c)
abbrev C_M_behind (g : gm_G) (x1 : Int32) (x2 : Int32) (I : mI) (L : mL) (c : gm_cfg) (Q : Int64 → mI → mL → gm_cfg → Prop) : Prop := gm_Met g yX11_behind cX11_behind 5 (some .long) 8 0 0 [.ref 59, .int x1, .int x2] (SH, I, L, RR c) (qL Q)
set_option maxRecDepth 100000 in
theorem e_M_behind {g : gm_G} {Q : Int64 → mI → mL → gm_cfg → Prop} {x1 x2 : Int32} {I : mI} {L : mL} {c : gm_cfg} (h : (C_M_within g (Int32.toInt64 x2) 0 3 (gm_u I 59 0 0) L c (fun b4 I1 L2 c3 => ((b4 = false → Q (-2) I1 L2 c3) ∧ (b4 = true → (C_M_laysAll g x1 I1 L2 c3 (fun b8 I5 L6 c7 => ((b8 = false → Q (-3) I5 L6 c7) ∧ (b8 = true → (C_M_laysBehind g I5 L6 c7 (fun r12 I9 L10 c11 => ((x2 = 0 → Q (Int32.toInt64 (I9 59 23)) I9 L10 c11) ∧ (¬ x2 = 0 → ((x2 = 1 → Q r12 I9 L10 c11) ∧ (¬ x2 = 1 → ((x2 = 2 → Q (Int32.toInt64 (I9 59 24)) I9 L10 c11) ∧ (¬ x2 = 2 → (C_M_waysBy g (I9 59 24) (I9 59 23) (-1) I9 L10 c11 (fun r16 I13 L14 c15 => Q r16 I13 L14 c15))))))))))))))))))) : C_M_behind g x1 x2 I L c Q := by
  refine gm_enter (lv := [(0, .ref 59), (1, .int x1), (2, .int x2)]) (by decide) rfl rfl rfl rfl ?_
  show Z_M_behind g Q 0 [(0, .ref 59), (1, .int x1), (2, .int x2)] [] I L c
  refine gx_aload_n 0 dX11_behind_0 rfl rfl ?_
  refine gx_iconst (v := 0) dX11_behind_1 (by decide) ?_
  refine gx_puti 11 0 dX11_behind_2 fl_X11_1 rfl rfl rfl ⟨rfl, rfl⟩ ?_
  show Z_M_behind g Q 5 [(0, .ref 59), (1, .int x1), (2, .int x2)] [] (gm_u I 59 0 0) L c
  refine gx_iload_n 2 dX11_behind_5 rfl rfl ?_
  refine gx_i2l dX11_behind_6 ?_
  refine gx_lconst (v := 0) dX11_behind_7 (by decide) ?_
  refine gx_ldc2 dX11_behind_8 kl_X11_194 ?_
  refine gx_callS (As := [.long (Int32.toInt64 x2), .long 0, .long 3]) (st := []) dX11_behind_11 ml_X11_125 mm_X11_within rfl rfl rfl rfl ⟨rfl, rfl⟩ h (fun v h2 hq => ?_)
  clear h
  obtain ⟨b4, I1, L2, c3, rfl, rfl, h⟩ := hq
  show Z_M_behind g Q 14 [(0, .ref 59), (1, .int x1), (2, .int x2)] [.int (gm_b b4)] I1 L2 c3
  refine gx_if_ne 21 dX11_behind_14 (by decide) ⟨fun z => ?_, fun z => ?_⟩
  · replace h := h.1 (gm_b0.mp z)
    refine gx_ldc2 dX11_behind_17 kl_X11_255 ?_
    exact gx_lret dX11_behind_20 rfl rfl rfl ⟨_, _, _, _, rfl, rfl, h⟩
  · replace h := h.2 (gm_bn0 z)
    refine gx_aload_n 0 dX11_behind_21 rfl rfl ?_
    refine gx_iload_n 1 dX11_behind_22 rfl rfl ?_
    refine gx_callV 11 (As := [.int x1]) (st := []) dX11_behind_23 ml_X11_269 mm_X11_laysAll rfl rfl rfl rfl rfl rfl ⟨rfl, rfl⟩ h (fun v h2 hq => ?_)
    clear h
    obtain ⟨b8, I5, L6, c7, rfl, rfl, h⟩ := hq
    show Z_M_behind g Q 26 [(0, .ref 59), (1, .int x1), (2, .int x2)] [.int (gm_b b8)] I5 L6 c7
    refine gx_if_ne 33 dX11_behind_26 (by decide) ⟨fun z => ?_, fun z => ?_⟩
    · replace h := h.1 (gm_b0.mp z)
      refine gx_ldc2 dX11_behind_29 kl_X11_250 ?_
      exact gx_lret dX11_behind_32 rfl rfl rfl ⟨_, _, _, _, rfl, rfl, h⟩
    · replace h := h.2 (gm_bn0 z)
      refine gx_aload_n 0 dX11_behind_33 rfl rfl ?_
      refine gx_callV 11 (As := []) (st := []) dX11_behind_34 ml_X11_296 mm_X11_laysBehind rfl rfl rfl rfl rfl rfl ⟨rfl, rfl⟩ h (fun v h2 hq => ?_)
      clear h
      obtain ⟨r12, I9, L10, c11, rfl, rfl, h⟩ := hq
      show Z_M_behind g Q 37 [(0, .ref 59), (1, .int x1), (2, .int x2)] [.long r12] I9 L10 c11
      refine gx_lstore_n (lv' := [(0, .ref 59), (1, .int x1), (2, .int x2), (3, .long r12)]) dX11_behind_37 rfl rfl rfl ?_
      refine gx_iload_n 2 dX11_behind_38 rfl rfl ?_
      refine gx_if_ne 50 dX11_behind_39 (by decide) ⟨fun z => ?_, fun z => ?_⟩
      · replace h := h.1 z
        refine gx_aload_n 0 dX11_behind_42 rfl rfl ?_
        refine gx_geti 11 23 (v := (I9 59 23)) dX11_behind_43 fl_X11_290 rfl rfl rfl ?_
        refine gx_i2l dX11_behind_46 ?_
        refine gx_goto 85 dX11_behind_47 (by decide) ?_
        exact gx_lret dX11_behind_85 rfl rfl rfl ⟨_, _, _, _, rfl, rfl, h⟩
      · replace h := h.2 z
        refine gx_iload_n 2 dX11_behind_50 rfl rfl ?_
        refine gx_iconst (v := 1) dX11_behind_51 (by decide) ?_
        refine gx_icmp_ne 59 dX11_behind_52 (by decide) ⟨fun z => ?_, fun z => ?_⟩
        · replace h := h.1 z
          refine gx_lload_n 3 dX11_behind_55 rfl rfl ?_
          refine gx_goto 85 dX11_behind_56 (by decide) ?_
          exact gx_lret dX11_behind_85 rfl rfl rfl ⟨_, _, _, _, rfl, rfl, h⟩
        · replace h := h.2 z
          refine gx_iload_n 2 dX11_behind_59 rfl rfl ?_
          refine gx_iconst (v := 2) dX11_behind_60 (by decide) ?_
          refine gx_icmp_ne 72 dX11_behind_61 (by decide) ⟨fun z => ?_, fun z => ?_⟩
          · replace h := h.1 z
            refine gx_aload_n 0 dX11_behind_64 rfl rfl ?_
            refine gx_geti 11 24 (v := (I9 59 24)) dX11_behind_65 fl_X11_293 rfl rfl rfl ?_
            refine gx_i2l dX11_behind_68 ?_
            refine gx_goto 85 dX11_behind_69 (by decide) ?_
            exact gx_lret dX11_behind_85 rfl rfl rfl ⟨_, _, _, _, rfl, rfl, h⟩
          · replace h := h.2 z
            refine gx_aload_n 0 dX11_behind_72 rfl rfl ?_
            refine gx_aload_n 0 dX11_behind_73 rfl rfl ?_
            refine gx_geti 11 24 (v := (I9 59 24)) dX11_behind_74 fl_X11_293 rfl rfl rfl ?_
            refine gx_aload_n 0 dX11_behind_77 rfl rfl ?_
            refine gx_geti 11 23 (v := (I9 59 23)) dX11_behind_78 fl_X11_290 rfl rfl rfl ?_
            refine gx_iconst (v := (-1)) dX11_behind_81 (by decide) ?_
            refine gx_callV 11 (As := [.int (I9 59 24), .int (I9 59 23), .int (-1)]) (st := []) dX11_behind_82 ml_X11_262 mm_X11_waysBy rfl rfl rfl rfl rfl rfl ⟨rfl, rfl⟩ h (fun v h2 hq => ?_)
            clear h
            obtain ⟨r16, I13, L14, c15, rfl, rfl, h⟩ := hq
            show Z_M_behind g Q 85 [(0, .ref 59), (1, .int x1), (2, .int x2), (3, .long r12)] [.long r16] I13 L14 c15
            exact gx_lret dX11_behind_85 rfl rfl rfl ⟨_, _, _, _, rfl, rfl, h⟩
abbrev Z_M_waits (g : gm_G) (Q : Int64 → mI → mL → gm_cfg → Prop) (pc : Nat) (lv : List (Nat × Value)) (st : List Value) (I : mI) (L : mL) (c : gm_cfg) : Prop := gm_X g RX11 "waits" cX11_waits 6 (some .long) 8 0 0 (qL Q) 0 0 pc lv st (SH, I, L, RR c)
abbrev C_M_waits (g : gm_G) (x1 : Int32) (x2 : Int32) (I : mI) (L : mL) (c : gm_cfg) (Q : Int64 → mI → mL → gm_cfg → Prop) : Prop := gm_Met g yX11_waits cX11_waits 6 (some .long) 8 0 0 [.ref 59, .int x1, .int x2] (SH, I, L, RR c) (qL Q)
set_option maxRecDepth 100000 in
theorem e_M_waits {g : gm_G} {Q : Int64 → mI → mL → gm_cfg → Prop} {x1 x2 : Int32} {I : mI} {L : mL} {c : gm_cfg} (h : (C_M_within g (Int32.toInt64 x2) 0 1 (gm_u I 59 0 0) L c (fun b4 I1 L2 c3 => ((b4 = false → Q (-2) I1 L2 c3) ∧ (b4 = true → (C_M_laysAll g x1 I1 L2 c3 (fun b8 I5 L6 c7 => ((b8 = false → Q (-3) I5 L6 c7) ∧ (b8 = true → (C_M_bestBy g (-1) I5 L6 c7 (fun r12 I9 L10 c11 => (C_M_bestBy g r12 I9 L10 c11 (fun r16 I13 L14 c15 => (C_M_waysBy g r16 r12 (-1) I13 L14 c15 (fun r20 I17 L18 c19 => ((x2 = 1 → Q r20 I17 L18 c19) ∧ (¬ x2 = 1 → (C_M_laysBehind g I17 L18 c19 (fun r24 I21 L22 c23 => (((r20 : Int64) ≤ r24 → Q 0 I21 L22 c23) ∧ (¬ (r20 : Int64) ≤ r24 → Q 1 I21 L22 c23))))))))))))))))))))) : C_M_waits g x1 x2 I L c Q := by
  refine gm_enter (lv := [(0, .ref 59), (1, .int x1), (2, .int x2)]) (by decide) rfl rfl rfl rfl ?_
  show Z_M_waits g Q 0 [(0, .ref 59), (1, .int x1), (2, .int x2)] [] I L c
  refine gx_aload_n 0 dX11_waits_0 rfl rfl ?_
  refine gx_iconst (v := 0) dX11_waits_1 (by decide) ?_
  refine gx_puti 11 0 dX11_waits_2 fl_X11_1 rfl rfl rfl ⟨rfl, rfl⟩ ?_
  show Z_M_waits g Q 5 [(0, .ref 59), (1, .int x1), (2, .int x2)] [] (gm_u I 59 0 0) L c
  refine gx_iload_n 2 dX11_waits_5 rfl rfl ?_
  refine gx_i2l dX11_waits_6 ?_
  refine gx_lconst (v := 0) dX11_waits_7 (by decide) ?_
  refine gx_lconst (v := 1) dX11_waits_8 (by decide) ?_
  refine gx_callS (As := [.long (Int32.toInt64 x2), .long 0, .long 1]) (st := []) dX11_waits_9 ml_X11_125 mm_X11_within rfl rfl rfl rfl ⟨rfl, rfl⟩ h (fun v h2 hq => ?_)
  clear h
  obtain ⟨b4, I1, L2, c3, rfl, rfl, h⟩ := hq
  show Z_M_waits g Q 12 [(0, .ref 59), (1, .int x1), (2, .int x2)] [.int (gm_b b4)] I1 L2 c3
  refine gx_if_ne 19 dX11_waits_12 (by decide) ⟨fun z => ?_, fun z => ?_⟩
  · replace h := h.1 (gm_b0.mp z)
    refine gx_ldc2 dX11_waits_15 kl_X11_255 ?_
    exact gx_lret dX11_waits_18 rfl rfl rfl ⟨_, _, _, _, rfl, rfl, h⟩
  · replace h := h.2 (gm_bn0 z)
    refine gx_aload_n 0 dX11_waits_19 rfl rfl ?_
    refine gx_iload_n 1 dX11_waits_20 rfl rfl ?_
    refine gx_callV 11 (As := [.int x1]) (st := []) dX11_waits_21 ml_X11_269 mm_X11_laysAll rfl rfl rfl rfl rfl rfl ⟨rfl, rfl⟩ h (fun v h2 hq => ?_)
    clear h
    obtain ⟨b8, I5, L6, c7, rfl, rfl, h⟩ := hq
    show Z_M_waits g Q 24 [(0, .ref 59), (1, .int x1), (2, .int x2)] [.int (gm_b b8)] I5 L6 c7
    refine gx_if_ne 31 dX11_waits_24 (by decide) ⟨fun z => ?_, fun z => ?_⟩
    · replace h := h.1 (gm_b0.mp z)
      refine gx_ldc2 dX11_waits_27 kl_X11_250 ?_
      exact gx_lret dX11_waits_30 rfl rfl rfl ⟨_, _, _, _, rfl, rfl, h⟩
    · replace h := h.2 (gm_bn0 z)
      refine gx_aload_n 0 dX11_waits_31 rfl rfl ?_
      refine gx_iconst (v := (-1)) dX11_waits_32 (by decide) ?_
      refine gx_callV 11 (As := [.int (-1)]) (st := []) dX11_waits_33 ml_X11_272 mm_X11_bestBy rfl rfl rfl rfl rfl rfl ⟨rfl, rfl⟩ h (fun v h2 hq => ?_)
      clear h
      obtain ⟨r12, I9, L10, c11, rfl, rfl, h⟩ := hq
      show Z_M_waits g Q 36 [(0, .ref 59), (1, .int x1), (2, .int x2)] [.int r12] I9 L10 c11
      refine gx_istore_n (lv' := [(0, .ref 59), (1, .int x1), (2, .int x2), (3, .int r12)]) dX11_waits_36 rfl rfl rfl ?_
      refine gx_aload_n 0 dX11_waits_37 rfl rfl ?_
      refine gx_aload_n 0 dX11_waits_38 rfl rfl ?_
      refine gx_iload_n 3 dX11_waits_39 rfl rfl ?_
      refine gx_callV 11 (As := [.int r12]) (st := [.ref 59]) dX11_waits_40 ml_X11_272 mm_X11_bestBy rfl rfl rfl rfl rfl rfl ⟨rfl, rfl⟩ h (fun v h2 hq => ?_)
      clear h
      obtain ⟨r16, I13, L14, c15, rfl, rfl, h⟩ := hq
      show Z_M_waits g Q 43 [(0, .ref 59), (1, .int x1), (2, .int x2), (3, .int r12)] [.int r16, .ref 59] I13 L14 c15
      refine gx_iload_n 3 dX11_waits_43 rfl rfl ?_
      refine gx_iconst (v := (-1)) dX11_waits_44 (by decide) ?_
      refine gx_callV 11 (As := [.int r16, .int r12, .int (-1)]) (st := []) dX11_waits_45 ml_X11_262 mm_X11_waysBy rfl rfl rfl rfl rfl rfl ⟨rfl, rfl⟩ h (fun v h2 hq => ?_)
      clear h
      obtain ⟨r20, I17, L18, c19, rfl, rfl, h⟩ := hq
      show Z_M_waits g Q 48 [(0, .ref 59), (1, .int x1), (2, .int x2), (3, .int r12)] [.long r20] I17 L18 c19
      refine gx_lstore (lv' := [(0, .ref 59), (1, .int x1), (2, .int x2), (3, .int r12), (4, .long r20)]) dX11_waits_48 rfl rfl ?_
      refine gx_iload_n 2 dX11_waits_50 rfl rfl ?_
      refine gx_iconst (v := 1) dX11_waits_51 (by decide) ?_
      refine gx_icmp_ne 60 dX11_waits_52 (by decide) ⟨fun z => ?_, fun z => ?_⟩
      · replace h := h.1 z
        refine gx_lload 4 dX11_waits_55 rfl ?_
        refine gx_goto 75 dX11_waits_57 (by decide) ?_
        exact gx_lret dX11_waits_75 rfl rfl rfl ⟨_, _, _, _, rfl, rfl, h⟩
      · replace h := h.2 z
        refine gx_lload 4 dX11_waits_60 rfl ?_
        refine gx_aload_n 0 dX11_waits_62 rfl rfl ?_
        refine gx_callV 11 (As := []) (st := [.long r20]) dX11_waits_63 ml_X11_296 mm_X11_laysBehind rfl rfl rfl rfl rfl rfl ⟨rfl, rfl⟩ h (fun v h2 hq => ?_)
        clear h
        obtain ⟨r24, I21, L22, c23, rfl, rfl, h⟩ := hq
        show Z_M_waits g Q 66 [(0, .ref 59), (1, .int x1), (2, .int x2), (3, .int r12), (4, .long r20)] [.long r24, .long r20] I21 L22 c23
        refine gx_lcmp_le 74 dX11_waits_66 dX11_waits_67 (by decide) ⟨fun z => ?_, fun z => ?_⟩
        · replace h := h.1 z
          refine gx_lconst (v := 0) dX11_waits_74 (by decide) ?_
          exact gx_lret dX11_waits_75 rfl rfl rfl ⟨_, _, _, _, rfl, rfl, h⟩
        · replace h := h.2 z
          refine gx_lconst (v := 1) dX11_waits_70 (by decide) ?_
          refine gx_goto 75 dX11_waits_71 (by decide) ?_
          exact gx_lret dX11_waits_75 rfl rfl rfl ⟨_, _, _, _, rfl, rfl, h⟩
abbrev Z_M_waysOf (g : gm_G) (Q : Int64 → mI → mL → gm_cfg → Prop) (pc : Nat) (lv : List (Nat × Value)) (st : List Value) (I : mI) (L : mL) (c : gm_cfg) : Prop := gm_X g RX11 "waysOf" cX11_waysOf 6 (some .long) 7 0 0 (qL Q) 0 0 pc lv st (SH, I, L, RR c)
abbrev C_M_waysOf (g : gm_G) (x1 : Int32) (x2 : Int32) (I : mI) (L : mL) (c : gm_cfg) (Q : Int64 → mI → mL → gm_cfg → Prop) : Prop := gm_Met g yX11_waysOf cX11_waysOf 6 (some .long) 7 0 0 [.ref 59, .int x1, .int x2] (SH, I, L, RR c) (qL Q)
set_option maxRecDepth 100000 in
theorem e_M_waysOf {g : gm_G} {Q : Int64 → mI → mL → gm_cfg → Prop} {x1 x2 : Int32} {I : mI} {L : mL} {c : gm_cfg} (h : (C_M_isGuess g x1 (gm_u I 59 0 0) L c (fun b4 I1 L2 c3 => ((b4 = false → Q (-2) I1 L2 c3) ∧ (b4 = true → (C_M_isMany g x2 I1 L2 c3 (fun b8 I5 L6 c7 => ((b8 = false → Q (-3) I5 L6 c7) ∧ (b8 = true → (C_M_laysWays g x2 (-1) I5 L6 c7 (fun I9 L10 c11 => Z_M_waysOf g Q 40 [(0, .ref 59), (1, .int x1), (2, .int x2), (3, .long 0), (5, .int 0)] [] I9 L10 c11))))))))))) : C_M_waysOf g x1 x2 I L c Q := by
  refine gm_enter (lv := [(0, .ref 59), (1, .int x1), (2, .int x2)]) (by decide) rfl rfl rfl rfl ?_
  show Z_M_waysOf g Q 0 [(0, .ref 59), (1, .int x1), (2, .int x2)] [] I L c
  refine gx_aload_n 0 dX11_waysOf_0 rfl rfl ?_
  refine gx_iconst (v := 0) dX11_waysOf_1 (by decide) ?_
  refine gx_puti 11 0 dX11_waysOf_2 fl_X11_1 rfl rfl rfl ⟨rfl, rfl⟩ ?_
  show Z_M_waysOf g Q 5 [(0, .ref 59), (1, .int x1), (2, .int x2)] [] (gm_u I 59 0 0) L c
  refine gx_aload_n 0 dX11_waysOf_5 rfl rfl ?_
  refine gx_iload_n 1 dX11_waysOf_6 rfl rfl ?_
  refine gx_callV 11 (As := [.int x1]) (st := []) dX11_waysOf_7 ml_X11_183 mm_X11_isGuess rfl rfl rfl rfl rfl rfl ⟨rfl, rfl⟩ h (fun v h2 hq => ?_)
  clear h
  obtain ⟨b4, I1, L2, c3, rfl, rfl, h⟩ := hq
  show Z_M_waysOf g Q 10 [(0, .ref 59), (1, .int x1), (2, .int x2)] [.int (gm_b b4)] I1 L2 c3
  refine gx_if_ne 17 dX11_waysOf_10 (by decide) ⟨fun z => ?_, fun z => ?_⟩
  · replace h := h.1 (gm_b0.mp z)
    refine gx_ldc2 dX11_waysOf_13 kl_X11_255 ?_
    exact gx_lret dX11_waysOf_16 rfl rfl rfl ⟨_, _, _, _, rfl, rfl, h⟩
  · replace h := h.2 (gm_bn0 z)
    refine gx_aload_n 0 dX11_waysOf_17 rfl rfl ?_
    refine gx_iload_n 2 dX11_waysOf_18 rfl rfl ?_
    refine gx_callV 11 (As := [.int x2]) (st := []) dX11_waysOf_19 ml_X11_247 mm_X11_isMany rfl rfl rfl rfl rfl rfl ⟨rfl, rfl⟩ h (fun v h2 hq => ?_)
    clear h
    obtain ⟨b8, I5, L6, c7, rfl, rfl, h⟩ := hq
    show Z_M_waysOf g Q 22 [(0, .ref 59), (1, .int x1), (2, .int x2)] [.int (gm_b b8)] I5 L6 c7
    refine gx_if_ne 29 dX11_waysOf_22 (by decide) ⟨fun z => ?_, fun z => ?_⟩
    · replace h := h.1 (gm_b0.mp z)
      refine gx_ldc2 dX11_waysOf_25 kl_X11_250 ?_
      exact gx_lret dX11_waysOf_28 rfl rfl rfl ⟨_, _, _, _, rfl, rfl, h⟩
    · replace h := h.2 (gm_bn0 z)
      refine gx_aload_n 0 dX11_waysOf_29 rfl rfl ?_
      refine gx_iload_n 2 dX11_waysOf_30 rfl rfl ?_
      refine gx_iconst (v := (-1)) dX11_waysOf_31 (by decide) ?_
      refine gx_callV 11 (As := [.int x2, .int (-1)]) (st := []) dX11_waysOf_32 ml_X11_252 mm_X11_laysWays rfl rfl rfl rfl rfl rfl ⟨rfl, rfl⟩ h (fun v h2 hq => ?_)
      clear h
      obtain ⟨I9, L10, c11, rfl, rfl, h⟩ := hq
      show Z_M_waysOf g Q 35 [(0, .ref 59), (1, .int x1), (2, .int x2)] [] I9 L10 c11
      refine gx_lconst (v := 0) dX11_waysOf_35 (by decide) ?_
      refine gx_lstore_n (lv' := [(0, .ref 59), (1, .int x1), (2, .int x2), (3, .long 0)]) dX11_waysOf_36 rfl rfl rfl ?_
      refine gx_iconst (v := 0) dX11_waysOf_37 (by decide) ?_
      refine gx_istore (lv' := [(0, .ref 59), (1, .int x1), (2, .int x2), (3, .long 0), (5, .int 0)]) dX11_waysOf_38 rfl rfl ?_
      exact h
set_option maxRecDepth 100000 in
theorem r_M_waysOf_40 {g : gm_G} {Q : Int64 → mI → mL → gm_cfg → Prop} {x1 x2 x5 : Int32} {x3 : Int64} {I : mI} {L : mL} {c : gm_cfg} (h : (C_M_gridMany g I L c (fun r4 I1 L2 c3 => ((r4 ≤ x5 → Q x3 I1 L2 c3) ∧ (¬ r4 ≤ x5 → (C_M_leaderFor g ((I1 60 2) + x5) I1 L2 c3 (fun r8 I5 L6 c7 => ((r8 = x1 → (vp_in x5 200 ∧ Z_M_waysOf g Q 40 [(0, .ref 59), (1, .int x1), (2, .int x2), (3, .long (x3 + (L6 65 (Int32.toNatClampNeg x5)))), (5, .int (x5 + 1))] [] I5 L6 c7)) ∧ (¬ r8 = x1 → Z_M_waysOf g Q 40 [(0, .ref 59), (1, .int x1), (2, .int x2), (3, .long (x3 + 0)), (5, .int (x5 + 1))] [] I5 L6 c7))))))))) : Z_M_waysOf g Q 40 [(0, .ref 59), (1, .int x1), (2, .int x2), (3, .long x3), (5, .int x5)] [] I L c := by
  refine gx_iload 4 dX11_waysOf_40 rfl ?_
  refine gx_aload_n 0 dX11_waysOf_42 rfl rfl ?_
  refine gx_callV 11 (As := []) (st := [.int x5]) dX11_waysOf_43 ml_X11_240 mm_X11_gridMany rfl rfl rfl rfl rfl rfl ⟨rfl, rfl⟩ h (fun v h2 hq => ?_)
  clear h
  obtain ⟨r4, I1, L2, c3, rfl, rfl, h⟩ := hq
  show Z_M_waysOf g Q 46 [(0, .ref 59), (1, .int x1), (2, .int x2), (3, .long x3), (5, .int x5)] [.int r4, .int x5] I1 L2 c3
  refine gx_icmp_ge 86 dX11_waysOf_46 (by decide) ⟨fun z => ?_, fun z => ?_⟩
  · replace h := h.1 z
    refine gx_lload_n 3 dX11_waysOf_86 rfl rfl ?_
    exact gx_lret dX11_waysOf_87 rfl rfl rfl ⟨_, _, _, _, rfl, rfl, h⟩
  · replace h := h.2 z
    refine gx_lload_n 3 dX11_waysOf_49 rfl rfl ?_
    refine gx_aload_n 0 dX11_waysOf_50 rfl rfl ?_
    refine gx_aload_n 0 dX11_waysOf_51 rfl rfl ?_
    refine gx_getr 11 1 (v := 60) dX11_waysOf_52 fl_X11_13 rfl rfl rfl ?_
    refine gx_iconst (v := 2) dX11_waysOf_55 (by decide) ?_
    refine gx_iald (v := (I1 60 2)) dX11_waysOf_56 rfl rfl (gm_vin rfl) (k := 2) rfl rfl ?_
    refine gx_iload 4 dX11_waysOf_57 rfl ?_
    refine gx_iadd dX11_waysOf_59 ?_
    refine gx_callV 11 (As := [.int ((I1 60 2) + x5)]) (st := [.long x3]) dX11_waysOf_60 ml_X11_219 mm_X11_leaderFor rfl rfl rfl rfl rfl rfl ⟨rfl, rfl⟩ h (fun v h2 hq => ?_)
    clear h
    obtain ⟨r8, I5, L6, c7, rfl, rfl, h⟩ := hq
    show Z_M_waysOf g Q 63 [(0, .ref 59), (1, .int x1), (2, .int x2), (3, .long x3), (5, .int x5)] [.int r8, .long x3] I5 L6 c7
    refine gx_iload_n 1 dX11_waysOf_63 rfl rfl ?_
    refine gx_icmp_ne 77 dX11_waysOf_64 (by decide) ⟨fun z => ?_, fun z => ?_⟩
    · replace h := h.1 z
      refine gx_aload_n 0 dX11_waysOf_67 rfl rfl ?_
      refine gx_getr 11 18 (v := 65) dX11_waysOf_68 fl_X11_33 rfl rfl rfl ?_
      refine gx_iload 4 dX11_waysOf_71 rfl ?_
      obtain ⟨hi, h⟩ := h
      refine gx_lald (v := (L6 65 (Int32.toNatClampNeg x5))) dX11_waysOf_73 rfl rfl hi (k := (Int32.toNatClampNeg x5)) rfl rfl ?_
      refine gx_goto 78 dX11_waysOf_74 (by decide) ?_
      refine gx_ladd dX11_waysOf_78 ?_
      refine gx_lstore_n (lv' := [(0, .ref 59), (1, .int x1), (2, .int x2), (3, .long (x3 + (L6 65 (Int32.toNatClampNeg x5)))), (5, .int x5)]) dX11_waysOf_79 rfl rfl rfl ?_
      refine gx_iinc (v := (x5 + 1)) (lv' := [(0, .ref 59), (1, .int x1), (2, .int x2), (3, .long (x3 + (L6 65 (Int32.toNatClampNeg x5)))), (5, .int (x5 + 1))]) 4 dX11_waysOf_80 rfl rfl rfl rfl ?_
      refine gx_goto 40 dX11_waysOf_83 (by decide) ?_
      exact h
    · replace h := h.2 z
      refine gx_lconst (v := 0) dX11_waysOf_77 (by decide) ?_
      refine gx_ladd dX11_waysOf_78 ?_
      refine gx_lstore_n (lv' := [(0, .ref 59), (1, .int x1), (2, .int x2), (3, .long (x3 + 0)), (5, .int x5)]) dX11_waysOf_79 rfl rfl rfl ?_
      refine gx_iinc (v := (x5 + 1)) (lv' := [(0, .ref 59), (1, .int x1), (2, .int x2), (3, .long (x3 + 0)), (5, .int (x5 + 1))]) 4 dX11_waysOf_80 rfl rfl rfl rfl ?_
      refine gx_goto 40 dX11_waysOf_83 (by decide) ?_
      exact h
abbrev Z_M_shutIn (g : gm_G) (Q : Int64 → mI → mL → gm_cfg → Prop) (pc : Nat) (lv : List (Nat × Value)) (st : List Value) (I : mI) (L : mL) (c : gm_cfg) : Prop := gm_X g RX11 "shutIn" cX11_shutIn 4 (some .long) 7 0 0 (qL Q) 0 0 pc lv st (SH, I, L, RR c)
abbrev C_M_shutIn (g : gm_G) (x1 : Int32) (x2 : Int32) (I : mI) (L : mL) (c : gm_cfg) (Q : Int64 → mI → mL → gm_cfg → Prop) : Prop := gm_Met g yX11_shutIn cX11_shutIn 4 (some .long) 7 0 0 [.ref 59, .int x1, .int x2] (SH, I, L, RR c) (qL Q)
set_option maxRecDepth 100000 in
theorem e_M_shutIn {g : gm_G} {Q : Int64 → mI → mL → gm_cfg → Prop} {x1 x2 : Int32} {I : mI} {L : mL} {c : gm_cfg} (h : (C_M_isGuess g x1 (gm_u I 59 0 0) L c (fun b4 I1 L2 c3 => ((b4 = false → Q (-2) I1 L2 c3) ∧ (b4 = true → (C_M_isMany g x2 I1 L2 c3 (fun b8 I5 L6 c7 => ((b8 = false → Q (-3) I5 L6 c7) ∧ (b8 = true → (C_M_laysWays g x2 (-1) I5 L6 c7 (fun I9 L10 c11 => (C_M_numberOf g x1 I9 L10 c11 (fun r15 I12 L13 c14 => (C_M_isGrid g r15 I12 L13 c14 (fun b19 I16 L17 c18 => ((b19 = false → Q 0 I16 L17 c18) ∧ (b19 = true → (C_M_leaderFor g r15 I16 L17 c18 (fun r23 I20 L21 c22 => ((r23 = x1 → (vp_in (r15 - (I20 60 2)) 200 ∧ Q (L21 65 (Int32.toNatClampNeg (r15 - (I20 60 2)))) I20 L21 c22)) ∧ (¬ r23 = x1 → Q 0 I20 L21 c22))))))))))))))))))))) : C_M_shutIn g x1 x2 I L c Q := by
  refine gm_enter (lv := [(0, .ref 59), (1, .int x1), (2, .int x2)]) (by decide) rfl rfl rfl rfl ?_
  show Z_M_shutIn g Q 0 [(0, .ref 59), (1, .int x1), (2, .int x2)] [] I L c
  refine gx_aload_n 0 dX11_shutIn_0 rfl rfl ?_
  refine gx_iconst (v := 0) dX11_shutIn_1 (by decide) ?_
  refine gx_puti 11 0 dX11_shutIn_2 fl_X11_1 rfl rfl rfl ⟨rfl, rfl⟩ ?_
  show Z_M_shutIn g Q 5 [(0, .ref 59), (1, .int x1), (2, .int x2)] [] (gm_u I 59 0 0) L c
  refine gx_aload_n 0 dX11_shutIn_5 rfl rfl ?_
  refine gx_iload_n 1 dX11_shutIn_6 rfl rfl ?_
  refine gx_callV 11 (As := [.int x1]) (st := []) dX11_shutIn_7 ml_X11_183 mm_X11_isGuess rfl rfl rfl rfl rfl rfl ⟨rfl, rfl⟩ h (fun v h2 hq => ?_)
  clear h
  obtain ⟨b4, I1, L2, c3, rfl, rfl, h⟩ := hq
  show Z_M_shutIn g Q 10 [(0, .ref 59), (1, .int x1), (2, .int x2)] [.int (gm_b b4)] I1 L2 c3
  refine gx_if_ne 17 dX11_shutIn_10 (by decide) ⟨fun z => ?_, fun z => ?_⟩
  · replace h := h.1 (gm_b0.mp z)
    refine gx_ldc2 dX11_shutIn_13 kl_X11_255 ?_
    exact gx_lret dX11_shutIn_16 rfl rfl rfl ⟨_, _, _, _, rfl, rfl, h⟩
  · replace h := h.2 (gm_bn0 z)
    refine gx_aload_n 0 dX11_shutIn_17 rfl rfl ?_
    refine gx_iload_n 2 dX11_shutIn_18 rfl rfl ?_
    refine gx_callV 11 (As := [.int x2]) (st := []) dX11_shutIn_19 ml_X11_247 mm_X11_isMany rfl rfl rfl rfl rfl rfl ⟨rfl, rfl⟩ h (fun v h2 hq => ?_)
    clear h
    obtain ⟨b8, I5, L6, c7, rfl, rfl, h⟩ := hq
    show Z_M_shutIn g Q 22 [(0, .ref 59), (1, .int x1), (2, .int x2)] [.int (gm_b b8)] I5 L6 c7
    refine gx_if_ne 29 dX11_shutIn_22 (by decide) ⟨fun z => ?_, fun z => ?_⟩
    · replace h := h.1 (gm_b0.mp z)
      refine gx_ldc2 dX11_shutIn_25 kl_X11_250 ?_
      exact gx_lret dX11_shutIn_28 rfl rfl rfl ⟨_, _, _, _, rfl, rfl, h⟩
    · replace h := h.2 (gm_bn0 z)
      refine gx_aload_n 0 dX11_shutIn_29 rfl rfl ?_
      refine gx_iload_n 2 dX11_shutIn_30 rfl rfl ?_
      refine gx_iconst (v := (-1)) dX11_shutIn_31 (by decide) ?_
      refine gx_callV 11 (As := [.int x2, .int (-1)]) (st := []) dX11_shutIn_32 ml_X11_252 mm_X11_laysWays rfl rfl rfl rfl rfl rfl ⟨rfl, rfl⟩ h (fun v h2 hq => ?_)
      clear h
      obtain ⟨I9, L10, c11, rfl, rfl, h⟩ := hq
      show Z_M_shutIn g Q 35 [(0, .ref 59), (1, .int x1), (2, .int x2)] [] I9 L10 c11
      refine gx_aload_n 0 dX11_shutIn_35 rfl rfl ?_
      refine gx_iload_n 1 dX11_shutIn_36 rfl rfl ?_
      refine gx_callV 11 (As := [.int x1]) (st := []) dX11_shutIn_37 ml_X11_171 mm_X11_numberOf rfl rfl rfl rfl rfl rfl ⟨rfl, rfl⟩ h (fun v h2 hq => ?_)
      clear h
      obtain ⟨r15, I12, L13, c14, rfl, rfl, h⟩ := hq
      show Z_M_shutIn g Q 40 [(0, .ref 59), (1, .int x1), (2, .int x2)] [.int r15] I12 L13 c14
      refine gx_istore_n (lv' := [(0, .ref 59), (1, .int x1), (2, .int x2), (3, .int r15)]) dX11_shutIn_40 rfl rfl rfl ?_
      refine gx_aload_n 0 dX11_shutIn_41 rfl rfl ?_
      refine gx_iload_n 3 dX11_shutIn_42 rfl rfl ?_
      refine gx_callV 11 (As := [.int r15]) (st := []) dX11_shutIn_43 ml_X11_165 mm_X11_isGrid rfl rfl rfl rfl rfl rfl ⟨rfl, rfl⟩ h (fun v h2 hq => ?_)
      clear h
      obtain ⟨b19, I16, L17, c18, rfl, rfl, h⟩ := hq
      show Z_M_shutIn g Q 46 [(0, .ref 59), (1, .int x1), (2, .int x2), (3, .int r15)] [.int (gm_b b19)] I16 L17 c18
      refine gx_if_eq 74 dX11_shutIn_46 (by decide) ⟨fun z => ?_, fun z => ?_⟩
      · replace h := h.1 (gm_b0.mp z)
        refine gx_lconst (v := 0) dX11_shutIn_74 (by decide) ?_
        exact gx_lret dX11_shutIn_75 rfl rfl rfl ⟨_, _, _, _, rfl, rfl, h⟩
      · replace h := h.2 (gm_bn0 z)
        refine gx_aload_n 0 dX11_shutIn_49 rfl rfl ?_
        refine gx_iload_n 3 dX11_shutIn_50 rfl rfl ?_
        refine gx_callV 11 (As := [.int r15]) (st := []) dX11_shutIn_51 ml_X11_219 mm_X11_leaderFor rfl rfl rfl rfl rfl rfl ⟨rfl, rfl⟩ h (fun v h2 hq => ?_)
        clear h
        obtain ⟨r23, I20, L21, c22, rfl, rfl, h⟩ := hq
        show Z_M_shutIn g Q 54 [(0, .ref 59), (1, .int x1), (2, .int x2), (3, .int r15)] [.int r23] I20 L21 c22
        refine gx_iload_n 1 dX11_shutIn_54 rfl rfl ?_
        refine gx_icmp_ne 74 dX11_shutIn_55 (by decide) ⟨fun z => ?_, fun z => ?_⟩
        · replace h := h.1 z
          refine gx_aload_n 0 dX11_shutIn_58 rfl rfl ?_
          refine gx_getr 11 18 (v := 65) dX11_shutIn_59 fl_X11_33 rfl rfl rfl ?_
          refine gx_iload_n 3 dX11_shutIn_62 rfl rfl ?_
          refine gx_aload_n 0 dX11_shutIn_63 rfl rfl ?_
          refine gx_getr 11 1 (v := 60) dX11_shutIn_64 fl_X11_13 rfl rfl rfl ?_
          refine gx_iconst (v := 2) dX11_shutIn_67 (by decide) ?_
          refine gx_iald (v := (I20 60 2)) dX11_shutIn_68 rfl rfl (gm_vin rfl) (k := 2) rfl rfl ?_
          refine gx_isub dX11_shutIn_69 ?_
          obtain ⟨hi, h⟩ := h
          refine gx_lald (v := (L21 65 (Int32.toNatClampNeg (r15 - (I20 60 2))))) dX11_shutIn_70 rfl rfl hi (k := (Int32.toNatClampNeg (r15 - (I20 60 2)))) rfl rfl ?_
          refine gx_goto 75 dX11_shutIn_71 (by decide) ?_
          exact gx_lret dX11_shutIn_75 rfl rfl rfl ⟨_, _, _, _, rfl, rfl, h⟩
        · replace h := h.2 z
          refine gx_lconst (v := 0) dX11_shutIn_74 (by decide) ?_
          exact gx_lret dX11_shutIn_75 rfl rfl rfl ⟨_, _, _, _, rfl, rfl, h⟩
abbrev Z_M_gainOf (g : gm_G) (Q : Int64 → mI → mL → gm_cfg → Prop) (pc : Nat) (lv : List (Nat × Value)) (st : List Value) (I : mI) (L : mL) (c : gm_cfg) : Prop := gm_X g RX11 "gainOf" cX11_gainOf 4 (some .long) 4 0 0 (qL Q) 0 0 pc lv st (SH, I, L, RR c)
abbrev C_M_gainOf (g : gm_G) (x1 : Int32) (I : mI) (L : mL) (c : gm_cfg) (Q : Int64 → mI → mL → gm_cfg → Prop) : Prop := gm_Met g yX11_gainOf cX11_gainOf 4 (some .long) 4 0 0 [.ref 59, .int x1] (SH, I, L, RR c) (qL Q)
set_option maxRecDepth 100000 in
theorem e_M_gainOf {g : gm_G} {Q : Int64 → mI → mL → gm_cfg → Prop} {x1 : Int32} {I : mI} {L : mL} {c : gm_cfg} (h : ((x1 = 0 → Q (((Int32.toInt64 (I 60 5)) * 0) - ((Int32.toInt64 ((I 60 4) * x1)) * (L 59 19))) I L c) ∧ (¬ x1 = 0 → ((x1 = 1 → (C_M_bestBy g (-1) I L c (fun r4 I1 L2 c3 => (C_M_waysBy g r4 (-1) (-1) I1 L2 c3 (fun r8 I5 L6 c7 => Q (((Int32.toInt64 (I5 60 5)) * r8) - ((Int32.toInt64 ((I5 60 4) * x1)) * (L6 59 19))) I5 L6 c7))))) ∧ (¬ x1 = 1 → (C_M_laysTwo g I L c (fun r12 I9 L10 c11 => Q (((Int32.toInt64 (I9 60 5)) * r12) - ((Int32.toInt64 ((I9 60 4) * x1)) * (L10 59 19))) I9 L10 c11))))))) : C_M_gainOf g x1 I L c Q := by
  refine gm_enter (lv := [(0, .ref 59), (1, .int x1)]) (by decide) rfl rfl rfl rfl ?_
  show Z_M_gainOf g Q 0 [(0, .ref 59), (1, .int x1)] [] I L c
  refine gx_iload_n 1 dX11_gainOf_0 rfl rfl ?_
  refine gx_if_ne 8 dX11_gainOf_1 (by decide) ⟨fun z => ?_, fun z => ?_⟩
  · replace h := h.1 z
    refine gx_lconst (v := 0) dX11_gainOf_4 (by decide) ?_
    refine gx_goto 31 dX11_gainOf_5 (by decide) ?_
    refine gx_lstore_n (lv' := [(0, .ref 59), (1, .int x1), (2, .long 0)]) dX11_gainOf_31 rfl rfl rfl ?_
    refine gx_aload_n 0 dX11_gainOf_32 rfl rfl ?_
    refine gx_getr 11 1 (v := 60) dX11_gainOf_33 fl_X11_13 rfl rfl rfl ?_
    refine gx_iconst (v := 5) dX11_gainOf_36 (by decide) ?_
    refine gx_iald (v := (I 60 5)) dX11_gainOf_37 rfl rfl (gm_vin rfl) (k := 5) rfl rfl ?_
    refine gx_i2l dX11_gainOf_38 ?_
    refine gx_lload_n 2 dX11_gainOf_39 rfl rfl ?_
    refine gx_lmul dX11_gainOf_40 ?_
    refine gx_aload_n 0 dX11_gainOf_41 rfl rfl ?_
    refine gx_getr 11 1 (v := 60) dX11_gainOf_42 fl_X11_13 rfl rfl rfl ?_
    refine gx_iconst (v := 4) dX11_gainOf_45 (by decide) ?_
    refine gx_iald (v := (I 60 4)) dX11_gainOf_46 rfl rfl (gm_vin rfl) (k := 4) rfl rfl ?_
    refine gx_iload_n 1 dX11_gainOf_47 rfl rfl ?_
    refine gx_imul dX11_gainOf_48 ?_
    refine gx_i2l dX11_gainOf_49 ?_
    refine gx_aload_n 0 dX11_gainOf_50 rfl rfl ?_
    refine gx_getl 11 19 (v := (L 59 19)) dX11_gainOf_51 fl_X11_236 rfl rfl rfl ?_
    refine gx_lmul dX11_gainOf_54 ?_
    refine gx_lsub dX11_gainOf_55 ?_
    exact gx_lret dX11_gainOf_56 rfl rfl rfl ⟨_, _, _, _, rfl, rfl, h⟩
  · replace h := h.2 z
    refine gx_iload_n 1 dX11_gainOf_8 rfl rfl ?_
    refine gx_iconst (v := 1) dX11_gainOf_9 (by decide) ?_
    refine gx_icmp_ne 27 dX11_gainOf_10 (by decide) ⟨fun z => ?_, fun z => ?_⟩
    · replace h := h.1 z
      refine gx_aload_n 0 dX11_gainOf_13 rfl rfl ?_
      refine gx_aload_n 0 dX11_gainOf_14 rfl rfl ?_
      refine gx_iconst (v := (-1)) dX11_gainOf_15 (by decide) ?_
      refine gx_callV 11 (As := [.int (-1)]) (st := [.ref 59]) dX11_gainOf_16 ml_X11_272 mm_X11_bestBy rfl rfl rfl rfl rfl rfl ⟨rfl, rfl⟩ h (fun v h2 hq => ?_)
      clear h
      obtain ⟨r4, I1, L2, c3, rfl, rfl, h⟩ := hq
      show Z_M_gainOf g Q 19 [(0, .ref 59), (1, .int x1)] [.int r4, .ref 59] I1 L2 c3
      refine gx_iconst (v := (-1)) dX11_gainOf_19 (by decide) ?_
      refine gx_iconst (v := (-1)) dX11_gainOf_20 (by decide) ?_
      refine gx_callV 11 (As := [.int r4, .int (-1), .int (-1)]) (st := []) dX11_gainOf_21 ml_X11_262 mm_X11_waysBy rfl rfl rfl rfl rfl rfl ⟨rfl, rfl⟩ h (fun v h2 hq => ?_)
      clear h
      obtain ⟨r8, I5, L6, c7, rfl, rfl, h⟩ := hq
      show Z_M_gainOf g Q 24 [(0, .ref 59), (1, .int x1)] [.long r8] I5 L6 c7
      refine gx_goto 31 dX11_gainOf_24 (by decide) ?_
      refine gx_lstore_n (lv' := [(0, .ref 59), (1, .int x1), (2, .long r8)]) dX11_gainOf_31 rfl rfl rfl ?_
      refine gx_aload_n 0 dX11_gainOf_32 rfl rfl ?_
      refine gx_getr 11 1 (v := 60) dX11_gainOf_33 fl_X11_13 rfl rfl rfl ?_
      refine gx_iconst (v := 5) dX11_gainOf_36 (by decide) ?_
      refine gx_iald (v := (I5 60 5)) dX11_gainOf_37 rfl rfl (gm_vin rfl) (k := 5) rfl rfl ?_
      refine gx_i2l dX11_gainOf_38 ?_
      refine gx_lload_n 2 dX11_gainOf_39 rfl rfl ?_
      refine gx_lmul dX11_gainOf_40 ?_
      refine gx_aload_n 0 dX11_gainOf_41 rfl rfl ?_
      refine gx_getr 11 1 (v := 60) dX11_gainOf_42 fl_X11_13 rfl rfl rfl ?_
      refine gx_iconst (v := 4) dX11_gainOf_45 (by decide) ?_
      refine gx_iald (v := (I5 60 4)) dX11_gainOf_46 rfl rfl (gm_vin rfl) (k := 4) rfl rfl ?_
      refine gx_iload_n 1 dX11_gainOf_47 rfl rfl ?_
      refine gx_imul dX11_gainOf_48 ?_
      refine gx_i2l dX11_gainOf_49 ?_
      refine gx_aload_n 0 dX11_gainOf_50 rfl rfl ?_
      refine gx_getl 11 19 (v := (L6 59 19)) dX11_gainOf_51 fl_X11_236 rfl rfl rfl ?_
      refine gx_lmul dX11_gainOf_54 ?_
      refine gx_lsub dX11_gainOf_55 ?_
      exact gx_lret dX11_gainOf_56 rfl rfl rfl ⟨_, _, _, _, rfl, rfl, h⟩
    · replace h := h.2 z
      refine gx_aload_n 0 dX11_gainOf_27 rfl rfl ?_
      refine gx_callV 11 (As := []) (st := []) dX11_gainOf_28 ml_X11_286 mm_X11_laysTwo rfl rfl rfl rfl rfl rfl ⟨rfl, rfl⟩ h (fun v h2 hq => ?_)
      clear h
      obtain ⟨r12, I9, L10, c11, rfl, rfl, h⟩ := hq
      show Z_M_gainOf g Q 31 [(0, .ref 59), (1, .int x1)] [.long r12] I9 L10 c11
      refine gx_lstore_n (lv' := [(0, .ref 59), (1, .int x1), (2, .long r12)]) dX11_gainOf_31 rfl rfl rfl ?_
      refine gx_aload_n 0 dX11_gainOf_32 rfl rfl ?_
      refine gx_getr 11 1 (v := 60) dX11_gainOf_33 fl_X11_13 rfl rfl rfl ?_
      refine gx_iconst (v := 5) dX11_gainOf_36 (by decide) ?_
      refine gx_iald (v := (I9 60 5)) dX11_gainOf_37 rfl rfl (gm_vin rfl) (k := 5) rfl rfl ?_
      refine gx_i2l dX11_gainOf_38 ?_
      refine gx_lload_n 2 dX11_gainOf_39 rfl rfl ?_
      refine gx_lmul dX11_gainOf_40 ?_
      refine gx_aload_n 0 dX11_gainOf_41 rfl rfl ?_
      refine gx_getr 11 1 (v := 60) dX11_gainOf_42 fl_X11_13 rfl rfl rfl ?_
      refine gx_iconst (v := 4) dX11_gainOf_45 (by decide) ?_
      refine gx_iald (v := (I9 60 4)) dX11_gainOf_46 rfl rfl (gm_vin rfl) (k := 4) rfl rfl ?_
      refine gx_iload_n 1 dX11_gainOf_47 rfl rfl ?_
      refine gx_imul dX11_gainOf_48 ?_
      refine gx_i2l dX11_gainOf_49 ?_
      refine gx_aload_n 0 dX11_gainOf_50 rfl rfl ?_
      refine gx_getl 11 19 (v := (L10 59 19)) dX11_gainOf_51 fl_X11_236 rfl rfl rfl ?_
      refine gx_lmul dX11_gainOf_54 ?_
      refine gx_lsub dX11_gainOf_55 ?_
      exact gx_lret dX11_gainOf_56 rfl rfl rfl ⟨_, _, _, _, rfl, rfl, h⟩
abbrev Z_M_gain (g : gm_G) (Q : Int64 → mI → mL → gm_cfg → Prop) (pc : Nat) (lv : List (Nat × Value)) (st : List Value) (I : mI) (L : mL) (c : gm_cfg) : Prop := gm_X g RX11 "gain" cX11_gain 3 (some .long) 8 0 0 (qL Q) 0 0 pc lv st (SH, I, L, RR c)
abbrev C_M_gain (g : gm_G) (x1 : Int32) (x2 : Int32) (I : mI) (L : mL) (c : gm_cfg) (Q : Int64 → mI → mL → gm_cfg → Prop) : Prop := gm_Met g yX11_gain cX11_gain 3 (some .long) 8 0 0 [.ref 59, .int x1, .int x2] (SH, I, L, RR c) (qL Q)
set_option maxRecDepth 100000 in
theorem e_M_gain {g : gm_G} {Q : Int64 → mI → mL → gm_cfg → Prop} {x1 x2 : Int32} {I : mI} {L : mL} {c : gm_cfg} (h : (C_M_within g (Int32.toInt64 x1) 0 2 (gm_u I 59 0 0) L c (fun b4 I1 L2 c3 => ((b4 = false → Q (-3) I1 L2 c3) ∧ (b4 = true → (C_M_laysAll g x2 I1 L2 c3 (fun b8 I5 L6 c7 => ((b8 = false → Q (-3) I5 L6 c7) ∧ (b8 = true → ((x1 = 2 → (C_M_gridMany g I5 L6 c7 (fun r12 I9 L10 c11 => ((r12 = 1 → Q (-5) I9 L10 c11) ∧ (¬ r12 = 1 → (C_M_gainOf g x1 I9 L10 c11 (fun r16 I13 L14 c15 => Q r16 I13 L14 c15))))))) ∧ (¬ x1 = 2 → (C_M_gainOf g x1 I5 L6 c7 (fun r20 I17 L18 c19 => Q r20 I17 L18 c19))))))))))))) : C_M_gain g x1 x2 I L c Q := by
  refine gm_enter (lv := [(0, .ref 59), (1, .int x1), (2, .int x2)]) (by decide) rfl rfl rfl rfl ?_
  show Z_M_gain g Q 0 [(0, .ref 59), (1, .int x1), (2, .int x2)] [] I L c
  refine gx_aload_n 0 dX11_gain_0 rfl rfl ?_
  refine gx_iconst (v := 0) dX11_gain_1 (by decide) ?_
  refine gx_puti 11 0 dX11_gain_2 fl_X11_1 rfl rfl rfl ⟨rfl, rfl⟩ ?_
  show Z_M_gain g Q 5 [(0, .ref 59), (1, .int x1), (2, .int x2)] [] (gm_u I 59 0 0) L c
  refine gx_iload_n 1 dX11_gain_5 rfl rfl ?_
  refine gx_i2l dX11_gain_6 ?_
  refine gx_lconst (v := 0) dX11_gain_7 (by decide) ?_
  refine gx_ldc2 dX11_gain_8 kl_X11_196 ?_
  refine gx_callS (As := [.long (Int32.toInt64 x1), .long 0, .long 2]) (st := []) dX11_gain_11 ml_X11_125 mm_X11_within rfl rfl rfl rfl ⟨rfl, rfl⟩ h (fun v h2 hq => ?_)
  clear h
  obtain ⟨b4, I1, L2, c3, rfl, rfl, h⟩ := hq
  show Z_M_gain g Q 14 [(0, .ref 59), (1, .int x1), (2, .int x2)] [.int (gm_b b4)] I1 L2 c3
  refine gx_if_eq 25 dX11_gain_14 (by decide) ⟨fun z => ?_, fun z => ?_⟩
  · replace h := h.1 (gm_b0.mp z)
    refine gx_ldc2 dX11_gain_25 kl_X11_250 ?_
    exact gx_lret dX11_gain_28 rfl rfl rfl ⟨_, _, _, _, rfl, rfl, h⟩
  · replace h := h.2 (gm_bn0 z)
    refine gx_aload_n 0 dX11_gain_17 rfl rfl ?_
    refine gx_iload_n 2 dX11_gain_18 rfl rfl ?_
    refine gx_callV 11 (As := [.int x2]) (st := []) dX11_gain_19 ml_X11_269 mm_X11_laysAll rfl rfl rfl rfl rfl rfl ⟨rfl, rfl⟩ h (fun v h2 hq => ?_)
    clear h
    obtain ⟨b8, I5, L6, c7, rfl, rfl, h⟩ := hq
    show Z_M_gain g Q 22 [(0, .ref 59), (1, .int x1), (2, .int x2)] [.int (gm_b b8)] I5 L6 c7
    refine gx_if_ne 29 dX11_gain_22 (by decide) ⟨fun z => ?_, fun z => ?_⟩
    · replace h := h.1 (gm_b0.mp z)
      refine gx_ldc2 dX11_gain_25 kl_X11_250 ?_
      exact gx_lret dX11_gain_28 rfl rfl rfl ⟨_, _, _, _, rfl, rfl, h⟩
    · replace h := h.2 (gm_bn0 z)
      refine gx_iload_n 1 dX11_gain_29 rfl rfl ?_
      refine gx_iconst (v := 2) dX11_gain_30 (by decide) ?_
      refine gx_icmp_ne 48 dX11_gain_31 (by decide) ⟨fun z => ?_, fun z => ?_⟩
      · replace h := h.1 z
        refine gx_aload_n 0 dX11_gain_34 rfl rfl ?_
        refine gx_callV 11 (As := []) (st := []) dX11_gain_35 ml_X11_240 mm_X11_gridMany rfl rfl rfl rfl rfl rfl ⟨rfl, rfl⟩ h (fun v h2 hq => ?_)
        clear h
        obtain ⟨r12, I9, L10, c11, rfl, rfl, h⟩ := hq
        show Z_M_gain g Q 38 [(0, .ref 59), (1, .int x1), (2, .int x2)] [.int r12] I9 L10 c11
        refine gx_iconst (v := 1) dX11_gain_38 (by decide) ?_
        refine gx_icmp_ne 48 dX11_gain_39 (by decide) ⟨fun z => ?_, fun z => ?_⟩
        · replace h := h.1 z
          refine gx_ldc2 dX11_gain_42 kl_X11_284 ?_
          refine gx_goto 53 dX11_gain_45 (by decide) ?_
          exact gx_lret dX11_gain_53 rfl rfl rfl ⟨_, _, _, _, rfl, rfl, h⟩
        · replace h := h.2 z
          refine gx_aload_n 0 dX11_gain_48 rfl rfl ?_
          refine gx_iload_n 1 dX11_gain_49 rfl rfl ?_
          refine gx_callV 11 (As := [.int x1]) (st := []) dX11_gain_50 ml_X11_299 mm_X11_gainOf rfl rfl rfl rfl rfl rfl ⟨rfl, rfl⟩ h (fun v h2 hq => ?_)
          clear h
          obtain ⟨r16, I13, L14, c15, rfl, rfl, h⟩ := hq
          show Z_M_gain g Q 53 [(0, .ref 59), (1, .int x1), (2, .int x2)] [.long r16] I13 L14 c15
          exact gx_lret dX11_gain_53 rfl rfl rfl ⟨_, _, _, _, rfl, rfl, h⟩
      · replace h := h.2 z
        refine gx_aload_n 0 dX11_gain_48 rfl rfl ?_
        refine gx_iload_n 1 dX11_gain_49 rfl rfl ?_
        refine gx_callV 11 (As := [.int x1]) (st := []) dX11_gain_50 ml_X11_299 mm_X11_gainOf rfl rfl rfl rfl rfl rfl ⟨rfl, rfl⟩ h (fun v h2 hq => ?_)
        clear h
        obtain ⟨r20, I17, L18, c19, rfl, rfl, h⟩ := hq
        show Z_M_gain g Q 53 [(0, .ref 59), (1, .int x1), (2, .int x2)] [.long r20] I17 L18 c19
        exact gx_lret dX11_gain_53 rfl rfl rfl ⟨_, _, _, _, rfl, rfl, h⟩
abbrev Z_M_buys (g : gm_G) (Q : Int32 → mI → mL → gm_cfg → Prop) (pc : Nat) (lv : List (Nat × Value)) (st : List Value) (I : mI) (L : mL) (c : gm_cfg) : Prop := gm_X g RX11 "buys" cX11_buys 4 (some .int) 8 0 0 (qI Q) 0 0 pc lv st (SH, I, L, RR c)
abbrev C_M_buys (g : gm_G) (x1 : Int32) (I : mI) (L : mL) (c : gm_cfg) (Q : Int32 → mI → mL → gm_cfg → Prop) : Prop := gm_Met g yX11_buys cX11_buys 4 (some .int) 8 0 0 [.ref 59, .int x1] (SH, I, L, RR c) (qI Q)
set_option maxRecDepth 100000 in
theorem e_M_buys {g : gm_G} {Q : Int32 → mI → mL → gm_cfg → Prop} {x1 : Int32} {I : mI} {L : mL} {c : gm_cfg} (h : (C_M_laysAll g x1 (gm_u I 59 0 0) L c (fun b4 I1 L2 c3 => ((b4 = false → Q (-3) I1 L2 c3) ∧ (b4 = true → Z_M_buys g Q 20 [(0, .ref 59), (1, .int x1), (2, .int 0), (3, .int 1)] [] I1 L2 c3))))) : C_M_buys g x1 I L c Q := by
  refine gm_enter (lv := [(0, .ref 59), (1, .int x1)]) (by decide) rfl rfl rfl rfl ?_
  show Z_M_buys g Q 0 [(0, .ref 59), (1, .int x1)] [] I L c
  refine gx_aload_n 0 dX11_buys_0 rfl rfl ?_
  refine gx_iconst (v := 0) dX11_buys_1 (by decide) ?_
  refine gx_puti 11 0 dX11_buys_2 fl_X11_1 rfl rfl rfl ⟨rfl, rfl⟩ ?_
  show Z_M_buys g Q 5 [(0, .ref 59), (1, .int x1)] [] (gm_u I 59 0 0) L c
  refine gx_aload_n 0 dX11_buys_5 rfl rfl ?_
  refine gx_iload_n 1 dX11_buys_6 rfl rfl ?_
  refine gx_callV 11 (As := [.int x1]) (st := []) dX11_buys_7 ml_X11_269 mm_X11_laysAll rfl rfl rfl rfl rfl rfl ⟨rfl, rfl⟩ h (fun v h2 hq => ?_)
  clear h
  obtain ⟨b4, I1, L2, c3, rfl, rfl, h⟩ := hq
  show Z_M_buys g Q 10 [(0, .ref 59), (1, .int x1)] [.int (gm_b b4)] I1 L2 c3
  refine gx_if_ne 16 dX11_buys_10 (by decide) ⟨fun z => ?_, fun z => ?_⟩
  · replace h := h.1 (gm_b0.mp z)
    refine gx_bipush (v := (-3)) dX11_buys_13 (by decide) ?_
    exact gx_iret dX11_buys_15 rfl rfl rfl ⟨_, _, _, _, rfl, rfl, h⟩
  · replace h := h.2 (gm_bn0 z)
    refine gx_iconst (v := 0) dX11_buys_16 (by decide) ?_
    refine gx_istore_n (lv' := [(0, .ref 59), (1, .int x1), (2, .int 0)]) dX11_buys_17 rfl rfl rfl ?_
    refine gx_iconst (v := 1) dX11_buys_18 (by decide) ?_
    refine gx_istore_n (lv' := [(0, .ref 59), (1, .int x1), (2, .int 0), (3, .int 1)]) dX11_buys_19 rfl rfl rfl ?_
    exact h
set_option maxRecDepth 100000 in
theorem r_M_buys_20 {g : gm_G} {Q : Int32 → mI → mL → gm_cfg → Prop} {x1 x2 x3 : Int32} {I : mI} {L : mL} {c : gm_cfg} (h : (C_M_gridMany g I L c (fun r4 I1 L2 c3 => ((r4 = 1 → ((2 ≤ x3 → Q x2 I1 L2 c3) ∧ (¬ 2 ≤ x3 → (C_M_gainOf g x3 I1 L2 c3 (fun r8 I5 L6 c7 => (C_M_gainOf g x2 I5 L6 c7 (fun r12 I9 L10 c11 => (((r8 : Int64) ≤ r12 → Z_M_buys g Q 20 [(0, .ref 59), (1, .int x1), (2, .int x2), (3, .int (x3 + 1))] [] I9 L10 c11) ∧ (¬ (r8 : Int64) ≤ r12 → Z_M_buys g Q 20 [(0, .ref 59), (1, .int x1), (2, .int x3), (3, .int (x3 + 1))] [] I9 L10 c11))))))))) ∧ (¬ r4 = 1 → ((3 ≤ x3 → Q x2 I1 L2 c3) ∧ (¬ 3 ≤ x3 → (C_M_gainOf g x3 I1 L2 c3 (fun r16 I13 L14 c15 => (C_M_gainOf g x2 I13 L14 c15 (fun r20 I17 L18 c19 => (((r16 : Int64) ≤ r20 → Z_M_buys g Q 20 [(0, .ref 59), (1, .int x1), (2, .int x2), (3, .int (x3 + 1))] [] I17 L18 c19) ∧ (¬ (r16 : Int64) ≤ r20 → Z_M_buys g Q 20 [(0, .ref 59), (1, .int x1), (2, .int x3), (3, .int (x3 + 1))] [] I17 L18 c19))))))))))))) : Z_M_buys g Q 20 [(0, .ref 59), (1, .int x1), (2, .int x2), (3, .int x3)] [] I L c := by
  refine gx_iload_n 3 dX11_buys_20 rfl rfl ?_
  refine gx_aload_n 0 dX11_buys_21 rfl rfl ?_
  refine gx_callV 11 (As := []) (st := [.int x3]) dX11_buys_22 ml_X11_240 mm_X11_gridMany rfl rfl rfl rfl rfl rfl ⟨rfl, rfl⟩ h (fun v h2 hq => ?_)
  clear h
  obtain ⟨r4, I1, L2, c3, rfl, rfl, h⟩ := hq
  show Z_M_buys g Q 25 [(0, .ref 59), (1, .int x1), (2, .int x2), (3, .int x3)] [.int r4, .int x3] I1 L2 c3
  refine gx_iconst (v := 1) dX11_buys_25 (by decide) ?_
  refine gx_icmp_ne 33 dX11_buys_26 (by decide) ⟨fun z => ?_, fun z => ?_⟩
  · replace h := h.1 z
    refine gx_iconst (v := 2) dX11_buys_29 (by decide) ?_
    refine gx_goto 34 dX11_buys_30 (by decide) ?_
    refine gx_icmp_ge 59 dX11_buys_34 (by decide) ⟨fun z => ?_, fun z => ?_⟩
    · replace h := h.1 z
      refine gx_iload_n 2 dX11_buys_59 rfl rfl ?_
      exact gx_iret dX11_buys_60 rfl rfl rfl ⟨_, _, _, _, rfl, rfl, h⟩
    · replace h := h.2 z
      refine gx_aload_n 0 dX11_buys_37 rfl rfl ?_
      refine gx_iload_n 3 dX11_buys_38 rfl rfl ?_
      refine gx_callV 11 (As := [.int x3]) (st := []) dX11_buys_39 ml_X11_299 mm_X11_gainOf rfl rfl rfl rfl rfl rfl ⟨rfl, rfl⟩ h (fun v h2 hq => ?_)
      clear h
      obtain ⟨r8, I5, L6, c7, rfl, rfl, h⟩ := hq
      show Z_M_buys g Q 42 [(0, .ref 59), (1, .int x1), (2, .int x2), (3, .int x3)] [.long r8] I5 L6 c7
      refine gx_aload_n 0 dX11_buys_42 rfl rfl ?_
      refine gx_iload_n 2 dX11_buys_43 rfl rfl ?_
      refine gx_callV 11 (As := [.int x2]) (st := [.long r8]) dX11_buys_44 ml_X11_299 mm_X11_gainOf rfl rfl rfl rfl rfl rfl ⟨rfl, rfl⟩ h (fun v h2 hq => ?_)
      clear h
      obtain ⟨r12, I9, L10, c11, rfl, rfl, h⟩ := hq
      show Z_M_buys g Q 47 [(0, .ref 59), (1, .int x1), (2, .int x2), (3, .int x3)] [.long r12, .long r8] I9 L10 c11
      refine gx_lcmp_le 53 dX11_buys_47 dX11_buys_48 (by decide) ⟨fun z => ?_, fun z => ?_⟩
      · replace h := h.1 z
        refine gx_iinc (v := (x3 + 1)) (lv' := [(0, .ref 59), (1, .int x1), (2, .int x2), (3, .int (x3 + 1))]) 3 dX11_buys_53 rfl rfl rfl rfl ?_
        refine gx_goto 20 dX11_buys_56 (by decide) ?_
        exact h
      · replace h := h.2 z
        refine gx_iload_n 3 dX11_buys_51 rfl rfl ?_
        refine gx_istore_n (lv' := [(0, .ref 59), (1, .int x1), (2, .int x3), (3, .int x3)]) dX11_buys_52 rfl rfl rfl ?_
        refine gx_iinc (v := (x3 + 1)) (lv' := [(0, .ref 59), (1, .int x1), (2, .int x3), (3, .int (x3 + 1))]) 3 dX11_buys_53 rfl rfl rfl rfl ?_
        refine gx_goto 20 dX11_buys_56 (by decide) ?_
        exact h
  · replace h := h.2 z
    refine gx_iconst (v := 3) dX11_buys_33 (by decide) ?_
    refine gx_icmp_ge 59 dX11_buys_34 (by decide) ⟨fun z => ?_, fun z => ?_⟩
    · replace h := h.1 z
      refine gx_iload_n 2 dX11_buys_59 rfl rfl ?_
      exact gx_iret dX11_buys_60 rfl rfl rfl ⟨_, _, _, _, rfl, rfl, h⟩
    · replace h := h.2 z
      refine gx_aload_n 0 dX11_buys_37 rfl rfl ?_
      refine gx_iload_n 3 dX11_buys_38 rfl rfl ?_
      refine gx_callV 11 (As := [.int x3]) (st := []) dX11_buys_39 ml_X11_299 mm_X11_gainOf rfl rfl rfl rfl rfl rfl ⟨rfl, rfl⟩ h (fun v h2 hq => ?_)
      clear h
      obtain ⟨r16, I13, L14, c15, rfl, rfl, h⟩ := hq
      show Z_M_buys g Q 42 [(0, .ref 59), (1, .int x1), (2, .int x2), (3, .int x3)] [.long r16] I13 L14 c15
      refine gx_aload_n 0 dX11_buys_42 rfl rfl ?_
      refine gx_iload_n 2 dX11_buys_43 rfl rfl ?_
      refine gx_callV 11 (As := [.int x2]) (st := [.long r16]) dX11_buys_44 ml_X11_299 mm_X11_gainOf rfl rfl rfl rfl rfl rfl ⟨rfl, rfl⟩ h (fun v h2 hq => ?_)
      clear h
      obtain ⟨r20, I17, L18, c19, rfl, rfl, h⟩ := hq
      show Z_M_buys g Q 47 [(0, .ref 59), (1, .int x1), (2, .int x2), (3, .int x3)] [.long r20, .long r16] I17 L18 c19
      refine gx_lcmp_le 53 dX11_buys_47 dX11_buys_48 (by decide) ⟨fun z => ?_, fun z => ?_⟩
      · replace h := h.1 z
        refine gx_iinc (v := (x3 + 1)) (lv' := [(0, .ref 59), (1, .int x1), (2, .int x2), (3, .int (x3 + 1))]) 3 dX11_buys_53 rfl rfl rfl rfl ?_
        refine gx_goto 20 dX11_buys_56 (by decide) ?_
        exact h
      · replace h := h.2 z
        refine gx_iload_n 3 dX11_buys_51 rfl rfl ?_
        refine gx_istore_n (lv' := [(0, .ref 59), (1, .int x1), (2, .int x3), (3, .int x3)]) dX11_buys_52 rfl rfl rfl ?_
        refine gx_iinc (v := (x3 + 1)) (lv' := [(0, .ref 59), (1, .int x1), (2, .int x3), (3, .int (x3 + 1))]) 3 dX11_buys_53 rfl rfl rfl rfl ?_
        refine gx_goto 20 dX11_buys_56 (by decide) ?_
        exact h
abbrev Z_M_game (g : gm_G) (Q : Int32 → mI → mL → gm_cfg → Prop) (pc : Nat) (lv : List (Nat × Value)) (st : List Value) (I : mI) (L : mL) (c : gm_cfg) : Prop := gm_X g RX11 "game" cX11_game 3 (some .int) 2 0 0 (qI Q) 0 0 pc lv st (SH, I, L, RR c)
abbrev C_M_game (g : gm_G) (x1 : Int32) (x2 : Int32) (I : mI) (L : mL) (c : gm_cfg) (Q : Int32 → mI → mL → gm_cfg → Prop) : Prop := gm_Met g yX11_game cX11_game 3 (some .int) 2 0 0 [.ref 59, .int x1, .int x2] (SH, I, L, RR c) (qI Q)
set_option maxRecDepth 100000 in
theorem e_M_game {g : gm_G} {Q : Int32 → mI → mL → gm_cfg → Prop} {x1 x2 : Int32} {I : mI} {L : mL} {c : gm_cfg} (h : (C_M_within g (Int32.toInt64 x1) 1 3 (gm_u I 59 0 0) L c (fun b4 I1 L2 c3 => ((b4 = false → Q (-3) I1 L2 c3) ∧ (b4 = true → (C_M_within g (Int32.toInt64 x2) 0 (Int32.toInt64 (x1 - 1)) I1 L2 c3 (fun b8 I5 L6 c7 => ((b8 = false → (C_M_within g (Int32.toInt64 x2) 10 (Int32.toInt64 (9 + x1)) I5 L6 c7 (fun b12 I9 L10 c11 => ((b12 = false → Q (-2) I9 L10 c11) ∧ (b12 = true → (C_M_gridMany g I9 L10 c11 (fun r16 I13 L14 c15 => ((r16 ≤ 24 → False) ∧ (¬ r16 ≤ 24 → Q (-4) I13 L14 c15))))))))) ∧ (b8 = true → (C_M_gridMany g I5 L6 c7 (fun r20 I17 L18 c19 => ((r20 ≤ 24 → False) ∧ (¬ r20 ≤ 24 → Q (-4) I17 L18 c19))))))))))))) : C_M_game g x1 x2 I L c Q := by
  refine gm_enter (lv := [(0, .ref 59), (1, .int x1), (2, .int x2)]) (by decide) rfl rfl rfl rfl ?_
  show Z_M_game g Q 0 [(0, .ref 59), (1, .int x1), (2, .int x2)] [] I L c
  refine gx_aload_n 0 dX11_game_0 rfl rfl ?_
  refine gx_iconst (v := 0) dX11_game_1 (by decide) ?_
  refine gx_puti 11 0 dX11_game_2 fl_X11_1 rfl rfl rfl ⟨rfl, rfl⟩ ?_
  show Z_M_game g Q 5 [(0, .ref 59), (1, .int x1), (2, .int x2)] [] (gm_u I 59 0 0) L c
  refine gx_iload_n 1 dX11_game_5 rfl rfl ?_
  refine gx_i2l dX11_game_6 ?_
  refine gx_lconst (v := 1) dX11_game_7 (by decide) ?_
  refine gx_ldc2 dX11_game_8 kl_X11_194 ?_
  refine gx_callS (As := [.long (Int32.toInt64 x1), .long 1, .long 3]) (st := []) dX11_game_11 ml_X11_125 mm_X11_within rfl rfl rfl rfl ⟨rfl, rfl⟩ h (fun v h2 hq => ?_)
  clear h
  obtain ⟨b4, I1, L2, c3, rfl, rfl, h⟩ := hq
  show Z_M_game g Q 14 [(0, .ref 59), (1, .int x1), (2, .int x2)] [.int (gm_b b4)] I1 L2 c3
  refine gx_if_ne 20 dX11_game_14 (by decide) ⟨fun z => ?_, fun z => ?_⟩
  · replace h := h.1 (gm_b0.mp z)
    refine gx_bipush (v := (-3)) dX11_game_17 (by decide) ?_
    exact gx_iret dX11_game_19 rfl rfl rfl ⟨_, _, _, _, rfl, rfl, h⟩
  · replace h := h.2 (gm_bn0 z)
    refine gx_iload_n 2 dX11_game_20 rfl rfl ?_
    refine gx_i2l dX11_game_21 ?_
    refine gx_lconst (v := 0) dX11_game_22 (by decide) ?_
    refine gx_iload_n 1 dX11_game_23 rfl rfl ?_
    refine gx_iconst (v := 1) dX11_game_24 (by decide) ?_
    refine gx_isub dX11_game_25 ?_
    refine gx_i2l dX11_game_26 ?_
    refine gx_callS (As := [.long (Int32.toInt64 x2), .long 0, .long (Int32.toInt64 (x1 - 1))]) (st := []) dX11_game_27 ml_X11_125 mm_X11_within rfl rfl rfl rfl ⟨rfl, rfl⟩ h (fun v h2 hq => ?_)
    clear h
    obtain ⟨b8, I5, L6, c7, rfl, rfl, h⟩ := hq
    show Z_M_game g Q 30 [(0, .ref 59), (1, .int x1), (2, .int x2)] [.int (gm_b b8)] I5 L6 c7
    refine gx_if_ne 52 dX11_game_30 (by decide) ⟨fun z => ?_, fun z => ?_⟩
    · replace h := h.1 (gm_b0.mp z)
      refine gx_iload_n 2 dX11_game_33 rfl rfl ?_
      refine gx_i2l dX11_game_34 ?_
      refine gx_ldc2 dX11_game_35 kl_X11_308 ?_
      refine gx_bipush (v := 9) dX11_game_38 (by decide) ?_
      refine gx_iload_n 1 dX11_game_40 rfl rfl ?_
      refine gx_iadd dX11_game_41 ?_
      refine gx_i2l dX11_game_42 ?_
      refine gx_callS (As := [.long (Int32.toInt64 x2), .long 10, .long (Int32.toInt64 (9 + x1))]) (st := []) dX11_game_43 ml_X11_125 mm_X11_within rfl rfl rfl rfl ⟨rfl, rfl⟩ h (fun v h2 hq => ?_)
      clear h
      obtain ⟨b12, I9, L10, c11, rfl, rfl, h⟩ := hq
      show Z_M_game g Q 46 [(0, .ref 59), (1, .int x1), (2, .int x2)] [.int (gm_b b12)] I9 L10 c11
      refine gx_if_ne 52 dX11_game_46 (by decide) ⟨fun z => ?_, fun z => ?_⟩
      · replace h := h.1 (gm_b0.mp z)
        refine gx_bipush (v := (-2)) dX11_game_49 (by decide) ?_
        exact gx_iret dX11_game_51 rfl rfl rfl ⟨_, _, _, _, rfl, rfl, h⟩
      · replace h := h.2 (gm_bn0 z)
        refine gx_aload_n 0 dX11_game_52 rfl rfl ?_
        refine gx_callV 11 (As := []) (st := []) dX11_game_53 ml_X11_240 mm_X11_gridMany rfl rfl rfl rfl rfl rfl ⟨rfl, rfl⟩ h (fun v h2 hq => ?_)
        clear h
        obtain ⟨r16, I13, L14, c15, rfl, rfl, h⟩ := hq
        show Z_M_game g Q 56 [(0, .ref 59), (1, .int x1), (2, .int x2)] [.int r16] I13 L14 c15
        refine gx_bipush (v := 24) dX11_game_56 (by decide) ?_
        refine gx_icmp_le 64 dX11_game_58 (by decide) ⟨fun z => ?_, fun z => ?_⟩
        · replace h := h.1 z
          refine gx_aload_n 0 dX11_game_64 rfl rfl ?_
          refine gx_iconst (v := 0) dX11_game_65 (by decide) ?_
          refine gx_iload_n 1 dX11_game_66 rfl rfl ?_
          exact False.elim h
        · replace h := h.2 z
          refine gx_bipush (v := (-4)) dX11_game_61 (by decide) ?_
          exact gx_iret dX11_game_63 rfl rfl rfl ⟨_, _, _, _, rfl, rfl, h⟩
    · replace h := h.2 (gm_bn0 z)
      refine gx_aload_n 0 dX11_game_52 rfl rfl ?_
      refine gx_callV 11 (As := []) (st := []) dX11_game_53 ml_X11_240 mm_X11_gridMany rfl rfl rfl rfl rfl rfl ⟨rfl, rfl⟩ h (fun v h2 hq => ?_)
      clear h
      obtain ⟨r20, I17, L18, c19, rfl, rfl, h⟩ := hq
      show Z_M_game g Q 56 [(0, .ref 59), (1, .int x1), (2, .int x2)] [.int r20] I17 L18 c19
      refine gx_bipush (v := 24) dX11_game_56 (by decide) ?_
      refine gx_icmp_le 64 dX11_game_58 (by decide) ⟨fun z => ?_, fun z => ?_⟩
      · replace h := h.1 z
        refine gx_aload_n 0 dX11_game_64 rfl rfl ?_
        refine gx_iconst (v := 0) dX11_game_65 (by decide) ?_
        refine gx_iload_n 1 dX11_game_66 rfl rfl ?_
        exact False.elim h
      · replace h := h.2 z
        refine gx_bipush (v := (-4)) dX11_game_61 (by decide) ?_
        exact gx_iret dX11_game_63 rfl rfl rfl ⟨_, _, _, _, rfl, rfl, h⟩
abbrev Z_M_writesOn_1_1 (g : gm_G) (Q : mI → mL → gm_cfg → Prop) (pc : Nat) (lv : List (Nat × Value)) (st : List Value) (I : mI) (L : mL) (c : gm_cfg) : Prop := gm_X g RX11 "writesOn" cX11_writesOn 7 none 1 0 0 (qV Q) 0 0 pc lv st (SH, I, L, RR c)
abbrev C_M_writesOn_1_1 (g : gm_G) (I : mI) (L : mL) (c : gm_cfg) (Q : mI → mL → gm_cfg → Prop) : Prop := gm_Met g yX11_writesOn cX11_writesOn 7 none 1 0 0 [.ref 59, .int 1, .int 1] (SH, I, L, RR c) (qV Q)
set_option maxRecDepth 100000 in
theorem e_M_writesOn_1_1 {g : gm_G} {Q : mI → mL → gm_cfg → Prop} {I : mI} {L : mL} {c : gm_cfg} (h : Q I L c) : C_M_writesOn_1_1 g  I L c Q := by
  refine gm_enter (lv := [(0, .ref 59), (1, .int 1), (2, .int 1)]) (by decide) rfl rfl rfl rfl ?_
  show Z_M_writesOn_1_1 g Q 0 [(0, .ref 59), (1, .int 1), (2, .int 1)] [] I L c
  refine gx_iload_n 1 dX11_writesOn_0 rfl rfl ?_
  refine gx_iload_n 2 dX11_writesOn_1 rfl rfl ?_
  refine gx_icmp_ne 6 dX11_writesOn_2 (by decide) (br_t (by decide) ?_)
  exact gx_vret dX11_writesOn_5 rfl rfl rfl ⟨_, _, _, rfl, rfl, h⟩
abbrev Z_M_weightFor (g : gm_G) (Q : Int32 → mI → mL → gm_cfg → Prop) (pc : Nat) (lv : List (Nat × Value)) (st : List Value) (I : mI) (L : mL) (c : gm_cfg) : Prop := gm_X g RX11 "weightFor" cX11_weightFor 7 (some .int) 3 0 0 (qI Q) 0 0 pc lv st (SH, I, L, RR c)
abbrev C_M_weightFor (g : gm_G) (x1 : Int32) (x2 : Int32) (I : mI) (L : mL) (c : gm_cfg) (Q : Int32 → mI → mL → gm_cfg → Prop) : Prop := gm_Met g yX11_weightFor cX11_weightFor 7 (some .int) 3 0 0 [.ref 59, .int x1, .int x2] (SH, I, L, RR c) (qI Q)
set_option maxRecDepth 100000 in
theorem e_M_weightFor {g : gm_G} {Q : Int32 → mI → mL → gm_cfg → Prop} {x1 x2 : Int32} {I : mI} {L : mL} {c : gm_cfg} (h : Z_M_weightFor g Q 10 [(0, .ref 59), (1, .int x1), (2, .int x2), (3, .int 0), (4, .int (I 60 2))] [] I L c) : C_M_weightFor g x1 x2 I L c Q := by
  refine gm_enter (lv := [(0, .ref 59), (1, .int x1), (2, .int x2)]) (by decide) rfl rfl rfl rfl ?_
  show Z_M_weightFor g Q 0 [(0, .ref 59), (1, .int x1), (2, .int x2)] [] I L c
  refine gx_iconst (v := 0) dX11_weightFor_0 (by decide) ?_
  refine gx_istore_n (lv' := [(0, .ref 59), (1, .int x1), (2, .int x2), (3, .int 0)]) dX11_weightFor_1 rfl rfl rfl ?_
  refine gx_aload_n 0 dX11_weightFor_2 rfl rfl ?_
  refine gx_getr 11 1 (v := 60) dX11_weightFor_3 fl_X11_13 rfl rfl rfl ?_
  refine gx_iconst (v := 2) dX11_weightFor_6 (by decide) ?_
  refine gx_iald (v := (I 60 2)) dX11_weightFor_7 rfl rfl (gm_vin rfl) (k := 2) rfl rfl ?_
  refine gx_istore (lv' := [(0, .ref 59), (1, .int x1), (2, .int x2), (3, .int 0), (4, .int (I 60 2))]) dX11_weightFor_8 rfl rfl ?_
  exact h
set_option maxRecDepth 100000 in
theorem r_M_weightFor_10 {g : gm_G} {Q : Int32 → mI → mL → gm_cfg → Prop} {x1 x2 x3 x4 : Int32} {I : mI} {L : mL} {c : gm_cfg} (h : (((I 60 3) < x4 → Q x3 I L c) ∧ (¬ (I 60 3) < x4 → Z_M_weightFor g Q 27 [(0, .ref 59), (1, .int x1), (2, .int x2), (3, .int x3), (4, .int x4), (5, .int 1), (6, .int 0)] [] I L c))) : Z_M_weightFor g Q 10 [(0, .ref 59), (1, .int x1), (2, .int x2), (3, .int x3), (4, .int x4)] [] I L c := by
  refine gx_iload 4 dX11_weightFor_10 rfl ?_
  refine gx_aload_n 0 dX11_weightFor_12 rfl rfl ?_
  refine gx_getr 11 1 (v := 60) dX11_weightFor_13 fl_X11_13 rfl rfl rfl ?_
  refine gx_iconst (v := 3) dX11_weightFor_16 (by decide) ?_
  refine gx_iald (v := (I 60 3)) dX11_weightFor_17 rfl rfl (gm_vin rfl) (k := 3) rfl rfl ?_
  refine gx_icmp_gt 142 dX11_weightFor_18 (by decide) ⟨fun z => ?_, fun z => ?_⟩
  · replace h := h.1 z
    refine gx_iload_n 3 dX11_weightFor_142 rfl rfl ?_
    exact gx_iret dX11_weightFor_143 rfl rfl rfl ⟨_, _, _, _, rfl, rfl, h⟩
  · replace h := h.2 z
    refine gx_iconst (v := 1) dX11_weightFor_21 (by decide) ?_
    refine gx_istore (lv' := [(0, .ref 59), (1, .int x1), (2, .int x2), (3, .int x3), (4, .int x4), (5, .int 1)]) dX11_weightFor_22 rfl rfl ?_
    refine gx_iconst (v := 0) dX11_weightFor_24 (by decide) ?_
    refine gx_istore (lv' := [(0, .ref 59), (1, .int x1), (2, .int x2), (3, .int x3), (4, .int x4), (5, .int 1), (6, .int 0)]) dX11_weightFor_25 rfl rfl ?_
    exact h
set_option maxRecDepth 100000 in
theorem r_M_weightFor_27 {g : gm_G} {Q : Int32 → mI → mL → gm_cfg → Prop} {x1 x2 x3 x4 x5 x6 : Int32} {I : mI} {L : mL} {c : gm_cfg} (h : ((x2 ≤ x6 → ((x5 = 0 → Z_M_weightFor g Q 10 [(0, .ref 59), (1, .int x1), (2, .int x2), (3, .int (x3 + 0)), (4, .int (x4 + 1))] [] I L c) ∧ (¬ x5 = 0 → (C_M_weightOf g x4 I L c (fun r4 I1 L2 c3 => Z_M_weightFor g Q 10 [(0, .ref 59), (1, .int x1), (2, .int x2), (3, .int (x3 + r4)), (4, .int (x4 + 1))] [] I1 L2 c3))))) ∧ (¬ x2 ≤ x6 → ((x5 = 0 → ((x5 = 0 → Z_M_weightFor g Q 10 [(0, .ref 59), (1, .int x1), (2, .int x2), (3, .int (x3 + 0)), (4, .int (x4 + 1))] [] I L c) ∧ (¬ x5 = 0 → (C_M_weightOf g x4 I L c (fun r8 I5 L6 c7 => Z_M_weightFor g Q 10 [(0, .ref 59), (1, .int x1), (2, .int x2), (3, .int (x3 + r8)), (4, .int (x4 + 1))] [] I5 L6 c7))))) ∧ (¬ x5 = 0 → ((x6 = x1 → Z_M_weightFor g Q 27 [(0, .ref 59), (1, .int x1), (2, .int x2), (3, .int x3), (4, .int x4), (5, .int 1), (6, .int (x6 + 1))] [] I L c) ∧ (¬ x6 = x1 → ((x1 ≤ x6 → (vp_in x6 3 ∧ (C_M_off g (I 67 (Int32.toNatClampNeg x6)) x4 I L c (fun r12 I9 L10 c11 => (vp_in x1 3 ∧ (C_M_off g (I9 67 (Int32.toNatClampNeg x1)) x4 I9 L10 c11 (fun r16 I13 L14 c15 => ((r12 < r16 → Z_M_weightFor g Q 27 [(0, .ref 59), (1, .int x1), (2, .int x2), (3, .int x3), (4, .int x4), (5, .int 0), (6, .int (x6 + 1))] [] I13 L14 c15) ∧ (¬ r12 < r16 → Z_M_weightFor g Q 27 [(0, .ref 59), (1, .int x1), (2, .int x2), (3, .int x3), (4, .int x4), (5, .int 1), (6, .int (x6 + 1))] [] I13 L14 c15))))))))) ∧ (¬ x1 ≤ x6 → (vp_in x6 3 ∧ (C_M_off g (I 67 (Int32.toNatClampNeg x6)) x4 I L c (fun r20 I17 L18 c19 => (vp_in x1 3 ∧ (C_M_off g (I17 67 (Int32.toNatClampNeg x1)) x4 I17 L18 c19 (fun r24 I21 L22 c23 => ((r20 ≤ r24 → Z_M_weightFor g Q 27 [(0, .ref 59), (1, .int x1), (2, .int x2), (3, .int x3), (4, .int x4), (5, .int 0), (6, .int (x6 + 1))] [] I21 L22 c23) ∧ (¬ r20 ≤ r24 → Z_M_weightFor g Q 27 [(0, .ref 59), (1, .int x1), (2, .int x2), (3, .int x3), (4, .int x4), (5, .int 1), (6, .int (x6 + 1))] [] I21 L22 c23))))))))))))))))) : Z_M_weightFor g Q 27 [(0, .ref 59), (1, .int x1), (2, .int x2), (3, .int x3), (4, .int x4), (5, .int x5), (6, .int x6)] [] I L c := by
  refine gx_iload 6 dX11_weightFor_27 rfl ?_
  refine gx_iload_n 2 dX11_weightFor_29 rfl rfl ?_
  refine gx_icmp_ge 118 dX11_weightFor_30 (by decide) ⟨fun z => ?_, fun z => ?_⟩
  · replace h := h.1 z
    refine gx_iload_n 3 dX11_weightFor_118 rfl rfl ?_
    refine gx_iload 5 dX11_weightFor_119 rfl ?_
    refine gx_if_eq 133 dX11_weightFor_121 (by decide) ⟨fun z => ?_, fun z => ?_⟩
    · replace h := h.1 z
      refine gx_iconst (v := 0) dX11_weightFor_133 (by decide) ?_
      refine gx_iadd dX11_weightFor_134 ?_
      refine gx_istore_n (lv' := [(0, .ref 59), (1, .int x1), (2, .int x2), (3, .int (x3 + 0)), (4, .int x4), (5, .int x5), (6, .int x6)]) dX11_weightFor_135 rfl rfl rfl ?_
      refine gx_iinc (v := (x4 + 1)) (lv' := [(0, .ref 59), (1, .int x1), (2, .int x2), (3, .int (x3 + 0)), (4, .int (x4 + 1)), (5, .int x5), (6, .int x6)]) 4 dX11_weightFor_136 rfl rfl rfl rfl ?_
      refine gx_goto 10 dX11_weightFor_139 (by decide) ?_
      refine gx_sub [0, 1, 2, 3, 4] (lv' := [(0, .ref 59), (1, .int x1), (2, .int x2), (3, .int (x3 + 0)), (4, .int (x4 + 1))]) rfl ?_
      exact h
    · replace h := h.2 z
      refine gx_aload_n 0 dX11_weightFor_124 rfl rfl ?_
      refine gx_iload 4 dX11_weightFor_125 rfl ?_
      refine gx_callV 11 (As := [.int x4]) (st := [.int x3]) dX11_weightFor_127 ml_X11_168 mm_X11_weightOf rfl rfl rfl rfl rfl rfl ⟨rfl, rfl⟩ h (fun v h2 hq => ?_)
      clear h
      obtain ⟨r4, I1, L2, c3, rfl, rfl, h⟩ := hq
      show Z_M_weightFor g Q 130 [(0, .ref 59), (1, .int x1), (2, .int x2), (3, .int x3), (4, .int x4), (5, .int x5), (6, .int x6)] [.int r4, .int x3] I1 L2 c3
      refine gx_goto 134 dX11_weightFor_130 (by decide) ?_
      refine gx_iadd dX11_weightFor_134 ?_
      refine gx_istore_n (lv' := [(0, .ref 59), (1, .int x1), (2, .int x2), (3, .int (x3 + r4)), (4, .int x4), (5, .int x5), (6, .int x6)]) dX11_weightFor_135 rfl rfl rfl ?_
      refine gx_iinc (v := (x4 + 1)) (lv' := [(0, .ref 59), (1, .int x1), (2, .int x2), (3, .int (x3 + r4)), (4, .int (x4 + 1)), (5, .int x5), (6, .int x6)]) 4 dX11_weightFor_136 rfl rfl rfl rfl ?_
      refine gx_goto 10 dX11_weightFor_139 (by decide) ?_
      refine gx_sub [0, 1, 2, 3, 4] (lv' := [(0, .ref 59), (1, .int x1), (2, .int x2), (3, .int (x3 + r4)), (4, .int (x4 + 1))]) rfl ?_
      exact h
  · replace h := h.2 z
    refine gx_iload 5 dX11_weightFor_33 rfl ?_
    refine gx_if_eq 118 dX11_weightFor_35 (by decide) ⟨fun z => ?_, fun z => ?_⟩
    · replace h := h.1 z
      refine gx_iload_n 3 dX11_weightFor_118 rfl rfl ?_
      refine gx_iload 5 dX11_weightFor_119 rfl ?_
      refine gx_if_eq 133 dX11_weightFor_121 (by decide) ⟨fun z => ?_, fun z => ?_⟩
      · replace h := h.1 z
        refine gx_iconst (v := 0) dX11_weightFor_133 (by decide) ?_
        refine gx_iadd dX11_weightFor_134 ?_
        refine gx_istore_n (lv' := [(0, .ref 59), (1, .int x1), (2, .int x2), (3, .int (x3 + 0)), (4, .int x4), (5, .int x5), (6, .int x6)]) dX11_weightFor_135 rfl rfl rfl ?_
        refine gx_iinc (v := (x4 + 1)) (lv' := [(0, .ref 59), (1, .int x1), (2, .int x2), (3, .int (x3 + 0)), (4, .int (x4 + 1)), (5, .int x5), (6, .int x6)]) 4 dX11_weightFor_136 rfl rfl rfl rfl ?_
        refine gx_goto 10 dX11_weightFor_139 (by decide) ?_
        refine gx_sub [0, 1, 2, 3, 4] (lv' := [(0, .ref 59), (1, .int x1), (2, .int x2), (3, .int (x3 + 0)), (4, .int (x4 + 1))]) rfl ?_
        exact h
      · replace h := h.2 z
        refine gx_aload_n 0 dX11_weightFor_124 rfl rfl ?_
        refine gx_iload 4 dX11_weightFor_125 rfl ?_
        refine gx_callV 11 (As := [.int x4]) (st := [.int x3]) dX11_weightFor_127 ml_X11_168 mm_X11_weightOf rfl rfl rfl rfl rfl rfl ⟨rfl, rfl⟩ h (fun v h2 hq => ?_)
        clear h
        obtain ⟨r8, I5, L6, c7, rfl, rfl, h⟩ := hq
        show Z_M_weightFor g Q 130 [(0, .ref 59), (1, .int x1), (2, .int x2), (3, .int x3), (4, .int x4), (5, .int x5), (6, .int x6)] [.int r8, .int x3] I5 L6 c7
        refine gx_goto 134 dX11_weightFor_130 (by decide) ?_
        refine gx_iadd dX11_weightFor_134 ?_
        refine gx_istore_n (lv' := [(0, .ref 59), (1, .int x1), (2, .int x2), (3, .int (x3 + r8)), (4, .int x4), (5, .int x5), (6, .int x6)]) dX11_weightFor_135 rfl rfl rfl ?_
        refine gx_iinc (v := (x4 + 1)) (lv' := [(0, .ref 59), (1, .int x1), (2, .int x2), (3, .int (x3 + r8)), (4, .int (x4 + 1)), (5, .int x5), (6, .int x6)]) 4 dX11_weightFor_136 rfl rfl rfl rfl ?_
        refine gx_goto 10 dX11_weightFor_139 (by decide) ?_
        refine gx_sub [0, 1, 2, 3, 4] (lv' := [(0, .ref 59), (1, .int x1), (2, .int x2), (3, .int (x3 + r8)), (4, .int (x4 + 1))]) rfl ?_
        exact h
    · replace h := h.2 z
      refine gx_iload 6 dX11_weightFor_38 rfl ?_
      refine gx_iload_n 1 dX11_weightFor_40 rfl rfl ?_
      refine gx_icmp_eq 105 dX11_weightFor_41 (by decide) ⟨fun z => ?_, fun z => ?_⟩
      · replace h := h.1 z
        refine gx_iconst (v := 1) dX11_weightFor_105 (by decide) ?_
        refine gx_goto 110 dX11_weightFor_106 (by decide) ?_
        refine gx_istore (lv' := [(0, .ref 59), (1, .int x1), (2, .int x2), (3, .int x3), (4, .int x4), (5, .int 1), (6, .int x6)]) dX11_weightFor_110 rfl rfl ?_
        refine gx_iinc (v := (x6 + 1)) (lv' := [(0, .ref 59), (1, .int x1), (2, .int x2), (3, .int x3), (4, .int x4), (5, .int 1), (6, .int (x6 + 1))]) 6 dX11_weightFor_112 rfl rfl rfl rfl ?_
        refine gx_goto 27 dX11_weightFor_115 (by decide) ?_
        exact h
      · replace h := h.2 z
        refine gx_iload 6 dX11_weightFor_44 rfl ?_
        refine gx_iload_n 1 dX11_weightFor_46 rfl rfl ?_
        refine gx_icmp_ge 79 dX11_weightFor_47 (by decide) ⟨fun z => ?_, fun z => ?_⟩
        · replace h := h.1 z
          refine gx_aload_n 0 dX11_weightFor_79 rfl rfl ?_
          refine gx_getr 11 25 (v := 67) dX11_weightFor_80 fl_X11_40 rfl rfl rfl ?_
          refine gx_iload 6 dX11_weightFor_83 rfl ?_
          obtain ⟨hi, h⟩ := h
          refine gx_iald (v := (I 67 (Int32.toNatClampNeg x6))) dX11_weightFor_85 rfl rfl hi (k := (Int32.toNatClampNeg x6)) rfl rfl ?_
          refine gx_iload 4 dX11_weightFor_86 rfl ?_
          refine gx_callS (As := [.int (I 67 (Int32.toNatClampNeg x6)), .int x4]) (st := []) dX11_weightFor_88 ml_X11_162 mm_X11_off rfl rfl rfl rfl ⟨rfl, rfl⟩ h (fun v h2 hq => ?_)
          clear h
          obtain ⟨r12, I9, L10, c11, rfl, rfl, h⟩ := hq
          show Z_M_weightFor g Q 91 [(0, .ref 59), (1, .int x1), (2, .int x2), (3, .int x3), (4, .int x4), (5, .int x5), (6, .int x6)] [.int r12] I9 L10 c11
          refine gx_aload_n 0 dX11_weightFor_91 rfl rfl ?_
          refine gx_getr 11 25 (v := 67) dX11_weightFor_92 fl_X11_40 rfl rfl rfl ?_
          refine gx_iload_n 1 dX11_weightFor_95 rfl rfl ?_
          obtain ⟨hi, h⟩ := h
          refine gx_iald (v := (I9 67 (Int32.toNatClampNeg x1))) dX11_weightFor_96 rfl rfl hi (k := (Int32.toNatClampNeg x1)) rfl rfl ?_
          refine gx_iload 4 dX11_weightFor_97 rfl ?_
          refine gx_callS (As := [.int (I9 67 (Int32.toNatClampNeg x1)), .int x4]) (st := [.int r12]) dX11_weightFor_99 ml_X11_162 mm_X11_off rfl rfl rfl rfl ⟨rfl, rfl⟩ h (fun v h2 hq => ?_)
          clear h
          obtain ⟨r16, I13, L14, c15, rfl, rfl, h⟩ := hq
          show Z_M_weightFor g Q 102 [(0, .ref 59), (1, .int x1), (2, .int x2), (3, .int x3), (4, .int x4), (5, .int x5), (6, .int x6)] [.int r16, .int r12] I13 L14 c15
          refine gx_icmp_lt 109 dX11_weightFor_102 (by decide) ⟨fun z => ?_, fun z => ?_⟩
          · replace h := h.1 z
            refine gx_iconst (v := 0) dX11_weightFor_109 (by decide) ?_
            refine gx_istore (lv' := [(0, .ref 59), (1, .int x1), (2, .int x2), (3, .int x3), (4, .int x4), (5, .int 0), (6, .int x6)]) dX11_weightFor_110 rfl rfl ?_
            refine gx_iinc (v := (x6 + 1)) (lv' := [(0, .ref 59), (1, .int x1), (2, .int x2), (3, .int x3), (4, .int x4), (5, .int 0), (6, .int (x6 + 1))]) 6 dX11_weightFor_112 rfl rfl rfl rfl ?_
            refine gx_goto 27 dX11_weightFor_115 (by decide) ?_
            exact h
          · replace h := h.2 z
            refine gx_iconst (v := 1) dX11_weightFor_105 (by decide) ?_
            refine gx_goto 110 dX11_weightFor_106 (by decide) ?_
            refine gx_istore (lv' := [(0, .ref 59), (1, .int x1), (2, .int x2), (3, .int x3), (4, .int x4), (5, .int 1), (6, .int x6)]) dX11_weightFor_110 rfl rfl ?_
            refine gx_iinc (v := (x6 + 1)) (lv' := [(0, .ref 59), (1, .int x1), (2, .int x2), (3, .int x3), (4, .int x4), (5, .int 1), (6, .int (x6 + 1))]) 6 dX11_weightFor_112 rfl rfl rfl rfl ?_
            refine gx_goto 27 dX11_weightFor_115 (by decide) ?_
            exact h
        · replace h := h.2 z
          refine gx_aload_n 0 dX11_weightFor_50 rfl rfl ?_
          refine gx_getr 11 25 (v := 67) dX11_weightFor_51 fl_X11_40 rfl rfl rfl ?_
          refine gx_iload 6 dX11_weightFor_54 rfl ?_
          obtain ⟨hi, h⟩ := h
          refine gx_iald (v := (I 67 (Int32.toNatClampNeg x6))) dX11_weightFor_56 rfl rfl hi (k := (Int32.toNatClampNeg x6)) rfl rfl ?_
          refine gx_iload 4 dX11_weightFor_57 rfl ?_
          refine gx_callS (As := [.int (I 67 (Int32.toNatClampNeg x6)), .int x4]) (st := []) dX11_weightFor_59 ml_X11_162 mm_X11_off rfl rfl rfl rfl ⟨rfl, rfl⟩ h (fun v h2 hq => ?_)
          clear h
          obtain ⟨r20, I17, L18, c19, rfl, rfl, h⟩ := hq
          show Z_M_weightFor g Q 62 [(0, .ref 59), (1, .int x1), (2, .int x2), (3, .int x3), (4, .int x4), (5, .int x5), (6, .int x6)] [.int r20] I17 L18 c19
          refine gx_aload_n 0 dX11_weightFor_62 rfl rfl ?_
          refine gx_getr 11 25 (v := 67) dX11_weightFor_63 fl_X11_40 rfl rfl rfl ?_
          refine gx_iload_n 1 dX11_weightFor_66 rfl rfl ?_
          obtain ⟨hi, h⟩ := h
          refine gx_iald (v := (I17 67 (Int32.toNatClampNeg x1))) dX11_weightFor_67 rfl rfl hi (k := (Int32.toNatClampNeg x1)) rfl rfl ?_
          refine gx_iload 4 dX11_weightFor_68 rfl ?_
          refine gx_callS (As := [.int (I17 67 (Int32.toNatClampNeg x1)), .int x4]) (st := [.int r20]) dX11_weightFor_70 ml_X11_162 mm_X11_off rfl rfl rfl rfl ⟨rfl, rfl⟩ h (fun v h2 hq => ?_)
          clear h
          obtain ⟨r24, I21, L22, c23, rfl, rfl, h⟩ := hq
          show Z_M_weightFor g Q 73 [(0, .ref 59), (1, .int x1), (2, .int x2), (3, .int x3), (4, .int x4), (5, .int x5), (6, .int x6)] [.int r24, .int r20] I21 L22 c23
          refine gx_icmp_le 109 dX11_weightFor_73 (by decide) ⟨fun z => ?_, fun z => ?_⟩
          · replace h := h.1 z
            refine gx_iconst (v := 0) dX11_weightFor_109 (by decide) ?_
            refine gx_istore (lv' := [(0, .ref 59), (1, .int x1), (2, .int x2), (3, .int x3), (4, .int x4), (5, .int 0), (6, .int x6)]) dX11_weightFor_110 rfl rfl ?_
            refine gx_iinc (v := (x6 + 1)) (lv' := [(0, .ref 59), (1, .int x1), (2, .int x2), (3, .int x3), (4, .int x4), (5, .int 0), (6, .int (x6 + 1))]) 6 dX11_weightFor_112 rfl rfl rfl rfl ?_
            refine gx_goto 27 dX11_weightFor_115 (by decide) ?_
            exact h
          · replace h := h.2 z
            refine gx_goto 105 dX11_weightFor_76 (by decide) ?_
            refine gx_iconst (v := 1) dX11_weightFor_105 (by decide) ?_
            refine gx_goto 110 dX11_weightFor_106 (by decide) ?_
            refine gx_istore (lv' := [(0, .ref 59), (1, .int x1), (2, .int x2), (3, .int x3), (4, .int x4), (5, .int 1), (6, .int x6)]) dX11_weightFor_110 rfl rfl ?_
            refine gx_iinc (v := (x6 + 1)) (lv' := [(0, .ref 59), (1, .int x1), (2, .int x2), (3, .int x3), (4, .int x4), (5, .int 1), (6, .int (x6 + 1))]) 6 dX11_weightFor_112 rfl rfl rfl rfl ?_
            refine gx_goto 27 dX11_weightFor_115 (by decide) ?_
            exact h
abbrev Z_M_writesOn_0_1 (g : gm_G) (Q : mI → mL → gm_cfg → Prop) (pc : Nat) (lv : List (Nat × Value)) (st : List Value) (I : mI) (L : mL) (c : gm_cfg) : Prop := gm_X g RX11 "writesOn" cX11_writesOn 7 none 4 0 0 (qV Q) 0 0 pc lv st (SH, I, L, RR c)
abbrev C_M_writesOn_0_1 (g : gm_G) (I : mI) (L : mL) (c : gm_cfg) (Q : mI → mL → gm_cfg → Prop) : Prop := gm_Met g yX11_writesOn cX11_writesOn 7 none 4 0 0 [.ref 59, .int 0, .int 1] (SH, I, L, RR c) (qV Q)
set_option maxRecDepth 100000 in
theorem e_M_writesOn_0_1 {g : gm_G} {Q : mI → mL → gm_cfg → Prop} {I : mI} {L : mL} {c : gm_cfg} (h : Z_M_writesOn_0_1 g Q 16 [(0, .ref 59), (1, .int 0), (2, .int 1), (3, .int (-1)), (4, .int (I 60 2))] [] I L c) : C_M_writesOn_0_1 g  I L c Q := by
  refine gm_enter (lv := [(0, .ref 59), (1, .int 0), (2, .int 1)]) (by decide) rfl rfl rfl rfl ?_
  show Z_M_writesOn_0_1 g Q 0 [(0, .ref 59), (1, .int 0), (2, .int 1)] [] I L c
  refine gx_iload_n 1 dX11_writesOn_0 rfl rfl ?_
  refine gx_iload_n 2 dX11_writesOn_1 rfl rfl ?_
  refine gx_icmp_ne 6 dX11_writesOn_2 (by decide) (br_f (by decide) ?_)
  refine gx_iconst (v := (-1)) dX11_writesOn_6 (by decide) ?_
  refine gx_istore_n (lv' := [(0, .ref 59), (1, .int 0), (2, .int 1), (3, .int (-1))]) dX11_writesOn_7 rfl rfl rfl ?_
  refine gx_aload_n 0 dX11_writesOn_8 rfl rfl ?_
  refine gx_getr 11 1 (v := 60) dX11_writesOn_9 fl_X11_13 rfl rfl rfl ?_
  refine gx_iconst (v := 2) dX11_writesOn_12 (by decide) ?_
  refine gx_iald (v := (I 60 2)) dX11_writesOn_13 rfl rfl (gm_vin rfl) (k := 2) rfl rfl ?_
  refine gx_istore (lv' := [(0, .ref 59), (1, .int 0), (2, .int 1), (3, .int (-1)), (4, .int (I 60 2))]) dX11_writesOn_14 rfl rfl ?_
  exact h
set_option maxRecDepth 100000 in
theorem r_M_writesOn_0_1_16 {g : gm_G} {Q : mI → mL → gm_cfg → Prop} {x3 x4 : Int32} {I : mI} {L : mL} {c : gm_cfg} (h : (((I 60 3) < x4 → Z_M_writesOn_0_1 g Q 105 [(0, .ref 59), (1, .int 0), (2, .int 1), (3, .int x3), (4, .int 0)] [] I L c) ∧ (¬ (I 60 3) < x4 → (C_M_writesOn_1_1 g (gm_u I 67 0 x4) L c (fun I1 L2 c3 => (C_M_weightFor g 0 1 I1 L2 c3 (fun r7 I4 L5 c6 => ((x3 < r7 → Z_M_writesOn_0_1 g Q 66 [(0, .ref 59), (1, .int 0), (2, .int 1), (3, .int r7), (4, .int x4), (5, .int r7), (6, .int 0)] [] I4 L5 c6) ∧ (¬ x3 < r7 → Z_M_writesOn_0_1 g Q 16 [(0, .ref 59), (1, .int 0), (2, .int 1), (3, .int x3), (4, .int (x4 + 1))] [] I4 L5 c6))))))))) : Z_M_writesOn_0_1 g Q 16 [(0, .ref 59), (1, .int 0), (2, .int 1), (3, .int x3), (4, .int x4)] [] I L c := by
  refine gx_iload 4 dX11_writesOn_16 rfl ?_
  refine gx_aload_n 0 dX11_writesOn_18 rfl rfl ?_
  refine gx_getr 11 1 (v := 60) dX11_writesOn_19 fl_X11_13 rfl rfl rfl ?_
  refine gx_iconst (v := 3) dX11_writesOn_22 (by decide) ?_
  refine gx_iald (v := (I 60 3)) dX11_writesOn_23 rfl rfl (gm_vin rfl) (k := 3) rfl rfl ?_
  refine gx_icmp_gt 102 dX11_writesOn_24 (by decide) ⟨fun z => ?_, fun z => ?_⟩
  · replace h := h.1 z
    refine gx_iload_n 1 dX11_writesOn_102 rfl rfl ?_
    refine gx_istore (lv' := [(0, .ref 59), (1, .int 0), (2, .int 1), (3, .int x3), (4, .int 0)]) dX11_writesOn_103 rfl rfl ?_
    exact h
  · replace h := h.2 z
    refine gx_aload_n 0 dX11_writesOn_27 rfl rfl ?_
    refine gx_getr 11 25 (v := 67) dX11_writesOn_28 fl_X11_40 rfl rfl rfl ?_
    refine gx_iload_n 1 dX11_writesOn_31 rfl rfl ?_
    refine gx_iload 4 dX11_writesOn_32 rfl ?_
    refine gx_iast dX11_writesOn_34 rfl rfl (gm_vin rfl) (k := 0) rfl ?_
    show Z_M_writesOn_0_1 g Q 35 [(0, .ref 59), (1, .int 0), (2, .int 1), (3, .int x3), (4, .int x4)] [] (gm_u I 67 0 x4) L c
    refine gx_aload_n 0 dX11_writesOn_35 rfl rfl ?_
    refine gx_iload_n 1 dX11_writesOn_36 rfl rfl ?_
    refine gx_iconst (v := 1) dX11_writesOn_37 (by decide) ?_
    refine gx_iadd dX11_writesOn_38 ?_
    show Z_M_writesOn_0_1 g Q 39 [(0, .ref 59), (1, .int 0), (2, .int 1), (3, .int x3), (4, .int x4)] [.int 1, .ref 59] (gm_u I 67 0 x4) L c
    refine gx_iload_n 2 dX11_writesOn_39 rfl rfl ?_
    refine gx_callV 11 (As := [.int 1, .int 1]) (st := []) dX11_writesOn_40 ml_X11_302 mm_X11_writesOn rfl rfl rfl rfl rfl rfl ⟨rfl, rfl⟩ h (fun v h2 hq => ?_)
    clear h
    obtain ⟨I1, L2, c3, rfl, rfl, h⟩ := hq
    show Z_M_writesOn_0_1 g Q 43 [(0, .ref 59), (1, .int 0), (2, .int 1), (3, .int x3), (4, .int x4)] [] I1 L2 c3
    refine gx_aload_n 0 dX11_writesOn_43 rfl rfl ?_
    refine gx_iload_n 1 dX11_writesOn_44 rfl rfl ?_
    refine gx_iload_n 2 dX11_writesOn_45 rfl rfl ?_
    refine gx_callV 11 (As := [.int 0, .int 1]) (st := []) dX11_writesOn_46 ml_X11_305 mm_X11_weightFor rfl rfl rfl rfl rfl rfl ⟨rfl, rfl⟩ h (fun v h2 hq => ?_)
    clear h
    obtain ⟨r7, I4, L5, c6, rfl, rfl, h⟩ := hq
    show Z_M_writesOn_0_1 g Q 49 [(0, .ref 59), (1, .int 0), (2, .int 1), (3, .int x3), (4, .int x4)] [.int r7] I4 L5 c6
    refine gx_istore (lv' := [(0, .ref 59), (1, .int 0), (2, .int 1), (3, .int x3), (4, .int x4), (5, .int r7)]) dX11_writesOn_49 rfl rfl ?_
    refine gx_iload 5 dX11_writesOn_51 rfl ?_
    refine gx_iload_n 3 dX11_writesOn_53 rfl rfl ?_
    refine gx_icmp_gt 60 dX11_writesOn_54 (by decide) ⟨fun z => ?_, fun z => ?_⟩
    · replace h := h.1 z
      refine gx_iload 5 dX11_writesOn_60 rfl ?_
      refine gx_istore_n (lv' := [(0, .ref 59), (1, .int 0), (2, .int 1), (3, .int r7), (4, .int x4), (5, .int r7)]) dX11_writesOn_62 rfl rfl rfl ?_
      refine gx_iconst (v := 0) dX11_writesOn_63 (by decide) ?_
      refine gx_istore (lv' := [(0, .ref 59), (1, .int 0), (2, .int 1), (3, .int r7), (4, .int x4), (5, .int r7), (6, .int 0)]) dX11_writesOn_64 rfl rfl ?_
      exact h
    · replace h := h.2 z
      refine gx_goto 96 dX11_writesOn_57 (by decide) ?_
      refine gx_iinc (v := (x4 + 1)) (lv' := [(0, .ref 59), (1, .int 0), (2, .int 1), (3, .int x3), (4, .int (x4 + 1)), (5, .int r7)]) 4 dX11_writesOn_96 rfl rfl rfl rfl ?_
      refine gx_goto 16 dX11_writesOn_99 (by decide) ?_
      refine gx_sub [0, 1, 2, 3, 4] (lv' := [(0, .ref 59), (1, .int 0), (2, .int 1), (3, .int x3), (4, .int (x4 + 1))]) rfl ?_
      exact h
set_option maxRecDepth 100000 in
theorem r_M_writesOn_0_1_66 {g : gm_G} {Q : mI → mL → gm_cfg → Prop} {x4 x5 x3 x6 : Int32} {I : mI} {L : mL} {c : gm_cfg} (h : ((1 ≤ x6 → Z_M_writesOn_0_1 g Q 16 [(0, .ref 59), (1, .int 0), (2, .int 1), (3, .int x3), (4, .int (x4 + 1))] [] I L c) ∧ (¬ 1 ≤ x6 → (vp_in x6 3 ∧ (vp_in (0 + x6) 9 ∧ Z_M_writesOn_0_1 g Q 66 [(0, .ref 59), (1, .int 0), (2, .int 1), (3, .int x3), (4, .int x4), (5, .int x5), (6, .int (x6 + 1))] [] (gm_u I 68 (Int32.toNatClampNeg (0 + x6)) (I 67 (Int32.toNatClampNeg x6))) L c))))) : Z_M_writesOn_0_1 g Q 66 [(0, .ref 59), (1, .int 0), (2, .int 1), (3, .int x3), (4, .int x4), (5, .int x5), (6, .int x6)] [] I L c := by
  refine gx_iload 6 dX11_writesOn_66 rfl ?_
  refine gx_iload_n 2 dX11_writesOn_68 rfl rfl ?_
  refine gx_icmp_ge 96 dX11_writesOn_69 (by decide) ⟨fun z => ?_, fun z => ?_⟩
  · replace h := h.1 z
    refine gx_iinc (v := (x4 + 1)) (lv' := [(0, .ref 59), (1, .int 0), (2, .int 1), (3, .int x3), (4, .int (x4 + 1)), (5, .int x5), (6, .int x6)]) 4 dX11_writesOn_96 rfl rfl rfl rfl ?_
    refine gx_goto 16 dX11_writesOn_99 (by decide) ?_
    refine gx_sub [0, 1, 2, 3, 4] (lv' := [(0, .ref 59), (1, .int 0), (2, .int 1), (3, .int x3), (4, .int (x4 + 1))]) rfl ?_
    exact h
  · replace h := h.2 z
    refine gx_aload_n 0 dX11_writesOn_72 rfl rfl ?_
    refine gx_getr 11 26 (v := 68) dX11_writesOn_73 fl_X11_43 rfl rfl rfl ?_
    refine gx_iconst (v := 3) dX11_writesOn_76 (by decide) ?_
    refine gx_iload_n 1 dX11_writesOn_77 rfl rfl ?_
    refine gx_imul dX11_writesOn_78 ?_
    show Z_M_writesOn_0_1 g Q 79 [(0, .ref 59), (1, .int 0), (2, .int 1), (3, .int x3), (4, .int x4), (5, .int x5), (6, .int x6)] [.int 0, .ref 68] I L c
    refine gx_iload 6 dX11_writesOn_79 rfl ?_
    refine gx_iadd dX11_writesOn_81 ?_
    refine gx_aload_n 0 dX11_writesOn_82 rfl rfl ?_
    refine gx_getr 11 25 (v := 67) dX11_writesOn_83 fl_X11_40 rfl rfl rfl ?_
    refine gx_iload 6 dX11_writesOn_86 rfl ?_
    obtain ⟨hi, h⟩ := h
    refine gx_iald (v := (I 67 (Int32.toNatClampNeg x6))) dX11_writesOn_88 rfl rfl hi (k := (Int32.toNatClampNeg x6)) rfl rfl ?_
    obtain ⟨hi, h⟩ := h
    refine gx_iast dX11_writesOn_89 rfl rfl hi (k := (Int32.toNatClampNeg (0 + x6))) rfl ?_
    show Z_M_writesOn_0_1 g Q 90 [(0, .ref 59), (1, .int 0), (2, .int 1), (3, .int x3), (4, .int x4), (5, .int x5), (6, .int x6)] [] (gm_u I 68 (Int32.toNatClampNeg (0 + x6)) (I 67 (Int32.toNatClampNeg x6))) L c
    refine gx_iinc (v := (x6 + 1)) (lv' := [(0, .ref 59), (1, .int 0), (2, .int 1), (3, .int x3), (4, .int x4), (5, .int x5), (6, .int (x6 + 1))]) 6 dX11_writesOn_90 rfl rfl rfl rfl ?_
    refine gx_goto 66 dX11_writesOn_93 (by decide) ?_
    exact h
set_option maxRecDepth 100000 in
theorem r_M_writesOn_0_1_105 {g : gm_G} {Q : mI → mL → gm_cfg → Prop} {x3 x4 : Int32} {I : mI} {L : mL} {c : gm_cfg} (h : ((1 ≤ x4 → Q I L c) ∧ (¬ 1 ≤ x4 → (vp_in (0 + x4) 9 ∧ (vp_in x4 3 ∧ Z_M_writesOn_0_1 g Q 105 [(0, .ref 59), (1, .int 0), (2, .int 1), (3, .int x3), (4, .int (x4 + 1))] [] (gm_u I 67 (Int32.toNatClampNeg x4) (I 68 (Int32.toNatClampNeg (0 + x4)))) L c))))) : Z_M_writesOn_0_1 g Q 105 [(0, .ref 59), (1, .int 0), (2, .int 1), (3, .int x3), (4, .int x4)] [] I L c := by
  refine gx_iload 4 dX11_writesOn_105 rfl ?_
  refine gx_iload_n 2 dX11_writesOn_107 rfl rfl ?_
  refine gx_icmp_ge 135 dX11_writesOn_108 (by decide) ⟨fun z => ?_, fun z => ?_⟩
  · replace h := h.1 z
    exact gx_vret dX11_writesOn_135 rfl rfl rfl ⟨_, _, _, rfl, rfl, h⟩
  · replace h := h.2 z
    refine gx_aload_n 0 dX11_writesOn_111 rfl rfl ?_
    refine gx_getr 11 25 (v := 67) dX11_writesOn_112 fl_X11_40 rfl rfl rfl ?_
    refine gx_iload 4 dX11_writesOn_115 rfl ?_
    refine gx_aload_n 0 dX11_writesOn_117 rfl rfl ?_
    refine gx_getr 11 26 (v := 68) dX11_writesOn_118 fl_X11_43 rfl rfl rfl ?_
    refine gx_iconst (v := 3) dX11_writesOn_121 (by decide) ?_
    refine gx_iload_n 1 dX11_writesOn_122 rfl rfl ?_
    refine gx_imul dX11_writesOn_123 ?_
    show Z_M_writesOn_0_1 g Q 124 [(0, .ref 59), (1, .int 0), (2, .int 1), (3, .int x3), (4, .int x4)] [.int 0, .ref 68, .int x4, .ref 67] I L c
    refine gx_iload 4 dX11_writesOn_124 rfl ?_
    refine gx_iadd dX11_writesOn_126 ?_
    obtain ⟨hi, h⟩ := h
    refine gx_iald (v := (I 68 (Int32.toNatClampNeg (0 + x4)))) dX11_writesOn_127 rfl rfl hi (k := (Int32.toNatClampNeg (0 + x4))) rfl rfl ?_
    obtain ⟨hi, h⟩ := h
    refine gx_iast dX11_writesOn_128 rfl rfl hi (k := (Int32.toNatClampNeg x4)) rfl ?_
    show Z_M_writesOn_0_1 g Q 129 [(0, .ref 59), (1, .int 0), (2, .int 1), (3, .int x3), (4, .int x4)] [] (gm_u I 67 (Int32.toNatClampNeg x4) (I 68 (Int32.toNatClampNeg (0 + x4)))) L c
    refine gx_iinc (v := (x4 + 1)) (lv' := [(0, .ref 59), (1, .int 0), (2, .int 1), (3, .int x3), (4, .int (x4 + 1))]) 4 dX11_writesOn_129 rfl rfl rfl rfl ?_
    refine gx_goto 105 dX11_writesOn_132 (by decide) ?_
    exact h
abbrev Z_M_game_1 (g : gm_G) (Q : Int32 → mI → mL → gm_cfg → Prop) (pc : Nat) (lv : List (Nat × Value)) (st : List Value) (I : mI) (L : mL) (c : gm_cfg) : Prop := gm_X g RX11 "game" cX11_game 3 (some .int) 5 0 0 (qI Q) 0 0 pc lv st (SH, I, L, RR c)
abbrev C_M_game_1 (g : gm_G) (x2 : Int32) (I : mI) (L : mL) (c : gm_cfg) (Q : Int32 → mI → mL → gm_cfg → Prop) : Prop := gm_Met g yX11_game cX11_game 3 (some .int) 5 0 0 [.ref 59, .int 1, .int x2] (SH, I, L, RR c) (qI Q)
set_option maxRecDepth 100000 in
theorem e_M_game_1 {g : gm_G} {Q : Int32 → mI → mL → gm_cfg → Prop} {x2 : Int32} {I : mI} {L : mL} {c : gm_cfg} (h : (C_M_within g 1 1 3 (gm_u I 59 0 0) L c (fun b4 I1 L2 c3 => ((b4 = false → Q (-3) I1 L2 c3) ∧ (b4 = true → (C_M_within g (Int32.toInt64 x2) 0 0 I1 L2 c3 (fun b8 I5 L6 c7 => ((b8 = false → (C_M_within g (Int32.toInt64 x2) 10 10 I5 L6 c7 (fun b12 I9 L10 c11 => ((b12 = false → Q (-2) I9 L10 c11) ∧ (b12 = true → (C_M_gridMany g I9 L10 c11 (fun r16 I13 L14 c15 => ((r16 ≤ 24 → (C_M_writesOn_0_1 g I13 L14 c15 (fun I17 L18 c19 => ((10 ≤ x2 → (C_M_weightFor g (x2 - 10) 1 I17 L18 c19 (fun r23 I20 L21 c22 => Q r23 I20 L21 c22))) ∧ (¬ 10 ≤ x2 → (vp_in x2 3 ∧ Q (I17 67 (Int32.toNatClampNeg x2)) I17 L18 c19)))))) ∧ (¬ r16 ≤ 24 → Q (-4) I13 L14 c15))))))))) ∧ (b8 = true → (C_M_gridMany g I5 L6 c7 (fun r27 I24 L25 c26 => ((r27 ≤ 24 → (C_M_writesOn_0_1 g I24 L25 c26 (fun I28 L29 c30 => ((10 ≤ x2 → (C_M_weightFor g (x2 - 10) 1 I28 L29 c30 (fun r34 I31 L32 c33 => Q r34 I31 L32 c33))) ∧ (¬ 10 ≤ x2 → (vp_in x2 3 ∧ Q (I28 67 (Int32.toNatClampNeg x2)) I28 L29 c30)))))) ∧ (¬ r27 ≤ 24 → Q (-4) I24 L25 c26))))))))))))) : C_M_game_1 g x2 I L c Q := by
  refine gm_enter (lv := [(0, .ref 59), (1, .int 1), (2, .int x2)]) (by decide) rfl rfl rfl rfl ?_
  show Z_M_game_1 g Q 0 [(0, .ref 59), (1, .int 1), (2, .int x2)] [] I L c
  refine gx_aload_n 0 dX11_game_0 rfl rfl ?_
  refine gx_iconst (v := 0) dX11_game_1 (by decide) ?_
  refine gx_puti 11 0 dX11_game_2 fl_X11_1 rfl rfl rfl ⟨rfl, rfl⟩ ?_
  show Z_M_game_1 g Q 5 [(0, .ref 59), (1, .int 1), (2, .int x2)] [] (gm_u I 59 0 0) L c
  refine gx_iload_n 1 dX11_game_5 rfl rfl ?_
  refine gx_i2l dX11_game_6 ?_
  show Z_M_game_1 g Q 7 [(0, .ref 59), (1, .int 1), (2, .int x2)] [.long 1] (gm_u I 59 0 0) L c
  refine gx_lconst (v := 1) dX11_game_7 (by decide) ?_
  refine gx_ldc2 dX11_game_8 kl_X11_194 ?_
  refine gx_callS (As := [.long 1, .long 1, .long 3]) (st := []) dX11_game_11 ml_X11_125 mm_X11_within rfl rfl rfl rfl ⟨rfl, rfl⟩ h (fun v h2 hq => ?_)
  clear h
  obtain ⟨b4, I1, L2, c3, rfl, rfl, h⟩ := hq
  show Z_M_game_1 g Q 14 [(0, .ref 59), (1, .int 1), (2, .int x2)] [.int (gm_b b4)] I1 L2 c3
  refine gx_if_ne 20 dX11_game_14 (by decide) ⟨fun z => ?_, fun z => ?_⟩
  · replace h := h.1 (gm_b0.mp z)
    refine gx_bipush (v := (-3)) dX11_game_17 (by decide) ?_
    exact gx_iret dX11_game_19 rfl rfl rfl ⟨_, _, _, _, rfl, rfl, h⟩
  · replace h := h.2 (gm_bn0 z)
    refine gx_iload_n 2 dX11_game_20 rfl rfl ?_
    refine gx_i2l dX11_game_21 ?_
    refine gx_lconst (v := 0) dX11_game_22 (by decide) ?_
    refine gx_iload_n 1 dX11_game_23 rfl rfl ?_
    refine gx_iconst (v := 1) dX11_game_24 (by decide) ?_
    refine gx_isub dX11_game_25 ?_
    show Z_M_game_1 g Q 26 [(0, .ref 59), (1, .int 1), (2, .int x2)] [.int 0, .long 0, .long (Int32.toInt64 x2)] I1 L2 c3
    refine gx_i2l dX11_game_26 ?_
    show Z_M_game_1 g Q 27 [(0, .ref 59), (1, .int 1), (2, .int x2)] [.long 0, .long 0, .long (Int32.toInt64 x2)] I1 L2 c3
    refine gx_callS (As := [.long (Int32.toInt64 x2), .long 0, .long 0]) (st := []) dX11_game_27 ml_X11_125 mm_X11_within rfl rfl rfl rfl ⟨rfl, rfl⟩ h (fun v h2 hq => ?_)
    clear h
    obtain ⟨b8, I5, L6, c7, rfl, rfl, h⟩ := hq
    show Z_M_game_1 g Q 30 [(0, .ref 59), (1, .int 1), (2, .int x2)] [.int (gm_b b8)] I5 L6 c7
    refine gx_if_ne 52 dX11_game_30 (by decide) ⟨fun z => ?_, fun z => ?_⟩
    · replace h := h.1 (gm_b0.mp z)
      refine gx_iload_n 2 dX11_game_33 rfl rfl ?_
      refine gx_i2l dX11_game_34 ?_
      refine gx_ldc2 dX11_game_35 kl_X11_308 ?_
      refine gx_bipush (v := 9) dX11_game_38 (by decide) ?_
      refine gx_iload_n 1 dX11_game_40 rfl rfl ?_
      refine gx_iadd dX11_game_41 ?_
      show Z_M_game_1 g Q 42 [(0, .ref 59), (1, .int 1), (2, .int x2)] [.int 10, .long 10, .long (Int32.toInt64 x2)] I5 L6 c7
      refine gx_i2l dX11_game_42 ?_
      show Z_M_game_1 g Q 43 [(0, .ref 59), (1, .int 1), (2, .int x2)] [.long 10, .long 10, .long (Int32.toInt64 x2)] I5 L6 c7
      refine gx_callS (As := [.long (Int32.toInt64 x2), .long 10, .long 10]) (st := []) dX11_game_43 ml_X11_125 mm_X11_within rfl rfl rfl rfl ⟨rfl, rfl⟩ h (fun v h2 hq => ?_)
      clear h
      obtain ⟨b12, I9, L10, c11, rfl, rfl, h⟩ := hq
      show Z_M_game_1 g Q 46 [(0, .ref 59), (1, .int 1), (2, .int x2)] [.int (gm_b b12)] I9 L10 c11
      refine gx_if_ne 52 dX11_game_46 (by decide) ⟨fun z => ?_, fun z => ?_⟩
      · replace h := h.1 (gm_b0.mp z)
        refine gx_bipush (v := (-2)) dX11_game_49 (by decide) ?_
        exact gx_iret dX11_game_51 rfl rfl rfl ⟨_, _, _, _, rfl, rfl, h⟩
      · replace h := h.2 (gm_bn0 z)
        refine gx_aload_n 0 dX11_game_52 rfl rfl ?_
        refine gx_callV 11 (As := []) (st := []) dX11_game_53 ml_X11_240 mm_X11_gridMany rfl rfl rfl rfl rfl rfl ⟨rfl, rfl⟩ h (fun v h2 hq => ?_)
        clear h
        obtain ⟨r16, I13, L14, c15, rfl, rfl, h⟩ := hq
        show Z_M_game_1 g Q 56 [(0, .ref 59), (1, .int 1), (2, .int x2)] [.int r16] I13 L14 c15
        refine gx_bipush (v := 24) dX11_game_56 (by decide) ?_
        refine gx_icmp_le 64 dX11_game_58 (by decide) ⟨fun z => ?_, fun z => ?_⟩
        · replace h := h.1 z
          refine gx_aload_n 0 dX11_game_64 rfl rfl ?_
          refine gx_iconst (v := 0) dX11_game_65 (by decide) ?_
          refine gx_iload_n 1 dX11_game_66 rfl rfl ?_
          refine gx_callV 11 (As := [.int 0, .int 1]) (st := []) dX11_game_67 ml_X11_302 mm_X11_writesOn rfl rfl rfl rfl rfl rfl ⟨rfl, rfl⟩ h (fun v h2 hq => ?_)
          clear h
          obtain ⟨I17, L18, c19, rfl, rfl, h⟩ := hq
          show Z_M_game_1 g Q 70 [(0, .ref 59), (1, .int 1), (2, .int x2)] [] I17 L18 c19
          refine gx_iload_n 2 dX11_game_70 rfl rfl ?_
          refine gx_bipush (v := 10) dX11_game_71 (by decide) ?_
          refine gx_icmp_ge 85 dX11_game_73 (by decide) ⟨fun z => ?_, fun z => ?_⟩
          · replace h := h.1 z
            refine gx_aload_n 0 dX11_game_85 rfl rfl ?_
            refine gx_iload_n 2 dX11_game_86 rfl rfl ?_
            refine gx_bipush (v := 10) dX11_game_87 (by decide) ?_
            refine gx_isub dX11_game_89 ?_
            refine gx_iload_n 1 dX11_game_90 rfl rfl ?_
            refine gx_callV 11 (As := [.int (x2 - 10), .int 1]) (st := []) dX11_game_91 ml_X11_305 mm_X11_weightFor rfl rfl rfl rfl rfl rfl ⟨rfl, rfl⟩ h (fun v h2 hq => ?_)
            clear h
            obtain ⟨r23, I20, L21, c22, rfl, rfl, h⟩ := hq
            show Z_M_game_1 g Q 94 [(0, .ref 59), (1, .int 1), (2, .int x2)] [.int r23] I20 L21 c22
            exact gx_iret dX11_game_94 rfl rfl rfl ⟨_, _, _, _, rfl, rfl, h⟩
          · replace h := h.2 z
            refine gx_aload_n 0 dX11_game_76 rfl rfl ?_
            refine gx_getr 11 25 (v := 67) dX11_game_77 fl_X11_40 rfl rfl rfl ?_
            refine gx_iload_n 2 dX11_game_80 rfl rfl ?_
            obtain ⟨hi, h⟩ := h
            refine gx_iald (v := (I17 67 (Int32.toNatClampNeg x2))) dX11_game_81 rfl rfl hi (k := (Int32.toNatClampNeg x2)) rfl rfl ?_
            refine gx_goto 94 dX11_game_82 (by decide) ?_
            exact gx_iret dX11_game_94 rfl rfl rfl ⟨_, _, _, _, rfl, rfl, h⟩
        · replace h := h.2 z
          refine gx_bipush (v := (-4)) dX11_game_61 (by decide) ?_
          exact gx_iret dX11_game_63 rfl rfl rfl ⟨_, _, _, _, rfl, rfl, h⟩
    · replace h := h.2 (gm_bn0 z)
      refine gx_aload_n 0 dX11_game_52 rfl rfl ?_
      refine gx_callV 11 (As := []) (st := []) dX11_game_53 ml_X11_240 mm_X11_gridMany rfl rfl rfl rfl rfl rfl ⟨rfl, rfl⟩ h (fun v h2 hq => ?_)
      clear h
      obtain ⟨r27, I24, L25, c26, rfl, rfl, h⟩ := hq
      show Z_M_game_1 g Q 56 [(0, .ref 59), (1, .int 1), (2, .int x2)] [.int r27] I24 L25 c26
      refine gx_bipush (v := 24) dX11_game_56 (by decide) ?_
      refine gx_icmp_le 64 dX11_game_58 (by decide) ⟨fun z => ?_, fun z => ?_⟩
      · replace h := h.1 z
        refine gx_aload_n 0 dX11_game_64 rfl rfl ?_
        refine gx_iconst (v := 0) dX11_game_65 (by decide) ?_
        refine gx_iload_n 1 dX11_game_66 rfl rfl ?_
        refine gx_callV 11 (As := [.int 0, .int 1]) (st := []) dX11_game_67 ml_X11_302 mm_X11_writesOn rfl rfl rfl rfl rfl rfl ⟨rfl, rfl⟩ h (fun v h2 hq => ?_)
        clear h
        obtain ⟨I28, L29, c30, rfl, rfl, h⟩ := hq
        show Z_M_game_1 g Q 70 [(0, .ref 59), (1, .int 1), (2, .int x2)] [] I28 L29 c30
        refine gx_iload_n 2 dX11_game_70 rfl rfl ?_
        refine gx_bipush (v := 10) dX11_game_71 (by decide) ?_
        refine gx_icmp_ge 85 dX11_game_73 (by decide) ⟨fun z => ?_, fun z => ?_⟩
        · replace h := h.1 z
          refine gx_aload_n 0 dX11_game_85 rfl rfl ?_
          refine gx_iload_n 2 dX11_game_86 rfl rfl ?_
          refine gx_bipush (v := 10) dX11_game_87 (by decide) ?_
          refine gx_isub dX11_game_89 ?_
          refine gx_iload_n 1 dX11_game_90 rfl rfl ?_
          refine gx_callV 11 (As := [.int (x2 - 10), .int 1]) (st := []) dX11_game_91 ml_X11_305 mm_X11_weightFor rfl rfl rfl rfl rfl rfl ⟨rfl, rfl⟩ h (fun v h2 hq => ?_)
          clear h
          obtain ⟨r34, I31, L32, c33, rfl, rfl, h⟩ := hq
          show Z_M_game_1 g Q 94 [(0, .ref 59), (1, .int 1), (2, .int x2)] [.int r34] I31 L32 c33
          exact gx_iret dX11_game_94 rfl rfl rfl ⟨_, _, _, _, rfl, rfl, h⟩
        · replace h := h.2 z
          refine gx_aload_n 0 dX11_game_76 rfl rfl ?_
          refine gx_getr 11 25 (v := 67) dX11_game_77 fl_X11_40 rfl rfl rfl ?_
          refine gx_iload_n 2 dX11_game_80 rfl rfl ?_
          obtain ⟨hi, h⟩ := h
          refine gx_iald (v := (I28 67 (Int32.toNatClampNeg x2))) dX11_game_81 rfl rfl hi (k := (Int32.toNatClampNeg x2)) rfl rfl ?_
          refine gx_goto 94 dX11_game_82 (by decide) ?_
          exact gx_iret dX11_game_94 rfl rfl rfl ⟨_, _, _, _, rfl, rfl, h⟩
      · replace h := h.2 z
        refine gx_bipush (v := (-4)) dX11_game_61 (by decide) ?_
        exact gx_iret dX11_game_63 rfl rfl rfl ⟨_, _, _, _, rfl, rfl, h⟩
abbrev Z_M_writesOn_2_2 (g : gm_G) (Q : mI → mL → gm_cfg → Prop) (pc : Nat) (lv : List (Nat × Value)) (st : List Value) (I : mI) (L : mL) (c : gm_cfg) : Prop := gm_X g RX11 "writesOn" cX11_writesOn 7 none 1 0 0 (qV Q) 0 0 pc lv st (SH, I, L, RR c)
abbrev C_M_writesOn_2_2 (g : gm_G) (I : mI) (L : mL) (c : gm_cfg) (Q : mI → mL → gm_cfg → Prop) : Prop := gm_Met g yX11_writesOn cX11_writesOn 7 none 1 0 0 [.ref 59, .int 2, .int 2] (SH, I, L, RR c) (qV Q)
set_option maxRecDepth 100000 in
theorem e_M_writesOn_2_2 {g : gm_G} {Q : mI → mL → gm_cfg → Prop} {I : mI} {L : mL} {c : gm_cfg} (h : Q I L c) : C_M_writesOn_2_2 g  I L c Q := by
  refine gm_enter (lv := [(0, .ref 59), (1, .int 2), (2, .int 2)]) (by decide) rfl rfl rfl rfl ?_
  show Z_M_writesOn_2_2 g Q 0 [(0, .ref 59), (1, .int 2), (2, .int 2)] [] I L c
  refine gx_iload_n 1 dX11_writesOn_0 rfl rfl ?_
  refine gx_iload_n 2 dX11_writesOn_1 rfl rfl ?_
  refine gx_icmp_ne 6 dX11_writesOn_2 (by decide) (br_t (by decide) ?_)
  exact gx_vret dX11_writesOn_5 rfl rfl rfl ⟨_, _, _, rfl, rfl, h⟩
abbrev Z_M_writesOn_1_2 (g : gm_G) (Q : mI → mL → gm_cfg → Prop) (pc : Nat) (lv : List (Nat × Value)) (st : List Value) (I : mI) (L : mL) (c : gm_cfg) : Prop := gm_X g RX11 "writesOn" cX11_writesOn 7 none 4 0 0 (qV Q) 0 0 pc lv st (SH, I, L, RR c)
abbrev C_M_writesOn_1_2 (g : gm_G) (I : mI) (L : mL) (c : gm_cfg) (Q : mI → mL → gm_cfg → Prop) : Prop := gm_Met g yX11_writesOn cX11_writesOn 7 none 4 0 0 [.ref 59, .int 1, .int 2] (SH, I, L, RR c) (qV Q)
set_option maxRecDepth 100000 in
theorem e_M_writesOn_1_2 {g : gm_G} {Q : mI → mL → gm_cfg → Prop} {I : mI} {L : mL} {c : gm_cfg} (h : Z_M_writesOn_1_2 g Q 16 [(0, .ref 59), (1, .int 1), (2, .int 2), (3, .int (-1)), (4, .int (I 60 2))] [] I L c) : C_M_writesOn_1_2 g  I L c Q := by
  refine gm_enter (lv := [(0, .ref 59), (1, .int 1), (2, .int 2)]) (by decide) rfl rfl rfl rfl ?_
  show Z_M_writesOn_1_2 g Q 0 [(0, .ref 59), (1, .int 1), (2, .int 2)] [] I L c
  refine gx_iload_n 1 dX11_writesOn_0 rfl rfl ?_
  refine gx_iload_n 2 dX11_writesOn_1 rfl rfl ?_
  refine gx_icmp_ne 6 dX11_writesOn_2 (by decide) (br_f (by decide) ?_)
  refine gx_iconst (v := (-1)) dX11_writesOn_6 (by decide) ?_
  refine gx_istore_n (lv' := [(0, .ref 59), (1, .int 1), (2, .int 2), (3, .int (-1))]) dX11_writesOn_7 rfl rfl rfl ?_
  refine gx_aload_n 0 dX11_writesOn_8 rfl rfl ?_
  refine gx_getr 11 1 (v := 60) dX11_writesOn_9 fl_X11_13 rfl rfl rfl ?_
  refine gx_iconst (v := 2) dX11_writesOn_12 (by decide) ?_
  refine gx_iald (v := (I 60 2)) dX11_writesOn_13 rfl rfl (gm_vin rfl) (k := 2) rfl rfl ?_
  refine gx_istore (lv' := [(0, .ref 59), (1, .int 1), (2, .int 2), (3, .int (-1)), (4, .int (I 60 2))]) dX11_writesOn_14 rfl rfl ?_
  exact h
set_option maxRecDepth 100000 in
theorem r_M_writesOn_1_2_16 {g : gm_G} {Q : mI → mL → gm_cfg → Prop} {x3 x4 : Int32} {I : mI} {L : mL} {c : gm_cfg} (h : (((I 60 3) < x4 → Z_M_writesOn_1_2 g Q 105 [(0, .ref 59), (1, .int 1), (2, .int 2), (3, .int x3), (4, .int 1)] [] I L c) ∧ (¬ (I 60 3) < x4 → (C_M_writesOn_2_2 g (gm_u I 67 1 x4) L c (fun I1 L2 c3 => (C_M_weightFor g 1 2 I1 L2 c3 (fun r7 I4 L5 c6 => ((x3 < r7 → Z_M_writesOn_1_2 g Q 66 [(0, .ref 59), (1, .int 1), (2, .int 2), (3, .int r7), (4, .int x4), (5, .int r7), (6, .int 0)] [] I4 L5 c6) ∧ (¬ x3 < r7 → Z_M_writesOn_1_2 g Q 16 [(0, .ref 59), (1, .int 1), (2, .int 2), (3, .int x3), (4, .int (x4 + 1))] [] I4 L5 c6))))))))) : Z_M_writesOn_1_2 g Q 16 [(0, .ref 59), (1, .int 1), (2, .int 2), (3, .int x3), (4, .int x4)] [] I L c := by
  refine gx_iload 4 dX11_writesOn_16 rfl ?_
  refine gx_aload_n 0 dX11_writesOn_18 rfl rfl ?_
  refine gx_getr 11 1 (v := 60) dX11_writesOn_19 fl_X11_13 rfl rfl rfl ?_
  refine gx_iconst (v := 3) dX11_writesOn_22 (by decide) ?_
  refine gx_iald (v := (I 60 3)) dX11_writesOn_23 rfl rfl (gm_vin rfl) (k := 3) rfl rfl ?_
  refine gx_icmp_gt 102 dX11_writesOn_24 (by decide) ⟨fun z => ?_, fun z => ?_⟩
  · replace h := h.1 z
    refine gx_iload_n 1 dX11_writesOn_102 rfl rfl ?_
    refine gx_istore (lv' := [(0, .ref 59), (1, .int 1), (2, .int 2), (3, .int x3), (4, .int 1)]) dX11_writesOn_103 rfl rfl ?_
    exact h
  · replace h := h.2 z
    refine gx_aload_n 0 dX11_writesOn_27 rfl rfl ?_
    refine gx_getr 11 25 (v := 67) dX11_writesOn_28 fl_X11_40 rfl rfl rfl ?_
    refine gx_iload_n 1 dX11_writesOn_31 rfl rfl ?_
    refine gx_iload 4 dX11_writesOn_32 rfl ?_
    refine gx_iast dX11_writesOn_34 rfl rfl (gm_vin rfl) (k := 1) rfl ?_
    show Z_M_writesOn_1_2 g Q 35 [(0, .ref 59), (1, .int 1), (2, .int 2), (3, .int x3), (4, .int x4)] [] (gm_u I 67 1 x4) L c
    refine gx_aload_n 0 dX11_writesOn_35 rfl rfl ?_
    refine gx_iload_n 1 dX11_writesOn_36 rfl rfl ?_
    refine gx_iconst (v := 1) dX11_writesOn_37 (by decide) ?_
    refine gx_iadd dX11_writesOn_38 ?_
    show Z_M_writesOn_1_2 g Q 39 [(0, .ref 59), (1, .int 1), (2, .int 2), (3, .int x3), (4, .int x4)] [.int 2, .ref 59] (gm_u I 67 1 x4) L c
    refine gx_iload_n 2 dX11_writesOn_39 rfl rfl ?_
    refine gx_callV 11 (As := [.int 2, .int 2]) (st := []) dX11_writesOn_40 ml_X11_302 mm_X11_writesOn rfl rfl rfl rfl rfl rfl ⟨rfl, rfl⟩ h (fun v h2 hq => ?_)
    clear h
    obtain ⟨I1, L2, c3, rfl, rfl, h⟩ := hq
    show Z_M_writesOn_1_2 g Q 43 [(0, .ref 59), (1, .int 1), (2, .int 2), (3, .int x3), (4, .int x4)] [] I1 L2 c3
    refine gx_aload_n 0 dX11_writesOn_43 rfl rfl ?_
    refine gx_iload_n 1 dX11_writesOn_44 rfl rfl ?_
    refine gx_iload_n 2 dX11_writesOn_45 rfl rfl ?_
    refine gx_callV 11 (As := [.int 1, .int 2]) (st := []) dX11_writesOn_46 ml_X11_305 mm_X11_weightFor rfl rfl rfl rfl rfl rfl ⟨rfl, rfl⟩ h (fun v h2 hq => ?_)
    clear h
    obtain ⟨r7, I4, L5, c6, rfl, rfl, h⟩ := hq
    show Z_M_writesOn_1_2 g Q 49 [(0, .ref 59), (1, .int 1), (2, .int 2), (3, .int x3), (4, .int x4)] [.int r7] I4 L5 c6
    refine gx_istore (lv' := [(0, .ref 59), (1, .int 1), (2, .int 2), (3, .int x3), (4, .int x4), (5, .int r7)]) dX11_writesOn_49 rfl rfl ?_
    refine gx_iload 5 dX11_writesOn_51 rfl ?_
    refine gx_iload_n 3 dX11_writesOn_53 rfl rfl ?_
    refine gx_icmp_gt 60 dX11_writesOn_54 (by decide) ⟨fun z => ?_, fun z => ?_⟩
    · replace h := h.1 z
      refine gx_iload 5 dX11_writesOn_60 rfl ?_
      refine gx_istore_n (lv' := [(0, .ref 59), (1, .int 1), (2, .int 2), (3, .int r7), (4, .int x4), (5, .int r7)]) dX11_writesOn_62 rfl rfl rfl ?_
      refine gx_iconst (v := 0) dX11_writesOn_63 (by decide) ?_
      refine gx_istore (lv' := [(0, .ref 59), (1, .int 1), (2, .int 2), (3, .int r7), (4, .int x4), (5, .int r7), (6, .int 0)]) dX11_writesOn_64 rfl rfl ?_
      exact h
    · replace h := h.2 z
      refine gx_goto 96 dX11_writesOn_57 (by decide) ?_
      refine gx_iinc (v := (x4 + 1)) (lv' := [(0, .ref 59), (1, .int 1), (2, .int 2), (3, .int x3), (4, .int (x4 + 1)), (5, .int r7)]) 4 dX11_writesOn_96 rfl rfl rfl rfl ?_
      refine gx_goto 16 dX11_writesOn_99 (by decide) ?_
      refine gx_sub [0, 1, 2, 3, 4] (lv' := [(0, .ref 59), (1, .int 1), (2, .int 2), (3, .int x3), (4, .int (x4 + 1))]) rfl ?_
      exact h
set_option maxRecDepth 100000 in
theorem r_M_writesOn_1_2_66 {g : gm_G} {Q : mI → mL → gm_cfg → Prop} {x4 x5 x3 x6 : Int32} {I : mI} {L : mL} {c : gm_cfg} (h : ((2 ≤ x6 → Z_M_writesOn_1_2 g Q 16 [(0, .ref 59), (1, .int 1), (2, .int 2), (3, .int x3), (4, .int (x4 + 1))] [] I L c) ∧ (¬ 2 ≤ x6 → (vp_in x6 3 ∧ (vp_in (3 + x6) 9 ∧ Z_M_writesOn_1_2 g Q 66 [(0, .ref 59), (1, .int 1), (2, .int 2), (3, .int x3), (4, .int x4), (5, .int x5), (6, .int (x6 + 1))] [] (gm_u I 68 (Int32.toNatClampNeg (3 + x6)) (I 67 (Int32.toNatClampNeg x6))) L c))))) : Z_M_writesOn_1_2 g Q 66 [(0, .ref 59), (1, .int 1), (2, .int 2), (3, .int x3), (4, .int x4), (5, .int x5), (6, .int x6)] [] I L c := by
  refine gx_iload 6 dX11_writesOn_66 rfl ?_
  refine gx_iload_n 2 dX11_writesOn_68 rfl rfl ?_
  refine gx_icmp_ge 96 dX11_writesOn_69 (by decide) ⟨fun z => ?_, fun z => ?_⟩
  · replace h := h.1 z
    refine gx_iinc (v := (x4 + 1)) (lv' := [(0, .ref 59), (1, .int 1), (2, .int 2), (3, .int x3), (4, .int (x4 + 1)), (5, .int x5), (6, .int x6)]) 4 dX11_writesOn_96 rfl rfl rfl rfl ?_
    refine gx_goto 16 dX11_writesOn_99 (by decide) ?_
    refine gx_sub [0, 1, 2, 3, 4] (lv' := [(0, .ref 59), (1, .int 1), (2, .int 2), (3, .int x3), (4, .int (x4 + 1))]) rfl ?_
    exact h
  · replace h := h.2 z
    refine gx_aload_n 0 dX11_writesOn_72 rfl rfl ?_
    refine gx_getr 11 26 (v := 68) dX11_writesOn_73 fl_X11_43 rfl rfl rfl ?_
    refine gx_iconst (v := 3) dX11_writesOn_76 (by decide) ?_
    refine gx_iload_n 1 dX11_writesOn_77 rfl rfl ?_
    refine gx_imul dX11_writesOn_78 ?_
    show Z_M_writesOn_1_2 g Q 79 [(0, .ref 59), (1, .int 1), (2, .int 2), (3, .int x3), (4, .int x4), (5, .int x5), (6, .int x6)] [.int 3, .ref 68] I L c
    refine gx_iload 6 dX11_writesOn_79 rfl ?_
    refine gx_iadd dX11_writesOn_81 ?_
    refine gx_aload_n 0 dX11_writesOn_82 rfl rfl ?_
    refine gx_getr 11 25 (v := 67) dX11_writesOn_83 fl_X11_40 rfl rfl rfl ?_
    refine gx_iload 6 dX11_writesOn_86 rfl ?_
    obtain ⟨hi, h⟩ := h
    refine gx_iald (v := (I 67 (Int32.toNatClampNeg x6))) dX11_writesOn_88 rfl rfl hi (k := (Int32.toNatClampNeg x6)) rfl rfl ?_
    obtain ⟨hi, h⟩ := h
    refine gx_iast dX11_writesOn_89 rfl rfl hi (k := (Int32.toNatClampNeg (3 + x6))) rfl ?_
    show Z_M_writesOn_1_2 g Q 90 [(0, .ref 59), (1, .int 1), (2, .int 2), (3, .int x3), (4, .int x4), (5, .int x5), (6, .int x6)] [] (gm_u I 68 (Int32.toNatClampNeg (3 + x6)) (I 67 (Int32.toNatClampNeg x6))) L c
    refine gx_iinc (v := (x6 + 1)) (lv' := [(0, .ref 59), (1, .int 1), (2, .int 2), (3, .int x3), (4, .int x4), (5, .int x5), (6, .int (x6 + 1))]) 6 dX11_writesOn_90 rfl rfl rfl rfl ?_
    refine gx_goto 66 dX11_writesOn_93 (by decide) ?_
    exact h
set_option maxRecDepth 100000 in
theorem r_M_writesOn_1_2_105 {g : gm_G} {Q : mI → mL → gm_cfg → Prop} {x3 x4 : Int32} {I : mI} {L : mL} {c : gm_cfg} (h : ((2 ≤ x4 → Q I L c) ∧ (¬ 2 ≤ x4 → (vp_in (3 + x4) 9 ∧ (vp_in x4 3 ∧ Z_M_writesOn_1_2 g Q 105 [(0, .ref 59), (1, .int 1), (2, .int 2), (3, .int x3), (4, .int (x4 + 1))] [] (gm_u I 67 (Int32.toNatClampNeg x4) (I 68 (Int32.toNatClampNeg (3 + x4)))) L c))))) : Z_M_writesOn_1_2 g Q 105 [(0, .ref 59), (1, .int 1), (2, .int 2), (3, .int x3), (4, .int x4)] [] I L c := by
  refine gx_iload 4 dX11_writesOn_105 rfl ?_
  refine gx_iload_n 2 dX11_writesOn_107 rfl rfl ?_
  refine gx_icmp_ge 135 dX11_writesOn_108 (by decide) ⟨fun z => ?_, fun z => ?_⟩
  · replace h := h.1 z
    exact gx_vret dX11_writesOn_135 rfl rfl rfl ⟨_, _, _, rfl, rfl, h⟩
  · replace h := h.2 z
    refine gx_aload_n 0 dX11_writesOn_111 rfl rfl ?_
    refine gx_getr 11 25 (v := 67) dX11_writesOn_112 fl_X11_40 rfl rfl rfl ?_
    refine gx_iload 4 dX11_writesOn_115 rfl ?_
    refine gx_aload_n 0 dX11_writesOn_117 rfl rfl ?_
    refine gx_getr 11 26 (v := 68) dX11_writesOn_118 fl_X11_43 rfl rfl rfl ?_
    refine gx_iconst (v := 3) dX11_writesOn_121 (by decide) ?_
    refine gx_iload_n 1 dX11_writesOn_122 rfl rfl ?_
    refine gx_imul dX11_writesOn_123 ?_
    show Z_M_writesOn_1_2 g Q 124 [(0, .ref 59), (1, .int 1), (2, .int 2), (3, .int x3), (4, .int x4)] [.int 3, .ref 68, .int x4, .ref 67] I L c
    refine gx_iload 4 dX11_writesOn_124 rfl ?_
    refine gx_iadd dX11_writesOn_126 ?_
    obtain ⟨hi, h⟩ := h
    refine gx_iald (v := (I 68 (Int32.toNatClampNeg (3 + x4)))) dX11_writesOn_127 rfl rfl hi (k := (Int32.toNatClampNeg (3 + x4))) rfl rfl ?_
    obtain ⟨hi, h⟩ := h
    refine gx_iast dX11_writesOn_128 rfl rfl hi (k := (Int32.toNatClampNeg x4)) rfl ?_
    show Z_M_writesOn_1_2 g Q 129 [(0, .ref 59), (1, .int 1), (2, .int 2), (3, .int x3), (4, .int x4)] [] (gm_u I 67 (Int32.toNatClampNeg x4) (I 68 (Int32.toNatClampNeg (3 + x4)))) L c
    refine gx_iinc (v := (x4 + 1)) (lv' := [(0, .ref 59), (1, .int 1), (2, .int 2), (3, .int x3), (4, .int (x4 + 1))]) 4 dX11_writesOn_129 rfl rfl rfl rfl ?_
    refine gx_goto 105 dX11_writesOn_132 (by decide) ?_
    exact h
abbrev Z_M_writesOn_0_2 (g : gm_G) (Q : mI → mL → gm_cfg → Prop) (pc : Nat) (lv : List (Nat × Value)) (st : List Value) (I : mI) (L : mL) (c : gm_cfg) : Prop := gm_X g RX11 "writesOn" cX11_writesOn 7 none 5 0 0 (qV Q) 0 0 pc lv st (SH, I, L, RR c)
abbrev C_M_writesOn_0_2 (g : gm_G) (I : mI) (L : mL) (c : gm_cfg) (Q : mI → mL → gm_cfg → Prop) : Prop := gm_Met g yX11_writesOn cX11_writesOn 7 none 5 0 0 [.ref 59, .int 0, .int 2] (SH, I, L, RR c) (qV Q)
set_option maxRecDepth 100000 in
theorem e_M_writesOn_0_2 {g : gm_G} {Q : mI → mL → gm_cfg → Prop} {I : mI} {L : mL} {c : gm_cfg} (h : Z_M_writesOn_0_2 g Q 16 [(0, .ref 59), (1, .int 0), (2, .int 2), (3, .int (-1)), (4, .int (I 60 2))] [] I L c) : C_M_writesOn_0_2 g  I L c Q := by
  refine gm_enter (lv := [(0, .ref 59), (1, .int 0), (2, .int 2)]) (by decide) rfl rfl rfl rfl ?_
  show Z_M_writesOn_0_2 g Q 0 [(0, .ref 59), (1, .int 0), (2, .int 2)] [] I L c
  refine gx_iload_n 1 dX11_writesOn_0 rfl rfl ?_
  refine gx_iload_n 2 dX11_writesOn_1 rfl rfl ?_
  refine gx_icmp_ne 6 dX11_writesOn_2 (by decide) (br_f (by decide) ?_)
  refine gx_iconst (v := (-1)) dX11_writesOn_6 (by decide) ?_
  refine gx_istore_n (lv' := [(0, .ref 59), (1, .int 0), (2, .int 2), (3, .int (-1))]) dX11_writesOn_7 rfl rfl rfl ?_
  refine gx_aload_n 0 dX11_writesOn_8 rfl rfl ?_
  refine gx_getr 11 1 (v := 60) dX11_writesOn_9 fl_X11_13 rfl rfl rfl ?_
  refine gx_iconst (v := 2) dX11_writesOn_12 (by decide) ?_
  refine gx_iald (v := (I 60 2)) dX11_writesOn_13 rfl rfl (gm_vin rfl) (k := 2) rfl rfl ?_
  refine gx_istore (lv' := [(0, .ref 59), (1, .int 0), (2, .int 2), (3, .int (-1)), (4, .int (I 60 2))]) dX11_writesOn_14 rfl rfl ?_
  exact h
set_option maxRecDepth 100000 in
theorem r_M_writesOn_0_2_16 {g : gm_G} {Q : mI → mL → gm_cfg → Prop} {x3 x4 : Int32} {I : mI} {L : mL} {c : gm_cfg} (h : (((I 60 3) < x4 → Z_M_writesOn_0_2 g Q 105 [(0, .ref 59), (1, .int 0), (2, .int 2), (3, .int x3), (4, .int 0)] [] I L c) ∧ (¬ (I 60 3) < x4 → (C_M_writesOn_1_2 g (gm_u I 67 0 x4) L c (fun I1 L2 c3 => (C_M_weightFor g 0 2 I1 L2 c3 (fun r7 I4 L5 c6 => ((x3 < r7 → Z_M_writesOn_0_2 g Q 66 [(0, .ref 59), (1, .int 0), (2, .int 2), (3, .int r7), (4, .int x4), (5, .int r7), (6, .int 0)] [] I4 L5 c6) ∧ (¬ x3 < r7 → Z_M_writesOn_0_2 g Q 16 [(0, .ref 59), (1, .int 0), (2, .int 2), (3, .int x3), (4, .int (x4 + 1))] [] I4 L5 c6))))))))) : Z_M_writesOn_0_2 g Q 16 [(0, .ref 59), (1, .int 0), (2, .int 2), (3, .int x3), (4, .int x4)] [] I L c := by
  refine gx_iload 4 dX11_writesOn_16 rfl ?_
  refine gx_aload_n 0 dX11_writesOn_18 rfl rfl ?_
  refine gx_getr 11 1 (v := 60) dX11_writesOn_19 fl_X11_13 rfl rfl rfl ?_
  refine gx_iconst (v := 3) dX11_writesOn_22 (by decide) ?_
  refine gx_iald (v := (I 60 3)) dX11_writesOn_23 rfl rfl (gm_vin rfl) (k := 3) rfl rfl ?_
  refine gx_icmp_gt 102 dX11_writesOn_24 (by decide) ⟨fun z => ?_, fun z => ?_⟩
  · replace h := h.1 z
    refine gx_iload_n 1 dX11_writesOn_102 rfl rfl ?_
    refine gx_istore (lv' := [(0, .ref 59), (1, .int 0), (2, .int 2), (3, .int x3), (4, .int 0)]) dX11_writesOn_103 rfl rfl ?_
    exact h
  · replace h := h.2 z
    refine gx_aload_n 0 dX11_writesOn_27 rfl rfl ?_
    refine gx_getr 11 25 (v := 67) dX11_writesOn_28 fl_X11_40 rfl rfl rfl ?_
    refine gx_iload_n 1 dX11_writesOn_31 rfl rfl ?_
    refine gx_iload 4 dX11_writesOn_32 rfl ?_
    refine gx_iast dX11_writesOn_34 rfl rfl (gm_vin rfl) (k := 0) rfl ?_
    show Z_M_writesOn_0_2 g Q 35 [(0, .ref 59), (1, .int 0), (2, .int 2), (3, .int x3), (4, .int x4)] [] (gm_u I 67 0 x4) L c
    refine gx_aload_n 0 dX11_writesOn_35 rfl rfl ?_
    refine gx_iload_n 1 dX11_writesOn_36 rfl rfl ?_
    refine gx_iconst (v := 1) dX11_writesOn_37 (by decide) ?_
    refine gx_iadd dX11_writesOn_38 ?_
    show Z_M_writesOn_0_2 g Q 39 [(0, .ref 59), (1, .int 0), (2, .int 2), (3, .int x3), (4, .int x4)] [.int 1, .ref 59] (gm_u I 67 0 x4) L c
    refine gx_iload_n 2 dX11_writesOn_39 rfl rfl ?_
    refine gx_callV 11 (As := [.int 1, .int 2]) (st := []) dX11_writesOn_40 ml_X11_302 mm_X11_writesOn rfl rfl rfl rfl rfl rfl ⟨rfl, rfl⟩ h (fun v h2 hq => ?_)
    clear h
    obtain ⟨I1, L2, c3, rfl, rfl, h⟩ := hq
    show Z_M_writesOn_0_2 g Q 43 [(0, .ref 59), (1, .int 0), (2, .int 2), (3, .int x3), (4, .int x4)] [] I1 L2 c3
    refine gx_aload_n 0 dX11_writesOn_43 rfl rfl ?_
    refine gx_iload_n 1 dX11_writesOn_44 rfl rfl ?_
    refine gx_iload_n 2 dX11_writesOn_45 rfl rfl ?_
    refine gx_callV 11 (As := [.int 0, .int 2]) (st := []) dX11_writesOn_46 ml_X11_305 mm_X11_weightFor rfl rfl rfl rfl rfl rfl ⟨rfl, rfl⟩ h (fun v h2 hq => ?_)
    clear h
    obtain ⟨r7, I4, L5, c6, rfl, rfl, h⟩ := hq
    show Z_M_writesOn_0_2 g Q 49 [(0, .ref 59), (1, .int 0), (2, .int 2), (3, .int x3), (4, .int x4)] [.int r7] I4 L5 c6
    refine gx_istore (lv' := [(0, .ref 59), (1, .int 0), (2, .int 2), (3, .int x3), (4, .int x4), (5, .int r7)]) dX11_writesOn_49 rfl rfl ?_
    refine gx_iload 5 dX11_writesOn_51 rfl ?_
    refine gx_iload_n 3 dX11_writesOn_53 rfl rfl ?_
    refine gx_icmp_gt 60 dX11_writesOn_54 (by decide) ⟨fun z => ?_, fun z => ?_⟩
    · replace h := h.1 z
      refine gx_iload 5 dX11_writesOn_60 rfl ?_
      refine gx_istore_n (lv' := [(0, .ref 59), (1, .int 0), (2, .int 2), (3, .int r7), (4, .int x4), (5, .int r7)]) dX11_writesOn_62 rfl rfl rfl ?_
      refine gx_iconst (v := 0) dX11_writesOn_63 (by decide) ?_
      refine gx_istore (lv' := [(0, .ref 59), (1, .int 0), (2, .int 2), (3, .int r7), (4, .int x4), (5, .int r7), (6, .int 0)]) dX11_writesOn_64 rfl rfl ?_
      exact h
    · replace h := h.2 z
      refine gx_goto 96 dX11_writesOn_57 (by decide) ?_
      refine gx_iinc (v := (x4 + 1)) (lv' := [(0, .ref 59), (1, .int 0), (2, .int 2), (3, .int x3), (4, .int (x4 + 1)), (5, .int r7)]) 4 dX11_writesOn_96 rfl rfl rfl rfl ?_
      refine gx_goto 16 dX11_writesOn_99 (by decide) ?_
      refine gx_sub [0, 1, 2, 3, 4] (lv' := [(0, .ref 59), (1, .int 0), (2, .int 2), (3, .int x3), (4, .int (x4 + 1))]) rfl ?_
      exact h
set_option maxRecDepth 100000 in
theorem r_M_writesOn_0_2_66 {g : gm_G} {Q : mI → mL → gm_cfg → Prop} {x4 x5 x3 x6 : Int32} {I : mI} {L : mL} {c : gm_cfg} (h : ((2 ≤ x6 → Z_M_writesOn_0_2 g Q 16 [(0, .ref 59), (1, .int 0), (2, .int 2), (3, .int x3), (4, .int (x4 + 1))] [] I L c) ∧ (¬ 2 ≤ x6 → (vp_in x6 3 ∧ (vp_in (0 + x6) 9 ∧ Z_M_writesOn_0_2 g Q 66 [(0, .ref 59), (1, .int 0), (2, .int 2), (3, .int x3), (4, .int x4), (5, .int x5), (6, .int (x6 + 1))] [] (gm_u I 68 (Int32.toNatClampNeg (0 + x6)) (I 67 (Int32.toNatClampNeg x6))) L c))))) : Z_M_writesOn_0_2 g Q 66 [(0, .ref 59), (1, .int 0), (2, .int 2), (3, .int x3), (4, .int x4), (5, .int x5), (6, .int x6)] [] I L c := by
  refine gx_iload 6 dX11_writesOn_66 rfl ?_
  refine gx_iload_n 2 dX11_writesOn_68 rfl rfl ?_
  refine gx_icmp_ge 96 dX11_writesOn_69 (by decide) ⟨fun z => ?_, fun z => ?_⟩
  · replace h := h.1 z
    refine gx_iinc (v := (x4 + 1)) (lv' := [(0, .ref 59), (1, .int 0), (2, .int 2), (3, .int x3), (4, .int (x4 + 1)), (5, .int x5), (6, .int x6)]) 4 dX11_writesOn_96 rfl rfl rfl rfl ?_
    refine gx_goto 16 dX11_writesOn_99 (by decide) ?_
    refine gx_sub [0, 1, 2, 3, 4] (lv' := [(0, .ref 59), (1, .int 0), (2, .int 2), (3, .int x3), (4, .int (x4 + 1))]) rfl ?_
    exact h
  · replace h := h.2 z
    refine gx_aload_n 0 dX11_writesOn_72 rfl rfl ?_
    refine gx_getr 11 26 (v := 68) dX11_writesOn_73 fl_X11_43 rfl rfl rfl ?_
    refine gx_iconst (v := 3) dX11_writesOn_76 (by decide) ?_
    refine gx_iload_n 1 dX11_writesOn_77 rfl rfl ?_
    refine gx_imul dX11_writesOn_78 ?_
    show Z_M_writesOn_0_2 g Q 79 [(0, .ref 59), (1, .int 0), (2, .int 2), (3, .int x3), (4, .int x4), (5, .int x5), (6, .int x6)] [.int 0, .ref 68] I L c
    refine gx_iload 6 dX11_writesOn_79 rfl ?_
    refine gx_iadd dX11_writesOn_81 ?_
    refine gx_aload_n 0 dX11_writesOn_82 rfl rfl ?_
    refine gx_getr 11 25 (v := 67) dX11_writesOn_83 fl_X11_40 rfl rfl rfl ?_
    refine gx_iload 6 dX11_writesOn_86 rfl ?_
    obtain ⟨hi, h⟩ := h
    refine gx_iald (v := (I 67 (Int32.toNatClampNeg x6))) dX11_writesOn_88 rfl rfl hi (k := (Int32.toNatClampNeg x6)) rfl rfl ?_
    obtain ⟨hi, h⟩ := h
    refine gx_iast dX11_writesOn_89 rfl rfl hi (k := (Int32.toNatClampNeg (0 + x6))) rfl ?_
    show Z_M_writesOn_0_2 g Q 90 [(0, .ref 59), (1, .int 0), (2, .int 2), (3, .int x3), (4, .int x4), (5, .int x5), (6, .int x6)] [] (gm_u I 68 (Int32.toNatClampNeg (0 + x6)) (I 67 (Int32.toNatClampNeg x6))) L c
    refine gx_iinc (v := (x6 + 1)) (lv' := [(0, .ref 59), (1, .int 0), (2, .int 2), (3, .int x3), (4, .int x4), (5, .int x5), (6, .int (x6 + 1))]) 6 dX11_writesOn_90 rfl rfl rfl rfl ?_
    refine gx_goto 66 dX11_writesOn_93 (by decide) ?_
    exact h
set_option maxRecDepth 100000 in
theorem r_M_writesOn_0_2_105 {g : gm_G} {Q : mI → mL → gm_cfg → Prop} {x3 x4 : Int32} {I : mI} {L : mL} {c : gm_cfg} (h : ((2 ≤ x4 → Q I L c) ∧ (¬ 2 ≤ x4 → (vp_in (0 + x4) 9 ∧ (vp_in x4 3 ∧ Z_M_writesOn_0_2 g Q 105 [(0, .ref 59), (1, .int 0), (2, .int 2), (3, .int x3), (4, .int (x4 + 1))] [] (gm_u I 67 (Int32.toNatClampNeg x4) (I 68 (Int32.toNatClampNeg (0 + x4)))) L c))))) : Z_M_writesOn_0_2 g Q 105 [(0, .ref 59), (1, .int 0), (2, .int 2), (3, .int x3), (4, .int x4)] [] I L c := by
  refine gx_iload 4 dX11_writesOn_105 rfl ?_
  refine gx_iload_n 2 dX11_writesOn_107 rfl rfl ?_
  refine gx_icmp_ge 135 dX11_writesOn_108 (by decide) ⟨fun z => ?_, fun z => ?_⟩
  · replace h := h.1 z
    exact gx_vret dX11_writesOn_135 rfl rfl rfl ⟨_, _, _, rfl, rfl, h⟩
  · replace h := h.2 z
    refine gx_aload_n 0 dX11_writesOn_111 rfl rfl ?_
    refine gx_getr 11 25 (v := 67) dX11_writesOn_112 fl_X11_40 rfl rfl rfl ?_
    refine gx_iload 4 dX11_writesOn_115 rfl ?_
    refine gx_aload_n 0 dX11_writesOn_117 rfl rfl ?_
    refine gx_getr 11 26 (v := 68) dX11_writesOn_118 fl_X11_43 rfl rfl rfl ?_
    refine gx_iconst (v := 3) dX11_writesOn_121 (by decide) ?_
    refine gx_iload_n 1 dX11_writesOn_122 rfl rfl ?_
    refine gx_imul dX11_writesOn_123 ?_
    show Z_M_writesOn_0_2 g Q 124 [(0, .ref 59), (1, .int 0), (2, .int 2), (3, .int x3), (4, .int x4)] [.int 0, .ref 68, .int x4, .ref 67] I L c
    refine gx_iload 4 dX11_writesOn_124 rfl ?_
    refine gx_iadd dX11_writesOn_126 ?_
    obtain ⟨hi, h⟩ := h
    refine gx_iald (v := (I 68 (Int32.toNatClampNeg (0 + x4)))) dX11_writesOn_127 rfl rfl hi (k := (Int32.toNatClampNeg (0 + x4))) rfl rfl ?_
    obtain ⟨hi, h⟩ := h
    refine gx_iast dX11_writesOn_128 rfl rfl hi (k := (Int32.toNatClampNeg x4)) rfl ?_
    show Z_M_writesOn_0_2 g Q 129 [(0, .ref 59), (1, .int 0), (2, .int 2), (3, .int x3), (4, .int x4)] [] (gm_u I 67 (Int32.toNatClampNeg x4) (I 68 (Int32.toNatClampNeg (0 + x4)))) L c
    refine gx_iinc (v := (x4 + 1)) (lv' := [(0, .ref 59), (1, .int 0), (2, .int 2), (3, .int x3), (4, .int (x4 + 1))]) 4 dX11_writesOn_129 rfl rfl rfl rfl ?_
    refine gx_goto 105 dX11_writesOn_132 (by decide) ?_
    exact h
abbrev Z_M_game_2 (g : gm_G) (Q : Int32 → mI → mL → gm_cfg → Prop) (pc : Nat) (lv : List (Nat × Value)) (st : List Value) (I : mI) (L : mL) (c : gm_cfg) : Prop := gm_X g RX11 "game" cX11_game 3 (some .int) 6 0 0 (qI Q) 0 0 pc lv st (SH, I, L, RR c)
abbrev C_M_game_2 (g : gm_G) (x2 : Int32) (I : mI) (L : mL) (c : gm_cfg) (Q : Int32 → mI → mL → gm_cfg → Prop) : Prop := gm_Met g yX11_game cX11_game 3 (some .int) 6 0 0 [.ref 59, .int 2, .int x2] (SH, I, L, RR c) (qI Q)
set_option maxRecDepth 100000 in
theorem e_M_game_2 {g : gm_G} {Q : Int32 → mI → mL → gm_cfg → Prop} {x2 : Int32} {I : mI} {L : mL} {c : gm_cfg} (h : (C_M_within g 2 1 3 (gm_u I 59 0 0) L c (fun b4 I1 L2 c3 => ((b4 = false → Q (-3) I1 L2 c3) ∧ (b4 = true → (C_M_within g (Int32.toInt64 x2) 0 1 I1 L2 c3 (fun b8 I5 L6 c7 => ((b8 = false → (C_M_within g (Int32.toInt64 x2) 10 11 I5 L6 c7 (fun b12 I9 L10 c11 => ((b12 = false → Q (-2) I9 L10 c11) ∧ (b12 = true → (C_M_gridMany g I9 L10 c11 (fun r16 I13 L14 c15 => ((r16 ≤ 24 → (C_M_writesOn_0_2 g I13 L14 c15 (fun I17 L18 c19 => ((10 ≤ x2 → (C_M_weightFor g (x2 - 10) 2 I17 L18 c19 (fun r23 I20 L21 c22 => Q r23 I20 L21 c22))) ∧ (¬ 10 ≤ x2 → (vp_in x2 3 ∧ Q (I17 67 (Int32.toNatClampNeg x2)) I17 L18 c19)))))) ∧ (¬ r16 ≤ 24 → Q (-4) I13 L14 c15))))))))) ∧ (b8 = true → (C_M_gridMany g I5 L6 c7 (fun r27 I24 L25 c26 => ((r27 ≤ 24 → (C_M_writesOn_0_2 g I24 L25 c26 (fun I28 L29 c30 => ((10 ≤ x2 → (C_M_weightFor g (x2 - 10) 2 I28 L29 c30 (fun r34 I31 L32 c33 => Q r34 I31 L32 c33))) ∧ (¬ 10 ≤ x2 → (vp_in x2 3 ∧ Q (I28 67 (Int32.toNatClampNeg x2)) I28 L29 c30)))))) ∧ (¬ r27 ≤ 24 → Q (-4) I24 L25 c26))))))))))))) : C_M_game_2 g x2 I L c Q := by
  refine gm_enter (lv := [(0, .ref 59), (1, .int 2), (2, .int x2)]) (by decide) rfl rfl rfl rfl ?_
  show Z_M_game_2 g Q 0 [(0, .ref 59), (1, .int 2), (2, .int x2)] [] I L c
  refine gx_aload_n 0 dX11_game_0 rfl rfl ?_
  refine gx_iconst (v := 0) dX11_game_1 (by decide) ?_
  refine gx_puti 11 0 dX11_game_2 fl_X11_1 rfl rfl rfl ⟨rfl, rfl⟩ ?_
  show Z_M_game_2 g Q 5 [(0, .ref 59), (1, .int 2), (2, .int x2)] [] (gm_u I 59 0 0) L c
  refine gx_iload_n 1 dX11_game_5 rfl rfl ?_
  refine gx_i2l dX11_game_6 ?_
  show Z_M_game_2 g Q 7 [(0, .ref 59), (1, .int 2), (2, .int x2)] [.long 2] (gm_u I 59 0 0) L c
  refine gx_lconst (v := 1) dX11_game_7 (by decide) ?_
  refine gx_ldc2 dX11_game_8 kl_X11_194 ?_
  refine gx_callS (As := [.long 2, .long 1, .long 3]) (st := []) dX11_game_11 ml_X11_125 mm_X11_within rfl rfl rfl rfl ⟨rfl, rfl⟩ h (fun v h2 hq => ?_)
  clear h
  obtain ⟨b4, I1, L2, c3, rfl, rfl, h⟩ := hq
  show Z_M_game_2 g Q 14 [(0, .ref 59), (1, .int 2), (2, .int x2)] [.int (gm_b b4)] I1 L2 c3
  refine gx_if_ne 20 dX11_game_14 (by decide) ⟨fun z => ?_, fun z => ?_⟩
  · replace h := h.1 (gm_b0.mp z)
    refine gx_bipush (v := (-3)) dX11_game_17 (by decide) ?_
    exact gx_iret dX11_game_19 rfl rfl rfl ⟨_, _, _, _, rfl, rfl, h⟩
  · replace h := h.2 (gm_bn0 z)
    refine gx_iload_n 2 dX11_game_20 rfl rfl ?_
    refine gx_i2l dX11_game_21 ?_
    refine gx_lconst (v := 0) dX11_game_22 (by decide) ?_
    refine gx_iload_n 1 dX11_game_23 rfl rfl ?_
    refine gx_iconst (v := 1) dX11_game_24 (by decide) ?_
    refine gx_isub dX11_game_25 ?_
    show Z_M_game_2 g Q 26 [(0, .ref 59), (1, .int 2), (2, .int x2)] [.int 1, .long 0, .long (Int32.toInt64 x2)] I1 L2 c3
    refine gx_i2l dX11_game_26 ?_
    show Z_M_game_2 g Q 27 [(0, .ref 59), (1, .int 2), (2, .int x2)] [.long 1, .long 0, .long (Int32.toInt64 x2)] I1 L2 c3
    refine gx_callS (As := [.long (Int32.toInt64 x2), .long 0, .long 1]) (st := []) dX11_game_27 ml_X11_125 mm_X11_within rfl rfl rfl rfl ⟨rfl, rfl⟩ h (fun v h2 hq => ?_)
    clear h
    obtain ⟨b8, I5, L6, c7, rfl, rfl, h⟩ := hq
    show Z_M_game_2 g Q 30 [(0, .ref 59), (1, .int 2), (2, .int x2)] [.int (gm_b b8)] I5 L6 c7
    refine gx_if_ne 52 dX11_game_30 (by decide) ⟨fun z => ?_, fun z => ?_⟩
    · replace h := h.1 (gm_b0.mp z)
      refine gx_iload_n 2 dX11_game_33 rfl rfl ?_
      refine gx_i2l dX11_game_34 ?_
      refine gx_ldc2 dX11_game_35 kl_X11_308 ?_
      refine gx_bipush (v := 9) dX11_game_38 (by decide) ?_
      refine gx_iload_n 1 dX11_game_40 rfl rfl ?_
      refine gx_iadd dX11_game_41 ?_
      show Z_M_game_2 g Q 42 [(0, .ref 59), (1, .int 2), (2, .int x2)] [.int 11, .long 10, .long (Int32.toInt64 x2)] I5 L6 c7
      refine gx_i2l dX11_game_42 ?_
      show Z_M_game_2 g Q 43 [(0, .ref 59), (1, .int 2), (2, .int x2)] [.long 11, .long 10, .long (Int32.toInt64 x2)] I5 L6 c7
      refine gx_callS (As := [.long (Int32.toInt64 x2), .long 10, .long 11]) (st := []) dX11_game_43 ml_X11_125 mm_X11_within rfl rfl rfl rfl ⟨rfl, rfl⟩ h (fun v h2 hq => ?_)
      clear h
      obtain ⟨b12, I9, L10, c11, rfl, rfl, h⟩ := hq
      show Z_M_game_2 g Q 46 [(0, .ref 59), (1, .int 2), (2, .int x2)] [.int (gm_b b12)] I9 L10 c11
      refine gx_if_ne 52 dX11_game_46 (by decide) ⟨fun z => ?_, fun z => ?_⟩
      · replace h := h.1 (gm_b0.mp z)
        refine gx_bipush (v := (-2)) dX11_game_49 (by decide) ?_
        exact gx_iret dX11_game_51 rfl rfl rfl ⟨_, _, _, _, rfl, rfl, h⟩
      · replace h := h.2 (gm_bn0 z)
        refine gx_aload_n 0 dX11_game_52 rfl rfl ?_
        refine gx_callV 11 (As := []) (st := []) dX11_game_53 ml_X11_240 mm_X11_gridMany rfl rfl rfl rfl rfl rfl ⟨rfl, rfl⟩ h (fun v h2 hq => ?_)
        clear h
        obtain ⟨r16, I13, L14, c15, rfl, rfl, h⟩ := hq
        show Z_M_game_2 g Q 56 [(0, .ref 59), (1, .int 2), (2, .int x2)] [.int r16] I13 L14 c15
        refine gx_bipush (v := 24) dX11_game_56 (by decide) ?_
        refine gx_icmp_le 64 dX11_game_58 (by decide) ⟨fun z => ?_, fun z => ?_⟩
        · replace h := h.1 z
          refine gx_aload_n 0 dX11_game_64 rfl rfl ?_
          refine gx_iconst (v := 0) dX11_game_65 (by decide) ?_
          refine gx_iload_n 1 dX11_game_66 rfl rfl ?_
          refine gx_callV 11 (As := [.int 0, .int 2]) (st := []) dX11_game_67 ml_X11_302 mm_X11_writesOn rfl rfl rfl rfl rfl rfl ⟨rfl, rfl⟩ h (fun v h2 hq => ?_)
          clear h
          obtain ⟨I17, L18, c19, rfl, rfl, h⟩ := hq
          show Z_M_game_2 g Q 70 [(0, .ref 59), (1, .int 2), (2, .int x2)] [] I17 L18 c19
          refine gx_iload_n 2 dX11_game_70 rfl rfl ?_
          refine gx_bipush (v := 10) dX11_game_71 (by decide) ?_
          refine gx_icmp_ge 85 dX11_game_73 (by decide) ⟨fun z => ?_, fun z => ?_⟩
          · replace h := h.1 z
            refine gx_aload_n 0 dX11_game_85 rfl rfl ?_
            refine gx_iload_n 2 dX11_game_86 rfl rfl ?_
            refine gx_bipush (v := 10) dX11_game_87 (by decide) ?_
            refine gx_isub dX11_game_89 ?_
            refine gx_iload_n 1 dX11_game_90 rfl rfl ?_
            refine gx_callV 11 (As := [.int (x2 - 10), .int 2]) (st := []) dX11_game_91 ml_X11_305 mm_X11_weightFor rfl rfl rfl rfl rfl rfl ⟨rfl, rfl⟩ h (fun v h2 hq => ?_)
            clear h
            obtain ⟨r23, I20, L21, c22, rfl, rfl, h⟩ := hq
            show Z_M_game_2 g Q 94 [(0, .ref 59), (1, .int 2), (2, .int x2)] [.int r23] I20 L21 c22
            exact gx_iret dX11_game_94 rfl rfl rfl ⟨_, _, _, _, rfl, rfl, h⟩
          · replace h := h.2 z
            refine gx_aload_n 0 dX11_game_76 rfl rfl ?_
            refine gx_getr 11 25 (v := 67) dX11_game_77 fl_X11_40 rfl rfl rfl ?_
            refine gx_iload_n 2 dX11_game_80 rfl rfl ?_
            obtain ⟨hi, h⟩ := h
            refine gx_iald (v := (I17 67 (Int32.toNatClampNeg x2))) dX11_game_81 rfl rfl hi (k := (Int32.toNatClampNeg x2)) rfl rfl ?_
            refine gx_goto 94 dX11_game_82 (by decide) ?_
            exact gx_iret dX11_game_94 rfl rfl rfl ⟨_, _, _, _, rfl, rfl, h⟩
        · replace h := h.2 z
          refine gx_bipush (v := (-4)) dX11_game_61 (by decide) ?_
          exact gx_iret dX11_game_63 rfl rfl rfl ⟨_, _, _, _, rfl, rfl, h⟩
    · replace h := h.2 (gm_bn0 z)
      refine gx_aload_n 0 dX11_game_52 rfl rfl ?_
      refine gx_callV 11 (As := []) (st := []) dX11_game_53 ml_X11_240 mm_X11_gridMany rfl rfl rfl rfl rfl rfl ⟨rfl, rfl⟩ h (fun v h2 hq => ?_)
      clear h
      obtain ⟨r27, I24, L25, c26, rfl, rfl, h⟩ := hq
      show Z_M_game_2 g Q 56 [(0, .ref 59), (1, .int 2), (2, .int x2)] [.int r27] I24 L25 c26
      refine gx_bipush (v := 24) dX11_game_56 (by decide) ?_
      refine gx_icmp_le 64 dX11_game_58 (by decide) ⟨fun z => ?_, fun z => ?_⟩
      · replace h := h.1 z
        refine gx_aload_n 0 dX11_game_64 rfl rfl ?_
        refine gx_iconst (v := 0) dX11_game_65 (by decide) ?_
        refine gx_iload_n 1 dX11_game_66 rfl rfl ?_
        refine gx_callV 11 (As := [.int 0, .int 2]) (st := []) dX11_game_67 ml_X11_302 mm_X11_writesOn rfl rfl rfl rfl rfl rfl ⟨rfl, rfl⟩ h (fun v h2 hq => ?_)
        clear h
        obtain ⟨I28, L29, c30, rfl, rfl, h⟩ := hq
        show Z_M_game_2 g Q 70 [(0, .ref 59), (1, .int 2), (2, .int x2)] [] I28 L29 c30
        refine gx_iload_n 2 dX11_game_70 rfl rfl ?_
        refine gx_bipush (v := 10) dX11_game_71 (by decide) ?_
        refine gx_icmp_ge 85 dX11_game_73 (by decide) ⟨fun z => ?_, fun z => ?_⟩
        · replace h := h.1 z
          refine gx_aload_n 0 dX11_game_85 rfl rfl ?_
          refine gx_iload_n 2 dX11_game_86 rfl rfl ?_
          refine gx_bipush (v := 10) dX11_game_87 (by decide) ?_
          refine gx_isub dX11_game_89 ?_
          refine gx_iload_n 1 dX11_game_90 rfl rfl ?_
          refine gx_callV 11 (As := [.int (x2 - 10), .int 2]) (st := []) dX11_game_91 ml_X11_305 mm_X11_weightFor rfl rfl rfl rfl rfl rfl ⟨rfl, rfl⟩ h (fun v h2 hq => ?_)
          clear h
          obtain ⟨r34, I31, L32, c33, rfl, rfl, h⟩ := hq
          show Z_M_game_2 g Q 94 [(0, .ref 59), (1, .int 2), (2, .int x2)] [.int r34] I31 L32 c33
          exact gx_iret dX11_game_94 rfl rfl rfl ⟨_, _, _, _, rfl, rfl, h⟩
        · replace h := h.2 z
          refine gx_aload_n 0 dX11_game_76 rfl rfl ?_
          refine gx_getr 11 25 (v := 67) dX11_game_77 fl_X11_40 rfl rfl rfl ?_
          refine gx_iload_n 2 dX11_game_80 rfl rfl ?_
          obtain ⟨hi, h⟩ := h
          refine gx_iald (v := (I28 67 (Int32.toNatClampNeg x2))) dX11_game_81 rfl rfl hi (k := (Int32.toNatClampNeg x2)) rfl rfl ?_
          refine gx_goto 94 dX11_game_82 (by decide) ?_
          exact gx_iret dX11_game_94 rfl rfl rfl ⟨_, _, _, _, rfl, rfl, h⟩
      · replace h := h.2 z
        refine gx_bipush (v := (-4)) dX11_game_61 (by decide) ?_
        exact gx_iret dX11_game_63 rfl rfl rfl ⟨_, _, _, _, rfl, rfl, h⟩
abbrev Z_M_writesOn_3_3 (g : gm_G) (Q : mI → mL → gm_cfg → Prop) (pc : Nat) (lv : List (Nat × Value)) (st : List Value) (I : mI) (L : mL) (c : gm_cfg) : Prop := gm_X g RX11 "writesOn" cX11_writesOn 7 none 1 0 0 (qV Q) 0 0 pc lv st (SH, I, L, RR c)
abbrev C_M_writesOn_3_3 (g : gm_G) (I : mI) (L : mL) (c : gm_cfg) (Q : mI → mL → gm_cfg → Prop) : Prop := gm_Met g yX11_writesOn cX11_writesOn 7 none 1 0 0 [.ref 59, .int 3, .int 3] (SH, I, L, RR c) (qV Q)
set_option maxRecDepth 100000 in
theorem e_M_writesOn_3_3 {g : gm_G} {Q : mI → mL → gm_cfg → Prop} {I : mI} {L : mL} {c : gm_cfg} (h : Q I L c) : C_M_writesOn_3_3 g  I L c Q := by
  refine gm_enter (lv := [(0, .ref 59), (1, .int 3), (2, .int 3)]) (by decide) rfl rfl rfl rfl ?_
  show Z_M_writesOn_3_3 g Q 0 [(0, .ref 59), (1, .int 3), (2, .int 3)] [] I L c
  refine gx_iload_n 1 dX11_writesOn_0 rfl rfl ?_
  refine gx_iload_n 2 dX11_writesOn_1 rfl rfl ?_
  refine gx_icmp_ne 6 dX11_writesOn_2 (by decide) (br_t (by decide) ?_)
  exact gx_vret dX11_writesOn_5 rfl rfl rfl ⟨_, _, _, rfl, rfl, h⟩
abbrev Z_M_writesOn_2_3 (g : gm_G) (Q : mI → mL → gm_cfg → Prop) (pc : Nat) (lv : List (Nat × Value)) (st : List Value) (I : mI) (L : mL) (c : gm_cfg) : Prop := gm_X g RX11 "writesOn" cX11_writesOn 7 none 4 0 0 (qV Q) 0 0 pc lv st (SH, I, L, RR c)
abbrev C_M_writesOn_2_3 (g : gm_G) (I : mI) (L : mL) (c : gm_cfg) (Q : mI → mL → gm_cfg → Prop) : Prop := gm_Met g yX11_writesOn cX11_writesOn 7 none 4 0 0 [.ref 59, .int 2, .int 3] (SH, I, L, RR c) (qV Q)
set_option maxRecDepth 100000 in
theorem e_M_writesOn_2_3 {g : gm_G} {Q : mI → mL → gm_cfg → Prop} {I : mI} {L : mL} {c : gm_cfg} (h : Z_M_writesOn_2_3 g Q 16 [(0, .ref 59), (1, .int 2), (2, .int 3), (3, .int (-1)), (4, .int (I 60 2))] [] I L c) : C_M_writesOn_2_3 g  I L c Q := by
  refine gm_enter (lv := [(0, .ref 59), (1, .int 2), (2, .int 3)]) (by decide) rfl rfl rfl rfl ?_
  show Z_M_writesOn_2_3 g Q 0 [(0, .ref 59), (1, .int 2), (2, .int 3)] [] I L c
  refine gx_iload_n 1 dX11_writesOn_0 rfl rfl ?_
  refine gx_iload_n 2 dX11_writesOn_1 rfl rfl ?_
  refine gx_icmp_ne 6 dX11_writesOn_2 (by decide) (br_f (by decide) ?_)
  refine gx_iconst (v := (-1)) dX11_writesOn_6 (by decide) ?_
  refine gx_istore_n (lv' := [(0, .ref 59), (1, .int 2), (2, .int 3), (3, .int (-1))]) dX11_writesOn_7 rfl rfl rfl ?_
  refine gx_aload_n 0 dX11_writesOn_8 rfl rfl ?_
  refine gx_getr 11 1 (v := 60) dX11_writesOn_9 fl_X11_13 rfl rfl rfl ?_
  refine gx_iconst (v := 2) dX11_writesOn_12 (by decide) ?_
  refine gx_iald (v := (I 60 2)) dX11_writesOn_13 rfl rfl (gm_vin rfl) (k := 2) rfl rfl ?_
  refine gx_istore (lv' := [(0, .ref 59), (1, .int 2), (2, .int 3), (3, .int (-1)), (4, .int (I 60 2))]) dX11_writesOn_14 rfl rfl ?_
  exact h
set_option maxRecDepth 100000 in
theorem r_M_writesOn_2_3_16 {g : gm_G} {Q : mI → mL → gm_cfg → Prop} {x3 x4 : Int32} {I : mI} {L : mL} {c : gm_cfg} (h : (((I 60 3) < x4 → Z_M_writesOn_2_3 g Q 105 [(0, .ref 59), (1, .int 2), (2, .int 3), (3, .int x3), (4, .int 2)] [] I L c) ∧ (¬ (I 60 3) < x4 → (C_M_writesOn_3_3 g (gm_u I 67 2 x4) L c (fun I1 L2 c3 => (C_M_weightFor g 2 3 I1 L2 c3 (fun r7 I4 L5 c6 => ((x3 < r7 → Z_M_writesOn_2_3 g Q 66 [(0, .ref 59), (1, .int 2), (2, .int 3), (3, .int r7), (4, .int x4), (5, .int r7), (6, .int 0)] [] I4 L5 c6) ∧ (¬ x3 < r7 → Z_M_writesOn_2_3 g Q 16 [(0, .ref 59), (1, .int 2), (2, .int 3), (3, .int x3), (4, .int (x4 + 1))] [] I4 L5 c6))))))))) : Z_M_writesOn_2_3 g Q 16 [(0, .ref 59), (1, .int 2), (2, .int 3), (3, .int x3), (4, .int x4)] [] I L c := by
  refine gx_iload 4 dX11_writesOn_16 rfl ?_
  refine gx_aload_n 0 dX11_writesOn_18 rfl rfl ?_
  refine gx_getr 11 1 (v := 60) dX11_writesOn_19 fl_X11_13 rfl rfl rfl ?_
  refine gx_iconst (v := 3) dX11_writesOn_22 (by decide) ?_
  refine gx_iald (v := (I 60 3)) dX11_writesOn_23 rfl rfl (gm_vin rfl) (k := 3) rfl rfl ?_
  refine gx_icmp_gt 102 dX11_writesOn_24 (by decide) ⟨fun z => ?_, fun z => ?_⟩
  · replace h := h.1 z
    refine gx_iload_n 1 dX11_writesOn_102 rfl rfl ?_
    refine gx_istore (lv' := [(0, .ref 59), (1, .int 2), (2, .int 3), (3, .int x3), (4, .int 2)]) dX11_writesOn_103 rfl rfl ?_
    exact h
  · replace h := h.2 z
    refine gx_aload_n 0 dX11_writesOn_27 rfl rfl ?_
    refine gx_getr 11 25 (v := 67) dX11_writesOn_28 fl_X11_40 rfl rfl rfl ?_
    refine gx_iload_n 1 dX11_writesOn_31 rfl rfl ?_
    refine gx_iload 4 dX11_writesOn_32 rfl ?_
    refine gx_iast dX11_writesOn_34 rfl rfl (gm_vin rfl) (k := 2) rfl ?_
    show Z_M_writesOn_2_3 g Q 35 [(0, .ref 59), (1, .int 2), (2, .int 3), (3, .int x3), (4, .int x4)] [] (gm_u I 67 2 x4) L c
    refine gx_aload_n 0 dX11_writesOn_35 rfl rfl ?_
    refine gx_iload_n 1 dX11_writesOn_36 rfl rfl ?_
    refine gx_iconst (v := 1) dX11_writesOn_37 (by decide) ?_
    refine gx_iadd dX11_writesOn_38 ?_
    show Z_M_writesOn_2_3 g Q 39 [(0, .ref 59), (1, .int 2), (2, .int 3), (3, .int x3), (4, .int x4)] [.int 3, .ref 59] (gm_u I 67 2 x4) L c
    refine gx_iload_n 2 dX11_writesOn_39 rfl rfl ?_
    refine gx_callV 11 (As := [.int 3, .int 3]) (st := []) dX11_writesOn_40 ml_X11_302 mm_X11_writesOn rfl rfl rfl rfl rfl rfl ⟨rfl, rfl⟩ h (fun v h2 hq => ?_)
    clear h
    obtain ⟨I1, L2, c3, rfl, rfl, h⟩ := hq
    show Z_M_writesOn_2_3 g Q 43 [(0, .ref 59), (1, .int 2), (2, .int 3), (3, .int x3), (4, .int x4)] [] I1 L2 c3
    refine gx_aload_n 0 dX11_writesOn_43 rfl rfl ?_
    refine gx_iload_n 1 dX11_writesOn_44 rfl rfl ?_
    refine gx_iload_n 2 dX11_writesOn_45 rfl rfl ?_
    refine gx_callV 11 (As := [.int 2, .int 3]) (st := []) dX11_writesOn_46 ml_X11_305 mm_X11_weightFor rfl rfl rfl rfl rfl rfl ⟨rfl, rfl⟩ h (fun v h2 hq => ?_)
    clear h
    obtain ⟨r7, I4, L5, c6, rfl, rfl, h⟩ := hq
    show Z_M_writesOn_2_3 g Q 49 [(0, .ref 59), (1, .int 2), (2, .int 3), (3, .int x3), (4, .int x4)] [.int r7] I4 L5 c6
    refine gx_istore (lv' := [(0, .ref 59), (1, .int 2), (2, .int 3), (3, .int x3), (4, .int x4), (5, .int r7)]) dX11_writesOn_49 rfl rfl ?_
    refine gx_iload 5 dX11_writesOn_51 rfl ?_
    refine gx_iload_n 3 dX11_writesOn_53 rfl rfl ?_
    refine gx_icmp_gt 60 dX11_writesOn_54 (by decide) ⟨fun z => ?_, fun z => ?_⟩
    · replace h := h.1 z
      refine gx_iload 5 dX11_writesOn_60 rfl ?_
      refine gx_istore_n (lv' := [(0, .ref 59), (1, .int 2), (2, .int 3), (3, .int r7), (4, .int x4), (5, .int r7)]) dX11_writesOn_62 rfl rfl rfl ?_
      refine gx_iconst (v := 0) dX11_writesOn_63 (by decide) ?_
      refine gx_istore (lv' := [(0, .ref 59), (1, .int 2), (2, .int 3), (3, .int r7), (4, .int x4), (5, .int r7), (6, .int 0)]) dX11_writesOn_64 rfl rfl ?_
      exact h
    · replace h := h.2 z
      refine gx_goto 96 dX11_writesOn_57 (by decide) ?_
      refine gx_iinc (v := (x4 + 1)) (lv' := [(0, .ref 59), (1, .int 2), (2, .int 3), (3, .int x3), (4, .int (x4 + 1)), (5, .int r7)]) 4 dX11_writesOn_96 rfl rfl rfl rfl ?_
      refine gx_goto 16 dX11_writesOn_99 (by decide) ?_
      refine gx_sub [0, 1, 2, 3, 4] (lv' := [(0, .ref 59), (1, .int 2), (2, .int 3), (3, .int x3), (4, .int (x4 + 1))]) rfl ?_
      exact h
set_option maxRecDepth 100000 in
theorem r_M_writesOn_2_3_66 {g : gm_G} {Q : mI → mL → gm_cfg → Prop} {x4 x5 x3 x6 : Int32} {I : mI} {L : mL} {c : gm_cfg} (h : ((3 ≤ x6 → Z_M_writesOn_2_3 g Q 16 [(0, .ref 59), (1, .int 2), (2, .int 3), (3, .int x3), (4, .int (x4 + 1))] [] I L c) ∧ (¬ 3 ≤ x6 → (vp_in x6 3 ∧ (vp_in (6 + x6) 9 ∧ Z_M_writesOn_2_3 g Q 66 [(0, .ref 59), (1, .int 2), (2, .int 3), (3, .int x3), (4, .int x4), (5, .int x5), (6, .int (x6 + 1))] [] (gm_u I 68 (Int32.toNatClampNeg (6 + x6)) (I 67 (Int32.toNatClampNeg x6))) L c))))) : Z_M_writesOn_2_3 g Q 66 [(0, .ref 59), (1, .int 2), (2, .int 3), (3, .int x3), (4, .int x4), (5, .int x5), (6, .int x6)] [] I L c := by
  refine gx_iload 6 dX11_writesOn_66 rfl ?_
  refine gx_iload_n 2 dX11_writesOn_68 rfl rfl ?_
  refine gx_icmp_ge 96 dX11_writesOn_69 (by decide) ⟨fun z => ?_, fun z => ?_⟩
  · replace h := h.1 z
    refine gx_iinc (v := (x4 + 1)) (lv' := [(0, .ref 59), (1, .int 2), (2, .int 3), (3, .int x3), (4, .int (x4 + 1)), (5, .int x5), (6, .int x6)]) 4 dX11_writesOn_96 rfl rfl rfl rfl ?_
    refine gx_goto 16 dX11_writesOn_99 (by decide) ?_
    refine gx_sub [0, 1, 2, 3, 4] (lv' := [(0, .ref 59), (1, .int 2), (2, .int 3), (3, .int x3), (4, .int (x4 + 1))]) rfl ?_
    exact h
  · replace h := h.2 z
    refine gx_aload_n 0 dX11_writesOn_72 rfl rfl ?_
    refine gx_getr 11 26 (v := 68) dX11_writesOn_73 fl_X11_43 rfl rfl rfl ?_
    refine gx_iconst (v := 3) dX11_writesOn_76 (by decide) ?_
    refine gx_iload_n 1 dX11_writesOn_77 rfl rfl ?_
    refine gx_imul dX11_writesOn_78 ?_
    show Z_M_writesOn_2_3 g Q 79 [(0, .ref 59), (1, .int 2), (2, .int 3), (3, .int x3), (4, .int x4), (5, .int x5), (6, .int x6)] [.int 6, .ref 68] I L c
    refine gx_iload 6 dX11_writesOn_79 rfl ?_
    refine gx_iadd dX11_writesOn_81 ?_
    refine gx_aload_n 0 dX11_writesOn_82 rfl rfl ?_
    refine gx_getr 11 25 (v := 67) dX11_writesOn_83 fl_X11_40 rfl rfl rfl ?_
    refine gx_iload 6 dX11_writesOn_86 rfl ?_
    obtain ⟨hi, h⟩ := h
    refine gx_iald (v := (I 67 (Int32.toNatClampNeg x6))) dX11_writesOn_88 rfl rfl hi (k := (Int32.toNatClampNeg x6)) rfl rfl ?_
    obtain ⟨hi, h⟩ := h
    refine gx_iast dX11_writesOn_89 rfl rfl hi (k := (Int32.toNatClampNeg (6 + x6))) rfl ?_
    show Z_M_writesOn_2_3 g Q 90 [(0, .ref 59), (1, .int 2), (2, .int 3), (3, .int x3), (4, .int x4), (5, .int x5), (6, .int x6)] [] (gm_u I 68 (Int32.toNatClampNeg (6 + x6)) (I 67 (Int32.toNatClampNeg x6))) L c
    refine gx_iinc (v := (x6 + 1)) (lv' := [(0, .ref 59), (1, .int 2), (2, .int 3), (3, .int x3), (4, .int x4), (5, .int x5), (6, .int (x6 + 1))]) 6 dX11_writesOn_90 rfl rfl rfl rfl ?_
    refine gx_goto 66 dX11_writesOn_93 (by decide) ?_
    exact h
set_option maxRecDepth 100000 in
theorem r_M_writesOn_2_3_105 {g : gm_G} {Q : mI → mL → gm_cfg → Prop} {x3 x4 : Int32} {I : mI} {L : mL} {c : gm_cfg} (h : ((3 ≤ x4 → Q I L c) ∧ (¬ 3 ≤ x4 → (vp_in (6 + x4) 9 ∧ (vp_in x4 3 ∧ Z_M_writesOn_2_3 g Q 105 [(0, .ref 59), (1, .int 2), (2, .int 3), (3, .int x3), (4, .int (x4 + 1))] [] (gm_u I 67 (Int32.toNatClampNeg x4) (I 68 (Int32.toNatClampNeg (6 + x4)))) L c))))) : Z_M_writesOn_2_3 g Q 105 [(0, .ref 59), (1, .int 2), (2, .int 3), (3, .int x3), (4, .int x4)] [] I L c := by
  refine gx_iload 4 dX11_writesOn_105 rfl ?_
  refine gx_iload_n 2 dX11_writesOn_107 rfl rfl ?_
  refine gx_icmp_ge 135 dX11_writesOn_108 (by decide) ⟨fun z => ?_, fun z => ?_⟩
  · replace h := h.1 z
    exact gx_vret dX11_writesOn_135 rfl rfl rfl ⟨_, _, _, rfl, rfl, h⟩
  · replace h := h.2 z
    refine gx_aload_n 0 dX11_writesOn_111 rfl rfl ?_
    refine gx_getr 11 25 (v := 67) dX11_writesOn_112 fl_X11_40 rfl rfl rfl ?_
    refine gx_iload 4 dX11_writesOn_115 rfl ?_
    refine gx_aload_n 0 dX11_writesOn_117 rfl rfl ?_
    refine gx_getr 11 26 (v := 68) dX11_writesOn_118 fl_X11_43 rfl rfl rfl ?_
    refine gx_iconst (v := 3) dX11_writesOn_121 (by decide) ?_
    refine gx_iload_n 1 dX11_writesOn_122 rfl rfl ?_
    refine gx_imul dX11_writesOn_123 ?_
    show Z_M_writesOn_2_3 g Q 124 [(0, .ref 59), (1, .int 2), (2, .int 3), (3, .int x3), (4, .int x4)] [.int 6, .ref 68, .int x4, .ref 67] I L c
    refine gx_iload 4 dX11_writesOn_124 rfl ?_
    refine gx_iadd dX11_writesOn_126 ?_
    obtain ⟨hi, h⟩ := h
    refine gx_iald (v := (I 68 (Int32.toNatClampNeg (6 + x4)))) dX11_writesOn_127 rfl rfl hi (k := (Int32.toNatClampNeg (6 + x4))) rfl rfl ?_
    obtain ⟨hi, h⟩ := h
    refine gx_iast dX11_writesOn_128 rfl rfl hi (k := (Int32.toNatClampNeg x4)) rfl ?_
    show Z_M_writesOn_2_3 g Q 129 [(0, .ref 59), (1, .int 2), (2, .int 3), (3, .int x3), (4, .int x4)] [] (gm_u I 67 (Int32.toNatClampNeg x4) (I 68 (Int32.toNatClampNeg (6 + x4)))) L c
    refine gx_iinc (v := (x4 + 1)) (lv' := [(0, .ref 59), (1, .int 2), (2, .int 3), (3, .int x3), (4, .int (x4 + 1))]) 4 dX11_writesOn_129 rfl rfl rfl rfl ?_
    refine gx_goto 105 dX11_writesOn_132 (by decide) ?_
    exact h
abbrev Z_M_writesOn_1_3 (g : gm_G) (Q : mI → mL → gm_cfg → Prop) (pc : Nat) (lv : List (Nat × Value)) (st : List Value) (I : mI) (L : mL) (c : gm_cfg) : Prop := gm_X g RX11 "writesOn" cX11_writesOn 7 none 5 0 0 (qV Q) 0 0 pc lv st (SH, I, L, RR c)
abbrev C_M_writesOn_1_3 (g : gm_G) (I : mI) (L : mL) (c : gm_cfg) (Q : mI → mL → gm_cfg → Prop) : Prop := gm_Met g yX11_writesOn cX11_writesOn 7 none 5 0 0 [.ref 59, .int 1, .int 3] (SH, I, L, RR c) (qV Q)
set_option maxRecDepth 100000 in
theorem e_M_writesOn_1_3 {g : gm_G} {Q : mI → mL → gm_cfg → Prop} {I : mI} {L : mL} {c : gm_cfg} (h : Z_M_writesOn_1_3 g Q 16 [(0, .ref 59), (1, .int 1), (2, .int 3), (3, .int (-1)), (4, .int (I 60 2))] [] I L c) : C_M_writesOn_1_3 g  I L c Q := by
  refine gm_enter (lv := [(0, .ref 59), (1, .int 1), (2, .int 3)]) (by decide) rfl rfl rfl rfl ?_
  show Z_M_writesOn_1_3 g Q 0 [(0, .ref 59), (1, .int 1), (2, .int 3)] [] I L c
  refine gx_iload_n 1 dX11_writesOn_0 rfl rfl ?_
  refine gx_iload_n 2 dX11_writesOn_1 rfl rfl ?_
  refine gx_icmp_ne 6 dX11_writesOn_2 (by decide) (br_f (by decide) ?_)
  refine gx_iconst (v := (-1)) dX11_writesOn_6 (by decide) ?_
  refine gx_istore_n (lv' := [(0, .ref 59), (1, .int 1), (2, .int 3), (3, .int (-1))]) dX11_writesOn_7 rfl rfl rfl ?_
  refine gx_aload_n 0 dX11_writesOn_8 rfl rfl ?_
  refine gx_getr 11 1 (v := 60) dX11_writesOn_9 fl_X11_13 rfl rfl rfl ?_
  refine gx_iconst (v := 2) dX11_writesOn_12 (by decide) ?_
  refine gx_iald (v := (I 60 2)) dX11_writesOn_13 rfl rfl (gm_vin rfl) (k := 2) rfl rfl ?_
  refine gx_istore (lv' := [(0, .ref 59), (1, .int 1), (2, .int 3), (3, .int (-1)), (4, .int (I 60 2))]) dX11_writesOn_14 rfl rfl ?_
  exact h
set_option maxRecDepth 100000 in
theorem r_M_writesOn_1_3_16 {g : gm_G} {Q : mI → mL → gm_cfg → Prop} {x3 x4 : Int32} {I : mI} {L : mL} {c : gm_cfg} (h : (((I 60 3) < x4 → Z_M_writesOn_1_3 g Q 105 [(0, .ref 59), (1, .int 1), (2, .int 3), (3, .int x3), (4, .int 1)] [] I L c) ∧ (¬ (I 60 3) < x4 → (C_M_writesOn_2_3 g (gm_u I 67 1 x4) L c (fun I1 L2 c3 => (C_M_weightFor g 1 3 I1 L2 c3 (fun r7 I4 L5 c6 => ((x3 < r7 → Z_M_writesOn_1_3 g Q 66 [(0, .ref 59), (1, .int 1), (2, .int 3), (3, .int r7), (4, .int x4), (5, .int r7), (6, .int 0)] [] I4 L5 c6) ∧ (¬ x3 < r7 → Z_M_writesOn_1_3 g Q 16 [(0, .ref 59), (1, .int 1), (2, .int 3), (3, .int x3), (4, .int (x4 + 1))] [] I4 L5 c6))))))))) : Z_M_writesOn_1_3 g Q 16 [(0, .ref 59), (1, .int 1), (2, .int 3), (3, .int x3), (4, .int x4)] [] I L c := by
  refine gx_iload 4 dX11_writesOn_16 rfl ?_
  refine gx_aload_n 0 dX11_writesOn_18 rfl rfl ?_
  refine gx_getr 11 1 (v := 60) dX11_writesOn_19 fl_X11_13 rfl rfl rfl ?_
  refine gx_iconst (v := 3) dX11_writesOn_22 (by decide) ?_
  refine gx_iald (v := (I 60 3)) dX11_writesOn_23 rfl rfl (gm_vin rfl) (k := 3) rfl rfl ?_
  refine gx_icmp_gt 102 dX11_writesOn_24 (by decide) ⟨fun z => ?_, fun z => ?_⟩
  · replace h := h.1 z
    refine gx_iload_n 1 dX11_writesOn_102 rfl rfl ?_
    refine gx_istore (lv' := [(0, .ref 59), (1, .int 1), (2, .int 3), (3, .int x3), (4, .int 1)]) dX11_writesOn_103 rfl rfl ?_
    exact h
  · replace h := h.2 z
    refine gx_aload_n 0 dX11_writesOn_27 rfl rfl ?_
    refine gx_getr 11 25 (v := 67) dX11_writesOn_28 fl_X11_40 rfl rfl rfl ?_
    refine gx_iload_n 1 dX11_writesOn_31 rfl rfl ?_
    refine gx_iload 4 dX11_writesOn_32 rfl ?_
    refine gx_iast dX11_writesOn_34 rfl rfl (gm_vin rfl) (k := 1) rfl ?_
    show Z_M_writesOn_1_3 g Q 35 [(0, .ref 59), (1, .int 1), (2, .int 3), (3, .int x3), (4, .int x4)] [] (gm_u I 67 1 x4) L c
    refine gx_aload_n 0 dX11_writesOn_35 rfl rfl ?_
    refine gx_iload_n 1 dX11_writesOn_36 rfl rfl ?_
    refine gx_iconst (v := 1) dX11_writesOn_37 (by decide) ?_
    refine gx_iadd dX11_writesOn_38 ?_
    show Z_M_writesOn_1_3 g Q 39 [(0, .ref 59), (1, .int 1), (2, .int 3), (3, .int x3), (4, .int x4)] [.int 2, .ref 59] (gm_u I 67 1 x4) L c
    refine gx_iload_n 2 dX11_writesOn_39 rfl rfl ?_
    refine gx_callV 11 (As := [.int 2, .int 3]) (st := []) dX11_writesOn_40 ml_X11_302 mm_X11_writesOn rfl rfl rfl rfl rfl rfl ⟨rfl, rfl⟩ h (fun v h2 hq => ?_)
    clear h
    obtain ⟨I1, L2, c3, rfl, rfl, h⟩ := hq
    show Z_M_writesOn_1_3 g Q 43 [(0, .ref 59), (1, .int 1), (2, .int 3), (3, .int x3), (4, .int x4)] [] I1 L2 c3
    refine gx_aload_n 0 dX11_writesOn_43 rfl rfl ?_
    refine gx_iload_n 1 dX11_writesOn_44 rfl rfl ?_
    refine gx_iload_n 2 dX11_writesOn_45 rfl rfl ?_
    refine gx_callV 11 (As := [.int 1, .int 3]) (st := []) dX11_writesOn_46 ml_X11_305 mm_X11_weightFor rfl rfl rfl rfl rfl rfl ⟨rfl, rfl⟩ h (fun v h2 hq => ?_)
    clear h
    obtain ⟨r7, I4, L5, c6, rfl, rfl, h⟩ := hq
    show Z_M_writesOn_1_3 g Q 49 [(0, .ref 59), (1, .int 1), (2, .int 3), (3, .int x3), (4, .int x4)] [.int r7] I4 L5 c6
    refine gx_istore (lv' := [(0, .ref 59), (1, .int 1), (2, .int 3), (3, .int x3), (4, .int x4), (5, .int r7)]) dX11_writesOn_49 rfl rfl ?_
    refine gx_iload 5 dX11_writesOn_51 rfl ?_
    refine gx_iload_n 3 dX11_writesOn_53 rfl rfl ?_
    refine gx_icmp_gt 60 dX11_writesOn_54 (by decide) ⟨fun z => ?_, fun z => ?_⟩
    · replace h := h.1 z
      refine gx_iload 5 dX11_writesOn_60 rfl ?_
      refine gx_istore_n (lv' := [(0, .ref 59), (1, .int 1), (2, .int 3), (3, .int r7), (4, .int x4), (5, .int r7)]) dX11_writesOn_62 rfl rfl rfl ?_
      refine gx_iconst (v := 0) dX11_writesOn_63 (by decide) ?_
      refine gx_istore (lv' := [(0, .ref 59), (1, .int 1), (2, .int 3), (3, .int r7), (4, .int x4), (5, .int r7), (6, .int 0)]) dX11_writesOn_64 rfl rfl ?_
      exact h
    · replace h := h.2 z
      refine gx_goto 96 dX11_writesOn_57 (by decide) ?_
      refine gx_iinc (v := (x4 + 1)) (lv' := [(0, .ref 59), (1, .int 1), (2, .int 3), (3, .int x3), (4, .int (x4 + 1)), (5, .int r7)]) 4 dX11_writesOn_96 rfl rfl rfl rfl ?_
      refine gx_goto 16 dX11_writesOn_99 (by decide) ?_
      refine gx_sub [0, 1, 2, 3, 4] (lv' := [(0, .ref 59), (1, .int 1), (2, .int 3), (3, .int x3), (4, .int (x4 + 1))]) rfl ?_
      exact h
set_option maxRecDepth 100000 in
theorem r_M_writesOn_1_3_66 {g : gm_G} {Q : mI → mL → gm_cfg → Prop} {x4 x5 x3 x6 : Int32} {I : mI} {L : mL} {c : gm_cfg} (h : ((3 ≤ x6 → Z_M_writesOn_1_3 g Q 16 [(0, .ref 59), (1, .int 1), (2, .int 3), (3, .int x3), (4, .int (x4 + 1))] [] I L c) ∧ (¬ 3 ≤ x6 → (vp_in x6 3 ∧ (vp_in (3 + x6) 9 ∧ Z_M_writesOn_1_3 g Q 66 [(0, .ref 59), (1, .int 1), (2, .int 3), (3, .int x3), (4, .int x4), (5, .int x5), (6, .int (x6 + 1))] [] (gm_u I 68 (Int32.toNatClampNeg (3 + x6)) (I 67 (Int32.toNatClampNeg x6))) L c))))) : Z_M_writesOn_1_3 g Q 66 [(0, .ref 59), (1, .int 1), (2, .int 3), (3, .int x3), (4, .int x4), (5, .int x5), (6, .int x6)] [] I L c := by
  refine gx_iload 6 dX11_writesOn_66 rfl ?_
  refine gx_iload_n 2 dX11_writesOn_68 rfl rfl ?_
  refine gx_icmp_ge 96 dX11_writesOn_69 (by decide) ⟨fun z => ?_, fun z => ?_⟩
  · replace h := h.1 z
    refine gx_iinc (v := (x4 + 1)) (lv' := [(0, .ref 59), (1, .int 1), (2, .int 3), (3, .int x3), (4, .int (x4 + 1)), (5, .int x5), (6, .int x6)]) 4 dX11_writesOn_96 rfl rfl rfl rfl ?_
    refine gx_goto 16 dX11_writesOn_99 (by decide) ?_
    refine gx_sub [0, 1, 2, 3, 4] (lv' := [(0, .ref 59), (1, .int 1), (2, .int 3), (3, .int x3), (4, .int (x4 + 1))]) rfl ?_
    exact h
  · replace h := h.2 z
    refine gx_aload_n 0 dX11_writesOn_72 rfl rfl ?_
    refine gx_getr 11 26 (v := 68) dX11_writesOn_73 fl_X11_43 rfl rfl rfl ?_
    refine gx_iconst (v := 3) dX11_writesOn_76 (by decide) ?_
    refine gx_iload_n 1 dX11_writesOn_77 rfl rfl ?_
    refine gx_imul dX11_writesOn_78 ?_
    show Z_M_writesOn_1_3 g Q 79 [(0, .ref 59), (1, .int 1), (2, .int 3), (3, .int x3), (4, .int x4), (5, .int x5), (6, .int x6)] [.int 3, .ref 68] I L c
    refine gx_iload 6 dX11_writesOn_79 rfl ?_
    refine gx_iadd dX11_writesOn_81 ?_
    refine gx_aload_n 0 dX11_writesOn_82 rfl rfl ?_
    refine gx_getr 11 25 (v := 67) dX11_writesOn_83 fl_X11_40 rfl rfl rfl ?_
    refine gx_iload 6 dX11_writesOn_86 rfl ?_
    obtain ⟨hi, h⟩ := h
    refine gx_iald (v := (I 67 (Int32.toNatClampNeg x6))) dX11_writesOn_88 rfl rfl hi (k := (Int32.toNatClampNeg x6)) rfl rfl ?_
    obtain ⟨hi, h⟩ := h
    refine gx_iast dX11_writesOn_89 rfl rfl hi (k := (Int32.toNatClampNeg (3 + x6))) rfl ?_
    show Z_M_writesOn_1_3 g Q 90 [(0, .ref 59), (1, .int 1), (2, .int 3), (3, .int x3), (4, .int x4), (5, .int x5), (6, .int x6)] [] (gm_u I 68 (Int32.toNatClampNeg (3 + x6)) (I 67 (Int32.toNatClampNeg x6))) L c
    refine gx_iinc (v := (x6 + 1)) (lv' := [(0, .ref 59), (1, .int 1), (2, .int 3), (3, .int x3), (4, .int x4), (5, .int x5), (6, .int (x6 + 1))]) 6 dX11_writesOn_90 rfl rfl rfl rfl ?_
    refine gx_goto 66 dX11_writesOn_93 (by decide) ?_
    exact h
set_option maxRecDepth 100000 in
theorem r_M_writesOn_1_3_105 {g : gm_G} {Q : mI → mL → gm_cfg → Prop} {x3 x4 : Int32} {I : mI} {L : mL} {c : gm_cfg} (h : ((3 ≤ x4 → Q I L c) ∧ (¬ 3 ≤ x4 → (vp_in (3 + x4) 9 ∧ (vp_in x4 3 ∧ Z_M_writesOn_1_3 g Q 105 [(0, .ref 59), (1, .int 1), (2, .int 3), (3, .int x3), (4, .int (x4 + 1))] [] (gm_u I 67 (Int32.toNatClampNeg x4) (I 68 (Int32.toNatClampNeg (3 + x4)))) L c))))) : Z_M_writesOn_1_3 g Q 105 [(0, .ref 59), (1, .int 1), (2, .int 3), (3, .int x3), (4, .int x4)] [] I L c := by
  refine gx_iload 4 dX11_writesOn_105 rfl ?_
  refine gx_iload_n 2 dX11_writesOn_107 rfl rfl ?_
  refine gx_icmp_ge 135 dX11_writesOn_108 (by decide) ⟨fun z => ?_, fun z => ?_⟩
  · replace h := h.1 z
    exact gx_vret dX11_writesOn_135 rfl rfl rfl ⟨_, _, _, rfl, rfl, h⟩
  · replace h := h.2 z
    refine gx_aload_n 0 dX11_writesOn_111 rfl rfl ?_
    refine gx_getr 11 25 (v := 67) dX11_writesOn_112 fl_X11_40 rfl rfl rfl ?_
    refine gx_iload 4 dX11_writesOn_115 rfl ?_
    refine gx_aload_n 0 dX11_writesOn_117 rfl rfl ?_
    refine gx_getr 11 26 (v := 68) dX11_writesOn_118 fl_X11_43 rfl rfl rfl ?_
    refine gx_iconst (v := 3) dX11_writesOn_121 (by decide) ?_
    refine gx_iload_n 1 dX11_writesOn_122 rfl rfl ?_
    refine gx_imul dX11_writesOn_123 ?_
    show Z_M_writesOn_1_3 g Q 124 [(0, .ref 59), (1, .int 1), (2, .int 3), (3, .int x3), (4, .int x4)] [.int 3, .ref 68, .int x4, .ref 67] I L c
    refine gx_iload 4 dX11_writesOn_124 rfl ?_
    refine gx_iadd dX11_writesOn_126 ?_
    obtain ⟨hi, h⟩ := h
    refine gx_iald (v := (I 68 (Int32.toNatClampNeg (3 + x4)))) dX11_writesOn_127 rfl rfl hi (k := (Int32.toNatClampNeg (3 + x4))) rfl rfl ?_
    obtain ⟨hi, h⟩ := h
    refine gx_iast dX11_writesOn_128 rfl rfl hi (k := (Int32.toNatClampNeg x4)) rfl ?_
    show Z_M_writesOn_1_3 g Q 129 [(0, .ref 59), (1, .int 1), (2, .int 3), (3, .int x3), (4, .int x4)] [] (gm_u I 67 (Int32.toNatClampNeg x4) (I 68 (Int32.toNatClampNeg (3 + x4)))) L c
    refine gx_iinc (v := (x4 + 1)) (lv' := [(0, .ref 59), (1, .int 1), (2, .int 3), (3, .int x3), (4, .int (x4 + 1))]) 4 dX11_writesOn_129 rfl rfl rfl rfl ?_
    refine gx_goto 105 dX11_writesOn_132 (by decide) ?_
    exact h
abbrev Z_M_writesOn_0_3 (g : gm_G) (Q : mI → mL → gm_cfg → Prop) (pc : Nat) (lv : List (Nat × Value)) (st : List Value) (I : mI) (L : mL) (c : gm_cfg) : Prop := gm_X g RX11 "writesOn" cX11_writesOn 7 none 6 0 0 (qV Q) 0 0 pc lv st (SH, I, L, RR c)
abbrev C_M_writesOn_0_3 (g : gm_G) (I : mI) (L : mL) (c : gm_cfg) (Q : mI → mL → gm_cfg → Prop) : Prop := gm_Met g yX11_writesOn cX11_writesOn 7 none 6 0 0 [.ref 59, .int 0, .int 3] (SH, I, L, RR c) (qV Q)
set_option maxRecDepth 100000 in
theorem e_M_writesOn_0_3 {g : gm_G} {Q : mI → mL → gm_cfg → Prop} {I : mI} {L : mL} {c : gm_cfg} (h : Z_M_writesOn_0_3 g Q 16 [(0, .ref 59), (1, .int 0), (2, .int 3), (3, .int (-1)), (4, .int (I 60 2))] [] I L c) : C_M_writesOn_0_3 g  I L c Q := by
  refine gm_enter (lv := [(0, .ref 59), (1, .int 0), (2, .int 3)]) (by decide) rfl rfl rfl rfl ?_
  show Z_M_writesOn_0_3 g Q 0 [(0, .ref 59), (1, .int 0), (2, .int 3)] [] I L c
  refine gx_iload_n 1 dX11_writesOn_0 rfl rfl ?_
  refine gx_iload_n 2 dX11_writesOn_1 rfl rfl ?_
  refine gx_icmp_ne 6 dX11_writesOn_2 (by decide) (br_f (by decide) ?_)
  refine gx_iconst (v := (-1)) dX11_writesOn_6 (by decide) ?_
  refine gx_istore_n (lv' := [(0, .ref 59), (1, .int 0), (2, .int 3), (3, .int (-1))]) dX11_writesOn_7 rfl rfl rfl ?_
  refine gx_aload_n 0 dX11_writesOn_8 rfl rfl ?_
  refine gx_getr 11 1 (v := 60) dX11_writesOn_9 fl_X11_13 rfl rfl rfl ?_
  refine gx_iconst (v := 2) dX11_writesOn_12 (by decide) ?_
  refine gx_iald (v := (I 60 2)) dX11_writesOn_13 rfl rfl (gm_vin rfl) (k := 2) rfl rfl ?_
  refine gx_istore (lv' := [(0, .ref 59), (1, .int 0), (2, .int 3), (3, .int (-1)), (4, .int (I 60 2))]) dX11_writesOn_14 rfl rfl ?_
  exact h
set_option maxRecDepth 100000 in
theorem r_M_writesOn_0_3_16 {g : gm_G} {Q : mI → mL → gm_cfg → Prop} {x3 x4 : Int32} {I : mI} {L : mL} {c : gm_cfg} (h : (((I 60 3) < x4 → Z_M_writesOn_0_3 g Q 105 [(0, .ref 59), (1, .int 0), (2, .int 3), (3, .int x3), (4, .int 0)] [] I L c) ∧ (¬ (I 60 3) < x4 → (C_M_writesOn_1_3 g (gm_u I 67 0 x4) L c (fun I1 L2 c3 => (C_M_weightFor g 0 3 I1 L2 c3 (fun r7 I4 L5 c6 => ((x3 < r7 → Z_M_writesOn_0_3 g Q 66 [(0, .ref 59), (1, .int 0), (2, .int 3), (3, .int r7), (4, .int x4), (5, .int r7), (6, .int 0)] [] I4 L5 c6) ∧ (¬ x3 < r7 → Z_M_writesOn_0_3 g Q 16 [(0, .ref 59), (1, .int 0), (2, .int 3), (3, .int x3), (4, .int (x4 + 1))] [] I4 L5 c6))))))))) : Z_M_writesOn_0_3 g Q 16 [(0, .ref 59), (1, .int 0), (2, .int 3), (3, .int x3), (4, .int x4)] [] I L c := by
  refine gx_iload 4 dX11_writesOn_16 rfl ?_
  refine gx_aload_n 0 dX11_writesOn_18 rfl rfl ?_
  refine gx_getr 11 1 (v := 60) dX11_writesOn_19 fl_X11_13 rfl rfl rfl ?_
  refine gx_iconst (v := 3) dX11_writesOn_22 (by decide) ?_
  refine gx_iald (v := (I 60 3)) dX11_writesOn_23 rfl rfl (gm_vin rfl) (k := 3) rfl rfl ?_
  refine gx_icmp_gt 102 dX11_writesOn_24 (by decide) ⟨fun z => ?_, fun z => ?_⟩
  · replace h := h.1 z
    refine gx_iload_n 1 dX11_writesOn_102 rfl rfl ?_
    refine gx_istore (lv' := [(0, .ref 59), (1, .int 0), (2, .int 3), (3, .int x3), (4, .int 0)]) dX11_writesOn_103 rfl rfl ?_
    exact h
  · replace h := h.2 z
    refine gx_aload_n 0 dX11_writesOn_27 rfl rfl ?_
    refine gx_getr 11 25 (v := 67) dX11_writesOn_28 fl_X11_40 rfl rfl rfl ?_
    refine gx_iload_n 1 dX11_writesOn_31 rfl rfl ?_
    refine gx_iload 4 dX11_writesOn_32 rfl ?_
    refine gx_iast dX11_writesOn_34 rfl rfl (gm_vin rfl) (k := 0) rfl ?_
    show Z_M_writesOn_0_3 g Q 35 [(0, .ref 59), (1, .int 0), (2, .int 3), (3, .int x3), (4, .int x4)] [] (gm_u I 67 0 x4) L c
    refine gx_aload_n 0 dX11_writesOn_35 rfl rfl ?_
    refine gx_iload_n 1 dX11_writesOn_36 rfl rfl ?_
    refine gx_iconst (v := 1) dX11_writesOn_37 (by decide) ?_
    refine gx_iadd dX11_writesOn_38 ?_
    show Z_M_writesOn_0_3 g Q 39 [(0, .ref 59), (1, .int 0), (2, .int 3), (3, .int x3), (4, .int x4)] [.int 1, .ref 59] (gm_u I 67 0 x4) L c
    refine gx_iload_n 2 dX11_writesOn_39 rfl rfl ?_
    refine gx_callV 11 (As := [.int 1, .int 3]) (st := []) dX11_writesOn_40 ml_X11_302 mm_X11_writesOn rfl rfl rfl rfl rfl rfl ⟨rfl, rfl⟩ h (fun v h2 hq => ?_)
    clear h
    obtain ⟨I1, L2, c3, rfl, rfl, h⟩ := hq
    show Z_M_writesOn_0_3 g Q 43 [(0, .ref 59), (1, .int 0), (2, .int 3), (3, .int x3), (4, .int x4)] [] I1 L2 c3
    refine gx_aload_n 0 dX11_writesOn_43 rfl rfl ?_
    refine gx_iload_n 1 dX11_writesOn_44 rfl rfl ?_
    refine gx_iload_n 2 dX11_writesOn_45 rfl rfl ?_
    refine gx_callV 11 (As := [.int 0, .int 3]) (st := []) dX11_writesOn_46 ml_X11_305 mm_X11_weightFor rfl rfl rfl rfl rfl rfl ⟨rfl, rfl⟩ h (fun v h2 hq => ?_)
    clear h
    obtain ⟨r7, I4, L5, c6, rfl, rfl, h⟩ := hq
    show Z_M_writesOn_0_3 g Q 49 [(0, .ref 59), (1, .int 0), (2, .int 3), (3, .int x3), (4, .int x4)] [.int r7] I4 L5 c6
    refine gx_istore (lv' := [(0, .ref 59), (1, .int 0), (2, .int 3), (3, .int x3), (4, .int x4), (5, .int r7)]) dX11_writesOn_49 rfl rfl ?_
    refine gx_iload 5 dX11_writesOn_51 rfl ?_
    refine gx_iload_n 3 dX11_writesOn_53 rfl rfl ?_
    refine gx_icmp_gt 60 dX11_writesOn_54 (by decide) ⟨fun z => ?_, fun z => ?_⟩
    · replace h := h.1 z
      refine gx_iload 5 dX11_writesOn_60 rfl ?_
      refine gx_istore_n (lv' := [(0, .ref 59), (1, .int 0), (2, .int 3), (3, .int r7), (4, .int x4), (5, .int r7)]) dX11_writesOn_62 rfl rfl rfl ?_
      refine gx_iconst (v := 0) dX11_writesOn_63 (by decide) ?_
      refine gx_istore (lv' := [(0, .ref 59), (1, .int 0), (2, .int 3), (3, .int r7), (4, .int x4), (5, .int r7), (6, .int 0)]) dX11_writesOn_64 rfl rfl ?_
      exact h
    · replace h := h.2 z
      refine gx_goto 96 dX11_writesOn_57 (by decide) ?_
      refine gx_iinc (v := (x4 + 1)) (lv' := [(0, .ref 59), (1, .int 0), (2, .int 3), (3, .int x3), (4, .int (x4 + 1)), (5, .int r7)]) 4 dX11_writesOn_96 rfl rfl rfl rfl ?_
      refine gx_goto 16 dX11_writesOn_99 (by decide) ?_
      refine gx_sub [0, 1, 2, 3, 4] (lv' := [(0, .ref 59), (1, .int 0), (2, .int 3), (3, .int x3), (4, .int (x4 + 1))]) rfl ?_
      exact h
set_option maxRecDepth 100000 in
theorem r_M_writesOn_0_3_66 {g : gm_G} {Q : mI → mL → gm_cfg → Prop} {x4 x5 x3 x6 : Int32} {I : mI} {L : mL} {c : gm_cfg} (h : ((3 ≤ x6 → Z_M_writesOn_0_3 g Q 16 [(0, .ref 59), (1, .int 0), (2, .int 3), (3, .int x3), (4, .int (x4 + 1))] [] I L c) ∧ (¬ 3 ≤ x6 → (vp_in x6 3 ∧ (vp_in (0 + x6) 9 ∧ Z_M_writesOn_0_3 g Q 66 [(0, .ref 59), (1, .int 0), (2, .int 3), (3, .int x3), (4, .int x4), (5, .int x5), (6, .int (x6 + 1))] [] (gm_u I 68 (Int32.toNatClampNeg (0 + x6)) (I 67 (Int32.toNatClampNeg x6))) L c))))) : Z_M_writesOn_0_3 g Q 66 [(0, .ref 59), (1, .int 0), (2, .int 3), (3, .int x3), (4, .int x4), (5, .int x5), (6, .int x6)] [] I L c := by
  refine gx_iload 6 dX11_writesOn_66 rfl ?_
  refine gx_iload_n 2 dX11_writesOn_68 rfl rfl ?_
  refine gx_icmp_ge 96 dX11_writesOn_69 (by decide) ⟨fun z => ?_, fun z => ?_⟩
  · replace h := h.1 z
    refine gx_iinc (v := (x4 + 1)) (lv' := [(0, .ref 59), (1, .int 0), (2, .int 3), (3, .int x3), (4, .int (x4 + 1)), (5, .int x5), (6, .int x6)]) 4 dX11_writesOn_96 rfl rfl rfl rfl ?_
    refine gx_goto 16 dX11_writesOn_99 (by decide) ?_
    refine gx_sub [0, 1, 2, 3, 4] (lv' := [(0, .ref 59), (1, .int 0), (2, .int 3), (3, .int x3), (4, .int (x4 + 1))]) rfl ?_
    exact h
  · replace h := h.2 z
    refine gx_aload_n 0 dX11_writesOn_72 rfl rfl ?_
    refine gx_getr 11 26 (v := 68) dX11_writesOn_73 fl_X11_43 rfl rfl rfl ?_
    refine gx_iconst (v := 3) dX11_writesOn_76 (by decide) ?_
    refine gx_iload_n 1 dX11_writesOn_77 rfl rfl ?_
    refine gx_imul dX11_writesOn_78 ?_
    show Z_M_writesOn_0_3 g Q 79 [(0, .ref 59), (1, .int 0), (2, .int 3), (3, .int x3), (4, .int x4), (5, .int x5), (6, .int x6)] [.int 0, .ref 68] I L c
    refine gx_iload 6 dX11_writesOn_79 rfl ?_
    refine gx_iadd dX11_writesOn_81 ?_
    refine gx_aload_n 0 dX11_writesOn_82 rfl rfl ?_
    refine gx_getr 11 25 (v := 67) dX11_writesOn_83 fl_X11_40 rfl rfl rfl ?_
    refine gx_iload 6 dX11_writesOn_86 rfl ?_
    obtain ⟨hi, h⟩ := h
    refine gx_iald (v := (I 67 (Int32.toNatClampNeg x6))) dX11_writesOn_88 rfl rfl hi (k := (Int32.toNatClampNeg x6)) rfl rfl ?_
    obtain ⟨hi, h⟩ := h
    refine gx_iast dX11_writesOn_89 rfl rfl hi (k := (Int32.toNatClampNeg (0 + x6))) rfl ?_
    show Z_M_writesOn_0_3 g Q 90 [(0, .ref 59), (1, .int 0), (2, .int 3), (3, .int x3), (4, .int x4), (5, .int x5), (6, .int x6)] [] (gm_u I 68 (Int32.toNatClampNeg (0 + x6)) (I 67 (Int32.toNatClampNeg x6))) L c
    refine gx_iinc (v := (x6 + 1)) (lv' := [(0, .ref 59), (1, .int 0), (2, .int 3), (3, .int x3), (4, .int x4), (5, .int x5), (6, .int (x6 + 1))]) 6 dX11_writesOn_90 rfl rfl rfl rfl ?_
    refine gx_goto 66 dX11_writesOn_93 (by decide) ?_
    exact h
set_option maxRecDepth 100000 in
theorem r_M_writesOn_0_3_105 {g : gm_G} {Q : mI → mL → gm_cfg → Prop} {x3 x4 : Int32} {I : mI} {L : mL} {c : gm_cfg} (h : ((3 ≤ x4 → Q I L c) ∧ (¬ 3 ≤ x4 → (vp_in (0 + x4) 9 ∧ (vp_in x4 3 ∧ Z_M_writesOn_0_3 g Q 105 [(0, .ref 59), (1, .int 0), (2, .int 3), (3, .int x3), (4, .int (x4 + 1))] [] (gm_u I 67 (Int32.toNatClampNeg x4) (I 68 (Int32.toNatClampNeg (0 + x4)))) L c))))) : Z_M_writesOn_0_3 g Q 105 [(0, .ref 59), (1, .int 0), (2, .int 3), (3, .int x3), (4, .int x4)] [] I L c := by
  refine gx_iload 4 dX11_writesOn_105 rfl ?_
  refine gx_iload_n 2 dX11_writesOn_107 rfl rfl ?_
  refine gx_icmp_ge 135 dX11_writesOn_108 (by decide) ⟨fun z => ?_, fun z => ?_⟩
  · replace h := h.1 z
    exact gx_vret dX11_writesOn_135 rfl rfl rfl ⟨_, _, _, rfl, rfl, h⟩
  · replace h := h.2 z
    refine gx_aload_n 0 dX11_writesOn_111 rfl rfl ?_
    refine gx_getr 11 25 (v := 67) dX11_writesOn_112 fl_X11_40 rfl rfl rfl ?_
    refine gx_iload 4 dX11_writesOn_115 rfl ?_
    refine gx_aload_n 0 dX11_writesOn_117 rfl rfl ?_
    refine gx_getr 11 26 (v := 68) dX11_writesOn_118 fl_X11_43 rfl rfl rfl ?_
    refine gx_iconst (v := 3) dX11_writesOn_121 (by decide) ?_
    refine gx_iload_n 1 dX11_writesOn_122 rfl rfl ?_
    refine gx_imul dX11_writesOn_123 ?_
    show Z_M_writesOn_0_3 g Q 124 [(0, .ref 59), (1, .int 0), (2, .int 3), (3, .int x3), (4, .int x4)] [.int 0, .ref 68, .int x4, .ref 67] I L c
    refine gx_iload 4 dX11_writesOn_124 rfl ?_
    refine gx_iadd dX11_writesOn_126 ?_
    obtain ⟨hi, h⟩ := h
    refine gx_iald (v := (I 68 (Int32.toNatClampNeg (0 + x4)))) dX11_writesOn_127 rfl rfl hi (k := (Int32.toNatClampNeg (0 + x4))) rfl rfl ?_
    obtain ⟨hi, h⟩ := h
    refine gx_iast dX11_writesOn_128 rfl rfl hi (k := (Int32.toNatClampNeg x4)) rfl ?_
    show Z_M_writesOn_0_3 g Q 129 [(0, .ref 59), (1, .int 0), (2, .int 3), (3, .int x3), (4, .int x4)] [] (gm_u I 67 (Int32.toNatClampNeg x4) (I 68 (Int32.toNatClampNeg (0 + x4)))) L c
    refine gx_iinc (v := (x4 + 1)) (lv' := [(0, .ref 59), (1, .int 0), (2, .int 3), (3, .int x3), (4, .int (x4 + 1))]) 4 dX11_writesOn_129 rfl rfl rfl rfl ?_
    refine gx_goto 105 dX11_writesOn_132 (by decide) ?_
    exact h
abbrev Z_M_game_3 (g : gm_G) (Q : Int32 → mI → mL → gm_cfg → Prop) (pc : Nat) (lv : List (Nat × Value)) (st : List Value) (I : mI) (L : mL) (c : gm_cfg) : Prop := gm_X g RX11 "game" cX11_game 3 (some .int) 7 0 0 (qI Q) 0 0 pc lv st (SH, I, L, RR c)
abbrev C_M_game_3 (g : gm_G) (x2 : Int32) (I : mI) (L : mL) (c : gm_cfg) (Q : Int32 → mI → mL → gm_cfg → Prop) : Prop := gm_Met g yX11_game cX11_game 3 (some .int) 7 0 0 [.ref 59, .int 3, .int x2] (SH, I, L, RR c) (qI Q)
set_option maxRecDepth 100000 in
theorem e_M_game_3 {g : gm_G} {Q : Int32 → mI → mL → gm_cfg → Prop} {x2 : Int32} {I : mI} {L : mL} {c : gm_cfg} (h : (C_M_within g 3 1 3 (gm_u I 59 0 0) L c (fun b4 I1 L2 c3 => ((b4 = false → Q (-3) I1 L2 c3) ∧ (b4 = true → (C_M_within g (Int32.toInt64 x2) 0 2 I1 L2 c3 (fun b8 I5 L6 c7 => ((b8 = false → (C_M_within g (Int32.toInt64 x2) 10 12 I5 L6 c7 (fun b12 I9 L10 c11 => ((b12 = false → Q (-2) I9 L10 c11) ∧ (b12 = true → (C_M_gridMany g I9 L10 c11 (fun r16 I13 L14 c15 => ((r16 ≤ 24 → (C_M_writesOn_0_3 g I13 L14 c15 (fun I17 L18 c19 => ((10 ≤ x2 → (C_M_weightFor g (x2 - 10) 3 I17 L18 c19 (fun r23 I20 L21 c22 => Q r23 I20 L21 c22))) ∧ (¬ 10 ≤ x2 → (vp_in x2 3 ∧ Q (I17 67 (Int32.toNatClampNeg x2)) I17 L18 c19)))))) ∧ (¬ r16 ≤ 24 → Q (-4) I13 L14 c15))))))))) ∧ (b8 = true → (C_M_gridMany g I5 L6 c7 (fun r27 I24 L25 c26 => ((r27 ≤ 24 → (C_M_writesOn_0_3 g I24 L25 c26 (fun I28 L29 c30 => ((10 ≤ x2 → (C_M_weightFor g (x2 - 10) 3 I28 L29 c30 (fun r34 I31 L32 c33 => Q r34 I31 L32 c33))) ∧ (¬ 10 ≤ x2 → (vp_in x2 3 ∧ Q (I28 67 (Int32.toNatClampNeg x2)) I28 L29 c30)))))) ∧ (¬ r27 ≤ 24 → Q (-4) I24 L25 c26))))))))))))) : C_M_game_3 g x2 I L c Q := by
  refine gm_enter (lv := [(0, .ref 59), (1, .int 3), (2, .int x2)]) (by decide) rfl rfl rfl rfl ?_
  show Z_M_game_3 g Q 0 [(0, .ref 59), (1, .int 3), (2, .int x2)] [] I L c
  refine gx_aload_n 0 dX11_game_0 rfl rfl ?_
  refine gx_iconst (v := 0) dX11_game_1 (by decide) ?_
  refine gx_puti 11 0 dX11_game_2 fl_X11_1 rfl rfl rfl ⟨rfl, rfl⟩ ?_
  show Z_M_game_3 g Q 5 [(0, .ref 59), (1, .int 3), (2, .int x2)] [] (gm_u I 59 0 0) L c
  refine gx_iload_n 1 dX11_game_5 rfl rfl ?_
  refine gx_i2l dX11_game_6 ?_
  show Z_M_game_3 g Q 7 [(0, .ref 59), (1, .int 3), (2, .int x2)] [.long 3] (gm_u I 59 0 0) L c
  refine gx_lconst (v := 1) dX11_game_7 (by decide) ?_
  refine gx_ldc2 dX11_game_8 kl_X11_194 ?_
  refine gx_callS (As := [.long 3, .long 1, .long 3]) (st := []) dX11_game_11 ml_X11_125 mm_X11_within rfl rfl rfl rfl ⟨rfl, rfl⟩ h (fun v h2 hq => ?_)
  clear h
  obtain ⟨b4, I1, L2, c3, rfl, rfl, h⟩ := hq
  show Z_M_game_3 g Q 14 [(0, .ref 59), (1, .int 3), (2, .int x2)] [.int (gm_b b4)] I1 L2 c3
  refine gx_if_ne 20 dX11_game_14 (by decide) ⟨fun z => ?_, fun z => ?_⟩
  · replace h := h.1 (gm_b0.mp z)
    refine gx_bipush (v := (-3)) dX11_game_17 (by decide) ?_
    exact gx_iret dX11_game_19 rfl rfl rfl ⟨_, _, _, _, rfl, rfl, h⟩
  · replace h := h.2 (gm_bn0 z)
    refine gx_iload_n 2 dX11_game_20 rfl rfl ?_
    refine gx_i2l dX11_game_21 ?_
    refine gx_lconst (v := 0) dX11_game_22 (by decide) ?_
    refine gx_iload_n 1 dX11_game_23 rfl rfl ?_
    refine gx_iconst (v := 1) dX11_game_24 (by decide) ?_
    refine gx_isub dX11_game_25 ?_
    show Z_M_game_3 g Q 26 [(0, .ref 59), (1, .int 3), (2, .int x2)] [.int 2, .long 0, .long (Int32.toInt64 x2)] I1 L2 c3
    refine gx_i2l dX11_game_26 ?_
    show Z_M_game_3 g Q 27 [(0, .ref 59), (1, .int 3), (2, .int x2)] [.long 2, .long 0, .long (Int32.toInt64 x2)] I1 L2 c3
    refine gx_callS (As := [.long (Int32.toInt64 x2), .long 0, .long 2]) (st := []) dX11_game_27 ml_X11_125 mm_X11_within rfl rfl rfl rfl ⟨rfl, rfl⟩ h (fun v h2 hq => ?_)
    clear h
    obtain ⟨b8, I5, L6, c7, rfl, rfl, h⟩ := hq
    show Z_M_game_3 g Q 30 [(0, .ref 59), (1, .int 3), (2, .int x2)] [.int (gm_b b8)] I5 L6 c7
    refine gx_if_ne 52 dX11_game_30 (by decide) ⟨fun z => ?_, fun z => ?_⟩
    · replace h := h.1 (gm_b0.mp z)
      refine gx_iload_n 2 dX11_game_33 rfl rfl ?_
      refine gx_i2l dX11_game_34 ?_
      refine gx_ldc2 dX11_game_35 kl_X11_308 ?_
      refine gx_bipush (v := 9) dX11_game_38 (by decide) ?_
      refine gx_iload_n 1 dX11_game_40 rfl rfl ?_
      refine gx_iadd dX11_game_41 ?_
      show Z_M_game_3 g Q 42 [(0, .ref 59), (1, .int 3), (2, .int x2)] [.int 12, .long 10, .long (Int32.toInt64 x2)] I5 L6 c7
      refine gx_i2l dX11_game_42 ?_
      show Z_M_game_3 g Q 43 [(0, .ref 59), (1, .int 3), (2, .int x2)] [.long 12, .long 10, .long (Int32.toInt64 x2)] I5 L6 c7
      refine gx_callS (As := [.long (Int32.toInt64 x2), .long 10, .long 12]) (st := []) dX11_game_43 ml_X11_125 mm_X11_within rfl rfl rfl rfl ⟨rfl, rfl⟩ h (fun v h2 hq => ?_)
      clear h
      obtain ⟨b12, I9, L10, c11, rfl, rfl, h⟩ := hq
      show Z_M_game_3 g Q 46 [(0, .ref 59), (1, .int 3), (2, .int x2)] [.int (gm_b b12)] I9 L10 c11
      refine gx_if_ne 52 dX11_game_46 (by decide) ⟨fun z => ?_, fun z => ?_⟩
      · replace h := h.1 (gm_b0.mp z)
        refine gx_bipush (v := (-2)) dX11_game_49 (by decide) ?_
        exact gx_iret dX11_game_51 rfl rfl rfl ⟨_, _, _, _, rfl, rfl, h⟩
      · replace h := h.2 (gm_bn0 z)
        refine gx_aload_n 0 dX11_game_52 rfl rfl ?_
        refine gx_callV 11 (As := []) (st := []) dX11_game_53 ml_X11_240 mm_X11_gridMany rfl rfl rfl rfl rfl rfl ⟨rfl, rfl⟩ h (fun v h2 hq => ?_)
        clear h
        obtain ⟨r16, I13, L14, c15, rfl, rfl, h⟩ := hq
        show Z_M_game_3 g Q 56 [(0, .ref 59), (1, .int 3), (2, .int x2)] [.int r16] I13 L14 c15
        refine gx_bipush (v := 24) dX11_game_56 (by decide) ?_
        refine gx_icmp_le 64 dX11_game_58 (by decide) ⟨fun z => ?_, fun z => ?_⟩
        · replace h := h.1 z
          refine gx_aload_n 0 dX11_game_64 rfl rfl ?_
          refine gx_iconst (v := 0) dX11_game_65 (by decide) ?_
          refine gx_iload_n 1 dX11_game_66 rfl rfl ?_
          refine gx_callV 11 (As := [.int 0, .int 3]) (st := []) dX11_game_67 ml_X11_302 mm_X11_writesOn rfl rfl rfl rfl rfl rfl ⟨rfl, rfl⟩ h (fun v h2 hq => ?_)
          clear h
          obtain ⟨I17, L18, c19, rfl, rfl, h⟩ := hq
          show Z_M_game_3 g Q 70 [(0, .ref 59), (1, .int 3), (2, .int x2)] [] I17 L18 c19
          refine gx_iload_n 2 dX11_game_70 rfl rfl ?_
          refine gx_bipush (v := 10) dX11_game_71 (by decide) ?_
          refine gx_icmp_ge 85 dX11_game_73 (by decide) ⟨fun z => ?_, fun z => ?_⟩
          · replace h := h.1 z
            refine gx_aload_n 0 dX11_game_85 rfl rfl ?_
            refine gx_iload_n 2 dX11_game_86 rfl rfl ?_
            refine gx_bipush (v := 10) dX11_game_87 (by decide) ?_
            refine gx_isub dX11_game_89 ?_
            refine gx_iload_n 1 dX11_game_90 rfl rfl ?_
            refine gx_callV 11 (As := [.int (x2 - 10), .int 3]) (st := []) dX11_game_91 ml_X11_305 mm_X11_weightFor rfl rfl rfl rfl rfl rfl ⟨rfl, rfl⟩ h (fun v h2 hq => ?_)
            clear h
            obtain ⟨r23, I20, L21, c22, rfl, rfl, h⟩ := hq
            show Z_M_game_3 g Q 94 [(0, .ref 59), (1, .int 3), (2, .int x2)] [.int r23] I20 L21 c22
            exact gx_iret dX11_game_94 rfl rfl rfl ⟨_, _, _, _, rfl, rfl, h⟩
          · replace h := h.2 z
            refine gx_aload_n 0 dX11_game_76 rfl rfl ?_
            refine gx_getr 11 25 (v := 67) dX11_game_77 fl_X11_40 rfl rfl rfl ?_
            refine gx_iload_n 2 dX11_game_80 rfl rfl ?_
            obtain ⟨hi, h⟩ := h
            refine gx_iald (v := (I17 67 (Int32.toNatClampNeg x2))) dX11_game_81 rfl rfl hi (k := (Int32.toNatClampNeg x2)) rfl rfl ?_
            refine gx_goto 94 dX11_game_82 (by decide) ?_
            exact gx_iret dX11_game_94 rfl rfl rfl ⟨_, _, _, _, rfl, rfl, h⟩
        · replace h := h.2 z
          refine gx_bipush (v := (-4)) dX11_game_61 (by decide) ?_
          exact gx_iret dX11_game_63 rfl rfl rfl ⟨_, _, _, _, rfl, rfl, h⟩
    · replace h := h.2 (gm_bn0 z)
      refine gx_aload_n 0 dX11_game_52 rfl rfl ?_
      refine gx_callV 11 (As := []) (st := []) dX11_game_53 ml_X11_240 mm_X11_gridMany rfl rfl rfl rfl rfl rfl ⟨rfl, rfl⟩ h (fun v h2 hq => ?_)
      clear h
      obtain ⟨r27, I24, L25, c26, rfl, rfl, h⟩ := hq
      show Z_M_game_3 g Q 56 [(0, .ref 59), (1, .int 3), (2, .int x2)] [.int r27] I24 L25 c26
      refine gx_bipush (v := 24) dX11_game_56 (by decide) ?_
      refine gx_icmp_le 64 dX11_game_58 (by decide) ⟨fun z => ?_, fun z => ?_⟩
      · replace h := h.1 z
        refine gx_aload_n 0 dX11_game_64 rfl rfl ?_
        refine gx_iconst (v := 0) dX11_game_65 (by decide) ?_
        refine gx_iload_n 1 dX11_game_66 rfl rfl ?_
        refine gx_callV 11 (As := [.int 0, .int 3]) (st := []) dX11_game_67 ml_X11_302 mm_X11_writesOn rfl rfl rfl rfl rfl rfl ⟨rfl, rfl⟩ h (fun v h2 hq => ?_)
        clear h
        obtain ⟨I28, L29, c30, rfl, rfl, h⟩ := hq
        show Z_M_game_3 g Q 70 [(0, .ref 59), (1, .int 3), (2, .int x2)] [] I28 L29 c30
        refine gx_iload_n 2 dX11_game_70 rfl rfl ?_
        refine gx_bipush (v := 10) dX11_game_71 (by decide) ?_
        refine gx_icmp_ge 85 dX11_game_73 (by decide) ⟨fun z => ?_, fun z => ?_⟩
        · replace h := h.1 z
          refine gx_aload_n 0 dX11_game_85 rfl rfl ?_
          refine gx_iload_n 2 dX11_game_86 rfl rfl ?_
          refine gx_bipush (v := 10) dX11_game_87 (by decide) ?_
          refine gx_isub dX11_game_89 ?_
          refine gx_iload_n 1 dX11_game_90 rfl rfl ?_
          refine gx_callV 11 (As := [.int (x2 - 10), .int 3]) (st := []) dX11_game_91 ml_X11_305 mm_X11_weightFor rfl rfl rfl rfl rfl rfl ⟨rfl, rfl⟩ h (fun v h2 hq => ?_)
          clear h
          obtain ⟨r34, I31, L32, c33, rfl, rfl, h⟩ := hq
          show Z_M_game_3 g Q 94 [(0, .ref 59), (1, .int 3), (2, .int x2)] [.int r34] I31 L32 c33
          exact gx_iret dX11_game_94 rfl rfl rfl ⟨_, _, _, _, rfl, rfl, h⟩
        · replace h := h.2 z
          refine gx_aload_n 0 dX11_game_76 rfl rfl ?_
          refine gx_getr 11 25 (v := 67) dX11_game_77 fl_X11_40 rfl rfl rfl ?_
          refine gx_iload_n 2 dX11_game_80 rfl rfl ?_
          obtain ⟨hi, h⟩ := h
          refine gx_iald (v := (I28 67 (Int32.toNatClampNeg x2))) dX11_game_81 rfl rfl hi (k := (Int32.toNatClampNeg x2)) rfl rfl ?_
          refine gx_goto 94 dX11_game_82 (by decide) ?_
          exact gx_iret dX11_game_94 rfl rfl rfl ⟨_, _, _, _, rfl, rfl, h⟩
      · replace h := h.2 z
        refine gx_bipush (v := (-4)) dX11_game_61 (by decide) ?_
        exact gx_iret dX11_game_63 rfl rfl rfl ⟨_, _, _, _, rfl, rfl, h⟩
abbrev Z_M_aloneOf (g : gm_G) (Q : Int64 → mI → mL → gm_cfg → Prop) (pc : Nat) (lv : List (Nat × Value)) (st : List Value) (I : mI) (L : mL) (c : gm_cfg) : Prop := gm_X g RX11 "aloneOf" cX11_aloneOf 8 (some .long) 2 0 0 (qL Q) 0 0 pc lv st (SH, I, L, RR c)
abbrev C_M_aloneOf (g : gm_G) (x1 : Int32) (x2 : Int32) (x3 : Int32) (I : mI) (L : mL) (c : gm_cfg) (Q : Int64 → mI → mL → gm_cfg → Prop) : Prop := gm_Met g yX11_aloneOf cX11_aloneOf 8 (some .long) 2 0 0 [.ref 59, .int x1, .int x2, .int x3] (SH, I, L, RR c) (qL Q)
set_option maxRecDepth 100000 in
theorem e_M_aloneOf {g : gm_G} {Q : Int64 → mI → mL → gm_cfg → Prop} {x1 x2 x3 : Int32} {I : mI} {L : mL} {c : gm_cfg} (h : Z_M_aloneOf g Q 10 [(0, .ref 59), (1, .int x1), (2, .int x2), (3, .int x3), (4, .int ((2 * x1) + 1)), (5, .int 0)] [] I L c) : C_M_aloneOf g x1 x2 x3 I L c Q := by
  refine gm_enter (lv := [(0, .ref 59), (1, .int x1), (2, .int x2), (3, .int x3)]) (by decide) rfl rfl rfl rfl ?_
  show Z_M_aloneOf g Q 0 [(0, .ref 59), (1, .int x1), (2, .int x2), (3, .int x3)] [] I L c
  refine gx_iconst (v := 2) dX11_aloneOf_0 (by decide) ?_
  refine gx_iload_n 1 dX11_aloneOf_1 rfl rfl ?_
  refine gx_imul dX11_aloneOf_2 ?_
  refine gx_iconst (v := 1) dX11_aloneOf_3 (by decide) ?_
  refine gx_iadd dX11_aloneOf_4 ?_
  refine gx_istore (lv' := [(0, .ref 59), (1, .int x1), (2, .int x2), (3, .int x3), (4, .int ((2 * x1) + 1))]) dX11_aloneOf_5 rfl rfl ?_
  refine gx_iconst (v := 0) dX11_aloneOf_7 (by decide) ?_
  refine gx_istore (lv' := [(0, .ref 59), (1, .int x1), (2, .int x2), (3, .int x3), (4, .int ((2 * x1) + 1)), (5, .int 0)]) dX11_aloneOf_8 rfl rfl ?_
  exact h
set_option maxRecDepth 100000 in
theorem r_M_aloneOf_10 {g : gm_G} {Q : Int64 → mI → mL → gm_cfg → Prop} {x1 x2 x3 x4 x5 : Int32} {I : mI} {L : mL} {c : gm_cfg} (h : ((321 ≤ x5 → Z_M_aloneOf g Q 44 [(0, .ref 59), (1, .int x1), (2, .int x2), (3, .int x3), (4, .int x4), (5, .int 0)] [] I L c) ∧ (¬ 321 ≤ x5 → ((x5 = 0 → (vp_in x5 321 ∧ Z_M_aloneOf g Q 10 [(0, .ref 59), (1, .int x1), (2, .int x2), (3, .int x3), (4, .int x4), (5, .int (x5 + 1))] [] I (gm_u L 69 (Int32.toNatClampNeg x5) 1) c)) ∧ (¬ x5 = 0 → (vp_in x5 321 ∧ Z_M_aloneOf g Q 10 [(0, .ref 59), (1, .int x1), (2, .int x2), (3, .int x3), (4, .int x4), (5, .int (x5 + 1))] [] I (gm_u L 69 (Int32.toNatClampNeg x5) 0) c)))))) : Z_M_aloneOf g Q 10 [(0, .ref 59), (1, .int x1), (2, .int x2), (3, .int x3), (4, .int x4), (5, .int x5)] [] I L c := by
  refine gx_iload 5 dX11_aloneOf_10 rfl ?_
  refine gx_sipush (v := 321) dX11_aloneOf_12 (by decide) ?_
  refine gx_icmp_ge 41 dX11_aloneOf_15 (by decide) ⟨fun z => ?_, fun z => ?_⟩
  · replace h := h.1 z
    refine gx_iconst (v := 0) dX11_aloneOf_41 (by decide) ?_
    refine gx_istore (lv' := [(0, .ref 59), (1, .int x1), (2, .int x2), (3, .int x3), (4, .int x4), (5, .int 0)]) dX11_aloneOf_42 rfl rfl ?_
    exact h
  · replace h := h.2 z
    refine gx_aload_n 0 dX11_aloneOf_18 rfl rfl ?_
    refine gx_getr 11 27 (v := 69) dX11_aloneOf_19 fl_X11_46 rfl rfl rfl ?_
    refine gx_iload 5 dX11_aloneOf_22 rfl ?_
    refine gx_iload 5 dX11_aloneOf_24 rfl ?_
    refine gx_if_ne 33 dX11_aloneOf_26 (by decide) ⟨fun z => ?_, fun z => ?_⟩
    · replace h := h.1 z
      refine gx_lconst (v := 1) dX11_aloneOf_29 (by decide) ?_
      refine gx_goto 34 dX11_aloneOf_30 (by decide) ?_
      obtain ⟨hi, h⟩ := h
      refine gx_last dX11_aloneOf_34 rfl rfl hi (k := (Int32.toNatClampNeg x5)) rfl ?_
      show Z_M_aloneOf g Q 35 [(0, .ref 59), (1, .int x1), (2, .int x2), (3, .int x3), (4, .int x4), (5, .int x5)] [] I (gm_u L 69 (Int32.toNatClampNeg x5) 1) c
      refine gx_iinc (v := (x5 + 1)) (lv' := [(0, .ref 59), (1, .int x1), (2, .int x2), (3, .int x3), (4, .int x4), (5, .int (x5 + 1))]) 5 dX11_aloneOf_35 rfl rfl rfl rfl ?_
      refine gx_goto 10 dX11_aloneOf_38 (by decide) ?_
      exact h
    · replace h := h.2 z
      refine gx_lconst (v := 0) dX11_aloneOf_33 (by decide) ?_
      obtain ⟨hi, h⟩ := h
      refine gx_last dX11_aloneOf_34 rfl rfl hi (k := (Int32.toNatClampNeg x5)) rfl ?_
      show Z_M_aloneOf g Q 35 [(0, .ref 59), (1, .int x1), (2, .int x2), (3, .int x3), (4, .int x4), (5, .int x5)] [] I (gm_u L 69 (Int32.toNatClampNeg x5) 0) c
      refine gx_iinc (v := (x5 + 1)) (lv' := [(0, .ref 59), (1, .int x1), (2, .int x2), (3, .int x3), (4, .int x4), (5, .int (x5 + 1))]) 5 dX11_aloneOf_35 rfl rfl rfl rfl ?_
      refine gx_goto 10 dX11_aloneOf_38 (by decide) ?_
      exact h
set_option maxRecDepth 100000 in
theorem r_M_aloneOf_44 {g : gm_G} {Q : Int64 → mI → mL → gm_cfg → Prop} {x1 x2 x3 x4 x5 : Int32} {I : mI} {L : mL} {c : gm_cfg} (h : ((x2 ≤ x5 → Z_M_aloneOf g Q 161 [(0, .ref 59), (1, .int x1), (2, .int x2), (3, .int x3), (4, .int x4), (5, .long 0), (7, .int 0)] [] I L c) ∧ (¬ x2 ≤ x5 → Z_M_aloneOf g Q 53 [(0, .ref 59), (1, .int x1), (2, .int x2), (3, .int x3), (4, .int x4), (5, .int x5), (6, .int 0)] [] I L c))) : Z_M_aloneOf g Q 44 [(0, .ref 59), (1, .int x1), (2, .int x2), (3, .int x3), (4, .int x4), (5, .int x5)] [] I L c := by
  refine gx_iload 5 dX11_aloneOf_44 rfl ?_
  refine gx_iload_n 2 dX11_aloneOf_46 rfl rfl ?_
  refine gx_icmp_ge 155 dX11_aloneOf_47 (by decide) ⟨fun z => ?_, fun z => ?_⟩
  · replace h := h.1 z
    refine gx_lconst (v := 0) dX11_aloneOf_155 (by decide) ?_
    refine gx_lstore (lv' := [(0, .ref 59), (1, .int x1), (2, .int x2), (3, .int x3), (4, .int x4), (5, .long 0)]) dX11_aloneOf_156 rfl rfl ?_
    refine gx_iconst (v := 0) dX11_aloneOf_158 (by decide) ?_
    refine gx_istore (lv' := [(0, .ref 59), (1, .int x1), (2, .int x2), (3, .int x3), (4, .int x4), (5, .long 0), (7, .int 0)]) dX11_aloneOf_159 rfl rfl ?_
    exact h
  · replace h := h.2 z
    refine gx_iconst (v := 0) dX11_aloneOf_50 (by decide) ?_
    refine gx_istore (lv' := [(0, .ref 59), (1, .int x1), (2, .int x2), (3, .int x3), (4, .int x4), (5, .int x5), (6, .int 0)]) dX11_aloneOf_51 rfl rfl ?_
    exact h
set_option maxRecDepth 100000 in
theorem r_M_aloneOf_53 {g : gm_G} {Q : Int64 → mI → mL → gm_cfg → Prop} {x1 x2 x3 x4 x5 x6 : Int32} {I : mI} {L : mL} {c : gm_cfg} (h : ((321 ≤ x6 → Z_M_aloneOf g Q 121 [(0, .ref 59), (1, .int x1), (2, .int x2), (3, .int x3), (4, .int x4), (5, .int x5), (6, .int 0)] [] I L c) ∧ (¬ 321 ≤ x6 → (vp_in x6 321 ∧ Z_M_aloneOf g Q 72 [(0, .ref 59), (1, .int x1), (2, .int x2), (3, .int x3), (4, .int x4), (5, .int x5), (6, .int x6), (7, .int 0)] [] I (gm_u L 70 (Int32.toNatClampNeg x6) 0) c)))) : Z_M_aloneOf g Q 53 [(0, .ref 59), (1, .int x1), (2, .int x2), (3, .int x3), (4, .int x4), (5, .int x5), (6, .int x6)] [] I L c := by
  refine gx_iload 6 dX11_aloneOf_53 rfl ?_
  refine gx_sipush (v := 321) dX11_aloneOf_55 (by decide) ?_
  refine gx_icmp_ge 118 dX11_aloneOf_58 (by decide) ⟨fun z => ?_, fun z => ?_⟩
  · replace h := h.1 z
    refine gx_iconst (v := 0) dX11_aloneOf_118 (by decide) ?_
    refine gx_istore (lv' := [(0, .ref 59), (1, .int x1), (2, .int x2), (3, .int x3), (4, .int x4), (5, .int x5), (6, .int 0)]) dX11_aloneOf_119 rfl rfl ?_
    exact h
  · replace h := h.2 z
    refine gx_aload_n 0 dX11_aloneOf_61 rfl rfl ?_
    refine gx_getr 11 28 (v := 70) dX11_aloneOf_62 fl_X11_49 rfl rfl rfl ?_
    refine gx_iload 6 dX11_aloneOf_65 rfl ?_
    refine gx_lconst (v := 0) dX11_aloneOf_67 (by decide) ?_
    obtain ⟨hi, h⟩ := h
    refine gx_last dX11_aloneOf_68 rfl rfl hi (k := (Int32.toNatClampNeg x6)) rfl ?_
    show Z_M_aloneOf g Q 69 [(0, .ref 59), (1, .int x1), (2, .int x2), (3, .int x3), (4, .int x4), (5, .int x5), (6, .int x6)] [] I (gm_u L 70 (Int32.toNatClampNeg x6) 0) c
    refine gx_iconst (v := 0) dX11_aloneOf_69 (by decide) ?_
    refine gx_istore (lv' := [(0, .ref 59), (1, .int x1), (2, .int x2), (3, .int x3), (4, .int x4), (5, .int x5), (6, .int x6), (7, .int 0)]) dX11_aloneOf_70 rfl rfl ?_
    exact h
set_option maxRecDepth 100000 in
theorem r_M_aloneOf_72 {g : gm_G} {Q : Int64 → mI → mL → gm_cfg → Prop} {x1 x2 x3 x4 x5 x6 x7 : Int32} {I : mI} {L : mL} {c : gm_cfg} (h : ((x4 ≤ x7 → Z_M_aloneOf g Q 53 [(0, .ref 59), (1, .int x1), (2, .int x2), (3, .int x3), (4, .int x4), (5, .int x5), (6, .int (x6 + 1))] [] I L c) ∧ (¬ x4 ≤ x7 → ((x6 < x7 → Z_M_aloneOf g Q 53 [(0, .ref 59), (1, .int x1), (2, .int x2), (3, .int x3), (4, .int x4), (5, .int x5), (6, .int (x6 + 1))] [] I L c) ∧ (¬ x6 < x7 → (vp_in x6 321 ∧ (vp_in (x6 - x7) 321 ∧ (vp_in x6 321 ∧ Z_M_aloneOf g Q 72 [(0, .ref 59), (1, .int x1), (2, .int x2), (3, .int x3), (4, .int x4), (5, .int x5), (6, .int x6), (7, .int (x7 + 1))] [] I (gm_u L 70 (Int32.toNatClampNeg x6) ((L 70 (Int32.toNatClampNeg x6)) + (L 69 (Int32.toNatClampNeg (x6 - x7))))) c)))))))) : Z_M_aloneOf g Q 72 [(0, .ref 59), (1, .int x1), (2, .int x2), (3, .int x3), (4, .int x4), (5, .int x5), (6, .int x6), (7, .int x7)] [] I L c := by
  refine gx_iload 7 dX11_aloneOf_72 rfl ?_
  refine gx_iload 4 dX11_aloneOf_74 rfl ?_
  refine gx_icmp_ge 112 dX11_aloneOf_76 (by decide) ⟨fun z => ?_, fun z => ?_⟩
  · replace h := h.1 z
    refine gx_iinc (v := (x6 + 1)) (lv' := [(0, .ref 59), (1, .int x1), (2, .int x2), (3, .int x3), (4, .int x4), (5, .int x5), (6, .int (x6 + 1)), (7, .int x7)]) 6 dX11_aloneOf_112 rfl rfl rfl rfl ?_
    refine gx_goto 53 dX11_aloneOf_115 (by decide) ?_
    refine gx_sub [0, 1, 2, 3, 4, 5, 6] (lv' := [(0, .ref 59), (1, .int x1), (2, .int x2), (3, .int x3), (4, .int x4), (5, .int x5), (6, .int (x6 + 1))]) rfl ?_
    exact h
  · replace h := h.2 z
    refine gx_iload 7 dX11_aloneOf_79 rfl ?_
    refine gx_iload 6 dX11_aloneOf_81 rfl ?_
    refine gx_icmp_gt 112 dX11_aloneOf_83 (by decide) ⟨fun z => ?_, fun z => ?_⟩
    · replace h := h.1 z
      refine gx_iinc (v := (x6 + 1)) (lv' := [(0, .ref 59), (1, .int x1), (2, .int x2), (3, .int x3), (4, .int x4), (5, .int x5), (6, .int (x6 + 1)), (7, .int x7)]) 6 dX11_aloneOf_112 rfl rfl rfl rfl ?_
      refine gx_goto 53 dX11_aloneOf_115 (by decide) ?_
      refine gx_sub [0, 1, 2, 3, 4, 5, 6] (lv' := [(0, .ref 59), (1, .int x1), (2, .int x2), (3, .int x3), (4, .int x4), (5, .int x5), (6, .int (x6 + 1))]) rfl ?_
      exact h
    · replace h := h.2 z
      refine gx_aload_n 0 dX11_aloneOf_86 rfl rfl ?_
      refine gx_getr 11 28 (v := 70) dX11_aloneOf_87 fl_X11_49 rfl rfl rfl ?_
      refine gx_iload 6 dX11_aloneOf_90 rfl ?_
      refine gx_dup2 dX11_aloneOf_92 rfl rfl ?_
      obtain ⟨hi, h⟩ := h
      refine gx_lald (v := (L 70 (Int32.toNatClampNeg x6))) dX11_aloneOf_93 rfl rfl hi (k := (Int32.toNatClampNeg x6)) rfl rfl ?_
      refine gx_aload_n 0 dX11_aloneOf_94 rfl rfl ?_
      refine gx_getr 11 27 (v := 69) dX11_aloneOf_95 fl_X11_46 rfl rfl rfl ?_
      refine gx_iload 6 dX11_aloneOf_98 rfl ?_
      refine gx_iload 7 dX11_aloneOf_100 rfl ?_
      refine gx_isub dX11_aloneOf_102 ?_
      obtain ⟨hi, h⟩ := h
      refine gx_lald (v := (L 69 (Int32.toNatClampNeg (x6 - x7)))) dX11_aloneOf_103 rfl rfl hi (k := (Int32.toNatClampNeg (x6 - x7))) rfl rfl ?_
      refine gx_ladd dX11_aloneOf_104 ?_
      obtain ⟨hi, h⟩ := h
      refine gx_last dX11_aloneOf_105 rfl rfl hi (k := (Int32.toNatClampNeg x6)) rfl ?_
      show Z_M_aloneOf g Q 106 [(0, .ref 59), (1, .int x1), (2, .int x2), (3, .int x3), (4, .int x4), (5, .int x5), (6, .int x6), (7, .int x7)] [] I (gm_u L 70 (Int32.toNatClampNeg x6) ((L 70 (Int32.toNatClampNeg x6)) + (L 69 (Int32.toNatClampNeg (x6 - x7))))) c
      refine gx_iinc (v := (x7 + 1)) (lv' := [(0, .ref 59), (1, .int x1), (2, .int x2), (3, .int x3), (4, .int x4), (5, .int x5), (6, .int x6), (7, .int (x7 + 1))]) 7 dX11_aloneOf_106 rfl rfl rfl rfl ?_
      refine gx_goto 72 dX11_aloneOf_109 (by decide) ?_
      exact h
set_option maxRecDepth 100000 in
theorem r_M_aloneOf_121 {g : gm_G} {Q : Int64 → mI → mL → gm_cfg → Prop} {x1 x2 x3 x4 x5 x6 : Int32} {I : mI} {L : mL} {c : gm_cfg} (h : ((321 ≤ x6 → Z_M_aloneOf g Q 44 [(0, .ref 59), (1, .int x1), (2, .int x2), (3, .int x3), (4, .int x4), (5, .int (x5 + 1))] [] I L c) ∧ (¬ 321 ≤ x6 → (vp_in x6 321 ∧ (vp_in x6 321 ∧ Z_M_aloneOf g Q 121 [(0, .ref 59), (1, .int x1), (2, .int x2), (3, .int x3), (4, .int x4), (5, .int x5), (6, .int (x6 + 1))] [] I (gm_u L 69 (Int32.toNatClampNeg x6) (L 70 (Int32.toNatClampNeg x6))) c))))) : Z_M_aloneOf g Q 121 [(0, .ref 59), (1, .int x1), (2, .int x2), (3, .int x3), (4, .int x4), (5, .int x5), (6, .int x6)] [] I L c := by
  refine gx_iload 6 dX11_aloneOf_121 rfl ?_
  refine gx_sipush (v := 321) dX11_aloneOf_123 (by decide) ?_
  refine gx_icmp_ge 149 dX11_aloneOf_126 (by decide) ⟨fun z => ?_, fun z => ?_⟩
  · replace h := h.1 z
    refine gx_iinc (v := (x5 + 1)) (lv' := [(0, .ref 59), (1, .int x1), (2, .int x2), (3, .int x3), (4, .int x4), (5, .int (x5 + 1)), (6, .int x6)]) 5 dX11_aloneOf_149 rfl rfl rfl rfl ?_
    refine gx_goto 44 dX11_aloneOf_152 (by decide) ?_
    refine gx_sub [0, 1, 2, 3, 4, 5] (lv' := [(0, .ref 59), (1, .int x1), (2, .int x2), (3, .int x3), (4, .int x4), (5, .int (x5 + 1))]) rfl ?_
    exact h
  · replace h := h.2 z
    refine gx_aload_n 0 dX11_aloneOf_129 rfl rfl ?_
    refine gx_getr 11 27 (v := 69) dX11_aloneOf_130 fl_X11_46 rfl rfl rfl ?_
    refine gx_iload 6 dX11_aloneOf_133 rfl ?_
    refine gx_aload_n 0 dX11_aloneOf_135 rfl rfl ?_
    refine gx_getr 11 28 (v := 70) dX11_aloneOf_136 fl_X11_49 rfl rfl rfl ?_
    refine gx_iload 6 dX11_aloneOf_139 rfl ?_
    obtain ⟨hi, h⟩ := h
    refine gx_lald (v := (L 70 (Int32.toNatClampNeg x6))) dX11_aloneOf_141 rfl rfl hi (k := (Int32.toNatClampNeg x6)) rfl rfl ?_
    obtain ⟨hi, h⟩ := h
    refine gx_last dX11_aloneOf_142 rfl rfl hi (k := (Int32.toNatClampNeg x6)) rfl ?_
    show Z_M_aloneOf g Q 143 [(0, .ref 59), (1, .int x1), (2, .int x2), (3, .int x3), (4, .int x4), (5, .int x5), (6, .int x6)] [] I (gm_u L 69 (Int32.toNatClampNeg x6) (L 70 (Int32.toNatClampNeg x6))) c
    refine gx_iinc (v := (x6 + 1)) (lv' := [(0, .ref 59), (1, .int x1), (2, .int x2), (3, .int x3), (4, .int x4), (5, .int x5), (6, .int (x6 + 1))]) 6 dX11_aloneOf_143 rfl rfl rfl rfl ?_
    refine gx_goto 121 dX11_aloneOf_146 (by decide) ?_
    exact h
set_option maxRecDepth 100000 in
theorem r_M_aloneOf_161 {g : gm_G} {Q : Int64 → mI → mL → gm_cfg → Prop} {x1 x2 x3 x4 x7 : Int32} {x5 : Int64} {I : mI} {L : mL} {c : gm_cfg} (h : ((321 ≤ x7 → Q x5 I L c) ∧ (¬ 321 ≤ x7 → (C_M_off g x7 (x2 * x1) I L c (fun r4 I1 L2 c3 => (((x2 * x3) < r4 → Z_M_aloneOf g Q 161 [(0, .ref 59), (1, .int x1), (2, .int x2), (3, .int x3), (4, .int x4), (5, .long (x5 + 0)), (7, .int (x7 + 1))] [] I1 L2 c3) ∧ (¬ (x2 * x3) < r4 → (vp_in x7 321 ∧ Z_M_aloneOf g Q 161 [(0, .ref 59), (1, .int x1), (2, .int x2), (3, .int x3), (4, .int x4), (5, .long (x5 + (L2 69 (Int32.toNatClampNeg x7)))), (7, .int (x7 + 1))] [] I1 L2 c3)))))))) : Z_M_aloneOf g Q 161 [(0, .ref 59), (1, .int x1), (2, .int x2), (3, .int x3), (4, .int x4), (5, .long x5), (7, .int x7)] [] I L c := by
  refine gx_iload 6 dX11_aloneOf_161 rfl ?_
  refine gx_sipush (v := 321) dX11_aloneOf_163 (by decide) ?_
  refine gx_icmp_ge 205 dX11_aloneOf_166 (by decide) ⟨fun z => ?_, fun z => ?_⟩
  · replace h := h.1 z
    refine gx_lload 5 dX11_aloneOf_205 rfl ?_
    exact gx_lret dX11_aloneOf_207 rfl rfl rfl ⟨_, _, _, _, rfl, rfl, h⟩
  · replace h := h.2 z
    refine gx_lload 5 dX11_aloneOf_169 rfl ?_
    refine gx_iload 6 dX11_aloneOf_171 rfl ?_
    refine gx_iload_n 2 dX11_aloneOf_173 rfl rfl ?_
    refine gx_iload_n 1 dX11_aloneOf_174 rfl rfl ?_
    refine gx_imul dX11_aloneOf_175 ?_
    refine gx_callS (As := [.int x7, .int (x2 * x1)]) (st := [.long x5]) dX11_aloneOf_176 ml_X11_162 mm_X11_off rfl rfl rfl rfl ⟨rfl, rfl⟩ h (fun v h2 hq => ?_)
    clear h
    obtain ⟨r4, I1, L2, c3, rfl, rfl, h⟩ := hq
    show Z_M_aloneOf g Q 179 [(0, .ref 59), (1, .int x1), (2, .int x2), (3, .int x3), (4, .int x4), (5, .long x5), (7, .int x7)] [.int r4, .long x5] I1 L2 c3
    refine gx_iload_n 2 dX11_aloneOf_179 rfl rfl ?_
    refine gx_iload_n 3 dX11_aloneOf_180 rfl rfl ?_
    refine gx_imul dX11_aloneOf_181 ?_
    refine gx_icmp_gt 195 dX11_aloneOf_182 (by decide) ⟨fun z => ?_, fun z => ?_⟩
    · replace h := h.1 z
      refine gx_lconst (v := 0) dX11_aloneOf_195 (by decide) ?_
      refine gx_ladd dX11_aloneOf_196 ?_
      refine gx_lstore (lv' := [(0, .ref 59), (1, .int x1), (2, .int x2), (3, .int x3), (4, .int x4), (5, .long (x5 + 0)), (7, .int x7)]) dX11_aloneOf_197 rfl rfl ?_
      refine gx_iinc (v := (x7 + 1)) (lv' := [(0, .ref 59), (1, .int x1), (2, .int x2), (3, .int x3), (4, .int x4), (5, .long (x5 + 0)), (7, .int (x7 + 1))]) 6 dX11_aloneOf_199 rfl rfl rfl rfl ?_
      refine gx_goto 161 dX11_aloneOf_202 (by decide) ?_
      exact h
    · replace h := h.2 z
      refine gx_aload_n 0 dX11_aloneOf_185 rfl rfl ?_
      refine gx_getr 11 27 (v := 69) dX11_aloneOf_186 fl_X11_46 rfl rfl rfl ?_
      refine gx_iload 6 dX11_aloneOf_189 rfl ?_
      obtain ⟨hi, h⟩ := h
      refine gx_lald (v := (L2 69 (Int32.toNatClampNeg x7))) dX11_aloneOf_191 rfl rfl hi (k := (Int32.toNatClampNeg x7)) rfl rfl ?_
      refine gx_goto 196 dX11_aloneOf_192 (by decide) ?_
      refine gx_ladd dX11_aloneOf_196 ?_
      refine gx_lstore (lv' := [(0, .ref 59), (1, .int x1), (2, .int x2), (3, .int x3), (4, .int x4), (5, .long (x5 + (L2 69 (Int32.toNatClampNeg x7)))), (7, .int x7)]) dX11_aloneOf_197 rfl rfl ?_
      refine gx_iinc (v := (x7 + 1)) (lv' := [(0, .ref 59), (1, .int x1), (2, .int x2), (3, .int x3), (4, .int x4), (5, .long (x5 + (L2 69 (Int32.toNatClampNeg x7)))), (7, .int (x7 + 1))]) 6 dX11_aloneOf_199 rfl rfl rfl rfl ?_
      refine gx_goto 161 dX11_aloneOf_202 (by decide) ?_
      exact h
abbrev Z_M_alone (g : gm_G) (Q : Int64 → mI → mL → gm_cfg → Prop) (pc : Nat) (lv : List (Nat × Value)) (st : List Value) (I : mI) (L : mL) (c : gm_cfg) : Prop := gm_X g RX11 "alone" cX11_alone 4 (some .long) 3 0 0 (qL Q) 0 0 pc lv st (SH, I, L, RR c)
abbrev C_M_alone (g : gm_G) (x1 : Int32) (x2 : Int32) (x3 : Int32) (I : mI) (L : mL) (c : gm_cfg) (Q : Int64 → mI → mL → gm_cfg → Prop) : Prop := gm_Met g yX11_alone cX11_alone 4 (some .long) 3 0 0 [.ref 59, .int x1, .int x2, .int x3] (SH, I, L, RR c) (qL Q)
set_option maxRecDepth 100000 in
theorem e_M_alone {g : gm_G} {Q : Int64 → mI → mL → gm_cfg → Prop} {x1 x2 x3 : Int32} {I : mI} {L : mL} {c : gm_cfg} (h : (C_M_isGuesser g (Int32.toInt64 x1) (gm_u I 59 0 0) L c (fun b4 I1 L2 c3 => ((b4 = false → Q (-2) I1 L2 c3) ∧ (b4 = true → (C_M_within g (Int32.toInt64 x2) 1 8 I1 L2 c3 (fun b8 I5 L6 c7 => ((b8 = false → Q (-3) I5 L6 c7) ∧ (b8 = true → (C_M_within g (Int32.toInt64 x3) 0 20 I5 L6 c7 (fun b12 I9 L10 c11 => ((b12 = false → Q (-3) I9 L10 c11) ∧ (b12 = true → (vp_in (17 + x1) 330 ∧ (C_M_aloneOf g (I9 60 (Int32.toNatClampNeg (17 + x1))) x2 x3 I9 L10 c11 (fun r16 I13 L14 c15 => Q r16 I13 L14 c15)))))))))))))))) : C_M_alone g x1 x2 x3 I L c Q := by
  refine gm_enter (lv := [(0, .ref 59), (1, .int x1), (2, .int x2), (3, .int x3)]) (by decide) rfl rfl rfl rfl ?_
  show Z_M_alone g Q 0 [(0, .ref 59), (1, .int x1), (2, .int x2), (3, .int x3)] [] I L c
  refine gx_aload_n 0 dX11_alone_0 rfl rfl ?_
  refine gx_iconst (v := 0) dX11_alone_1 (by decide) ?_
  refine gx_puti 11 0 dX11_alone_2 fl_X11_1 rfl rfl rfl ⟨rfl, rfl⟩ ?_
  show Z_M_alone g Q 5 [(0, .ref 59), (1, .int x1), (2, .int x2), (3, .int x3)] [] (gm_u I 59 0 0) L c
  refine gx_aload_n 0 dX11_alone_5 rfl rfl ?_
  refine gx_iload_n 1 dX11_alone_6 rfl rfl ?_
  refine gx_i2l dX11_alone_7 ?_
  refine gx_callV 11 (As := [.long (Int32.toInt64 x1)]) (st := []) dX11_alone_8 ml_X11_145 mm_X11_isGuesser rfl rfl rfl rfl rfl rfl ⟨rfl, rfl⟩ h (fun v h2 hq => ?_)
  clear h
  obtain ⟨b4, I1, L2, c3, rfl, rfl, h⟩ := hq
  show Z_M_alone g Q 11 [(0, .ref 59), (1, .int x1), (2, .int x2), (3, .int x3)] [.int (gm_b b4)] I1 L2 c3
  refine gx_if_ne 18 dX11_alone_11 (by decide) ⟨fun z => ?_, fun z => ?_⟩
  · replace h := h.1 (gm_b0.mp z)
    refine gx_ldc2 dX11_alone_14 kl_X11_255 ?_
    exact gx_lret dX11_alone_17 rfl rfl rfl ⟨_, _, _, _, rfl, rfl, h⟩
  · replace h := h.2 (gm_bn0 z)
    refine gx_iload_n 2 dX11_alone_18 rfl rfl ?_
    refine gx_i2l dX11_alone_19 ?_
    refine gx_lconst (v := 1) dX11_alone_20 (by decide) ?_
    refine gx_ldc2 dX11_alone_21 kl_X11_310 ?_
    refine gx_callS (As := [.long (Int32.toInt64 x2), .long 1, .long 8]) (st := []) dX11_alone_24 ml_X11_125 mm_X11_within rfl rfl rfl rfl ⟨rfl, rfl⟩ h (fun v h2 hq => ?_)
    clear h
    obtain ⟨b8, I5, L6, c7, rfl, rfl, h⟩ := hq
    show Z_M_alone g Q 27 [(0, .ref 59), (1, .int x1), (2, .int x2), (3, .int x3)] [.int (gm_b b8)] I5 L6 c7
    refine gx_if_eq 60 dX11_alone_27 (by decide) ⟨fun z => ?_, fun z => ?_⟩
    · replace h := h.1 (gm_b0.mp z)
      refine gx_ldc2 dX11_alone_60 kl_X11_250 ?_
      exact gx_lret dX11_alone_63 rfl rfl rfl ⟨_, _, _, _, rfl, rfl, h⟩
    · replace h := h.2 (gm_bn0 z)
      refine gx_iload_n 3 dX11_alone_30 rfl rfl ?_
      refine gx_i2l dX11_alone_31 ?_
      refine gx_lconst (v := 0) dX11_alone_32 (by decide) ?_
      refine gx_ldc2 dX11_alone_33 kl_X11_312 ?_
      refine gx_callS (As := [.long (Int32.toInt64 x3), .long 0, .long 20]) (st := []) dX11_alone_36 ml_X11_125 mm_X11_within rfl rfl rfl rfl ⟨rfl, rfl⟩ h (fun v h2 hq => ?_)
      clear h
      obtain ⟨b12, I9, L10, c11, rfl, rfl, h⟩ := hq
      show Z_M_alone g Q 39 [(0, .ref 59), (1, .int x1), (2, .int x2), (3, .int x3)] [.int (gm_b b12)] I9 L10 c11
      refine gx_if_eq 60 dX11_alone_39 (by decide) ⟨fun z => ?_, fun z => ?_⟩
      · replace h := h.1 (gm_b0.mp z)
        refine gx_ldc2 dX11_alone_60 kl_X11_250 ?_
        exact gx_lret dX11_alone_63 rfl rfl rfl ⟨_, _, _, _, rfl, rfl, h⟩
      · replace h := h.2 (gm_bn0 z)
        refine gx_aload_n 0 dX11_alone_42 rfl rfl ?_
        refine gx_aload_n 0 dX11_alone_43 rfl rfl ?_
        refine gx_getr 11 1 (v := 60) dX11_alone_44 fl_X11_13 rfl rfl rfl ?_
        refine gx_bipush (v := 17) dX11_alone_47 (by decide) ?_
        refine gx_iload_n 1 dX11_alone_49 rfl rfl ?_
        refine gx_iadd dX11_alone_50 ?_
        obtain ⟨hi, h⟩ := h
        refine gx_iald (v := (I9 60 (Int32.toNatClampNeg (17 + x1)))) dX11_alone_51 rfl rfl hi (k := (Int32.toNatClampNeg (17 + x1))) rfl rfl ?_
        refine gx_iload_n 2 dX11_alone_52 rfl rfl ?_
        refine gx_iload_n 3 dX11_alone_53 rfl rfl ?_
        refine gx_callV 11 (As := [.int (I9 60 (Int32.toNatClampNeg (17 + x1))), .int x2, .int x3]) (st := []) dX11_alone_54 ml_X11_314 mm_X11_aloneOf rfl rfl rfl rfl rfl rfl ⟨rfl, rfl⟩ h (fun v h2 hq => ?_)
        clear h
        obtain ⟨r16, I13, L14, c15, rfl, rfl, h⟩ := hq
        show Z_M_alone g Q 57 [(0, .ref 59), (1, .int x1), (2, .int x2), (3, .int x3)] [.long r16] I13 L14 c15
        refine gx_goto 63 dX11_alone_57 (by decide) ?_
        exact gx_lret dX11_alone_63 rfl rfl rfl ⟨_, _, _, _, rfl, rfl, h⟩
abbrev Z_M_fewest (g : gm_G) (Q : Int32 → mI → mL → gm_cfg → Prop) (pc : Nat) (lv : List (Nat × Value)) (st : List Value) (I : mI) (L : mL) (c : gm_cfg) : Prop := gm_X g RX11 "fewest" cX11_fewest 7 (some .int) 3 0 0 (qI Q) 0 0 pc lv st (SH, I, L, RR c)
abbrev C_M_fewest (g : gm_G) (x1 : Int32) (x2 : Int32) (x3 : Int32) (I : mI) (L : mL) (c : gm_cfg) (Q : Int32 → mI → mL → gm_cfg → Prop) : Prop := gm_Met g yX11_fewest cX11_fewest 7 (some .int) 3 0 0 [.ref 59, .int x1, .int x2, .int x3] (SH, I, L, RR c) (qI Q)
set_option maxRecDepth 100000 in
theorem e_M_fewest {g : gm_G} {Q : Int32 → mI → mL → gm_cfg → Prop} {x1 x2 x3 : Int32} {I : mI} {L : mL} {c : gm_cfg} (h : (C_M_isGuesser g (Int32.toInt64 x1) (gm_u I 59 0 0) L c (fun b4 I1 L2 c3 => ((b4 = false → Q (-2) I1 L2 c3) ∧ (b4 = true → (C_M_within g (Int32.toInt64 x2) 0 20 I1 L2 c3 (fun b8 I5 L6 c7 => ((b8 = false → Q (-3) I5 L6 c7) ∧ (b8 = true → (C_M_within g (Int32.toInt64 x3) 0 100 I5 L6 c7 (fun b12 I9 L10 c11 => ((b12 = false → Q (-3) I9 L10 c11) ∧ (b12 = true → Z_M_fewest g Q 50 [(0, .ref 59), (1, .int x1), (2, .int x2), (3, .int x3), (4, .long 1), (6, .int 1)] [] I9 L10 c11))))))))))))) : C_M_fewest g x1 x2 x3 I L c Q := by
  refine gm_enter (lv := [(0, .ref 59), (1, .int x1), (2, .int x2), (3, .int x3)]) (by decide) rfl rfl rfl rfl ?_
  show Z_M_fewest g Q 0 [(0, .ref 59), (1, .int x1), (2, .int x2), (3, .int x3)] [] I L c
  refine gx_aload_n 0 dX11_fewest_0 rfl rfl ?_
  refine gx_iconst (v := 0) dX11_fewest_1 (by decide) ?_
  refine gx_puti 11 0 dX11_fewest_2 fl_X11_1 rfl rfl rfl ⟨rfl, rfl⟩ ?_
  show Z_M_fewest g Q 5 [(0, .ref 59), (1, .int x1), (2, .int x2), (3, .int x3)] [] (gm_u I 59 0 0) L c
  refine gx_aload_n 0 dX11_fewest_5 rfl rfl ?_
  refine gx_iload_n 1 dX11_fewest_6 rfl rfl ?_
  refine gx_i2l dX11_fewest_7 ?_
  refine gx_callV 11 (As := [.long (Int32.toInt64 x1)]) (st := []) dX11_fewest_8 ml_X11_145 mm_X11_isGuesser rfl rfl rfl rfl rfl rfl ⟨rfl, rfl⟩ h (fun v h2 hq => ?_)
  clear h
  obtain ⟨b4, I1, L2, c3, rfl, rfl, h⟩ := hq
  show Z_M_fewest g Q 11 [(0, .ref 59), (1, .int x1), (2, .int x2), (3, .int x3)] [.int (gm_b b4)] I1 L2 c3
  refine gx_if_ne 17 dX11_fewest_11 (by decide) ⟨fun z => ?_, fun z => ?_⟩
  · replace h := h.1 (gm_b0.mp z)
    refine gx_bipush (v := (-2)) dX11_fewest_14 (by decide) ?_
    exact gx_iret dX11_fewest_16 rfl rfl rfl ⟨_, _, _, _, rfl, rfl, h⟩
  · replace h := h.2 (gm_bn0 z)
    refine gx_iload_n 2 dX11_fewest_17 rfl rfl ?_
    refine gx_i2l dX11_fewest_18 ?_
    refine gx_lconst (v := 0) dX11_fewest_19 (by decide) ?_
    refine gx_ldc2 dX11_fewest_20 kl_X11_312 ?_
    refine gx_callS (As := [.long (Int32.toInt64 x2), .long 0, .long 20]) (st := []) dX11_fewest_23 ml_X11_125 mm_X11_within rfl rfl rfl rfl ⟨rfl, rfl⟩ h (fun v h2 hq => ?_)
    clear h
    obtain ⟨b8, I5, L6, c7, rfl, rfl, h⟩ := hq
    show Z_M_fewest g Q 26 [(0, .ref 59), (1, .int x1), (2, .int x2), (3, .int x3)] [.int (gm_b b8)] I5 L6 c7
    refine gx_if_eq 41 dX11_fewest_26 (by decide) ⟨fun z => ?_, fun z => ?_⟩
    · replace h := h.1 (gm_b0.mp z)
      refine gx_bipush (v := (-3)) dX11_fewest_41 (by decide) ?_
      exact gx_iret dX11_fewest_43 rfl rfl rfl ⟨_, _, _, _, rfl, rfl, h⟩
    · replace h := h.2 (gm_bn0 z)
      refine gx_iload_n 3 dX11_fewest_29 rfl rfl ?_
      refine gx_i2l dX11_fewest_30 ?_
      refine gx_lconst (v := 0) dX11_fewest_31 (by decide) ?_
      refine gx_ldc2 dX11_fewest_32 kl_X11_317 ?_
      refine gx_callS (As := [.long (Int32.toInt64 x3), .long 0, .long 100]) (st := []) dX11_fewest_35 ml_X11_125 mm_X11_within rfl rfl rfl rfl ⟨rfl, rfl⟩ h (fun v h2 hq => ?_)
      clear h
      obtain ⟨b12, I9, L10, c11, rfl, rfl, h⟩ := hq
      show Z_M_fewest g Q 38 [(0, .ref 59), (1, .int x1), (2, .int x2), (3, .int x3)] [.int (gm_b b12)] I9 L10 c11
      refine gx_if_ne 44 dX11_fewest_38 (by decide) ⟨fun z => ?_, fun z => ?_⟩
      · replace h := h.1 (gm_b0.mp z)
        refine gx_bipush (v := (-3)) dX11_fewest_41 (by decide) ?_
        exact gx_iret dX11_fewest_43 rfl rfl rfl ⟨_, _, _, _, rfl, rfl, h⟩
      · replace h := h.2 (gm_bn0 z)
        refine gx_lconst (v := 1) dX11_fewest_44 (by decide) ?_
        refine gx_lstore (lv' := [(0, .ref 59), (1, .int x1), (2, .int x2), (3, .int x3), (4, .long 1)]) dX11_fewest_45 rfl rfl ?_
        refine gx_iconst (v := 1) dX11_fewest_47 (by decide) ?_
        refine gx_istore (lv' := [(0, .ref 59), (1, .int x1), (2, .int x2), (3, .int x3), (4, .long 1), (6, .int 1)]) dX11_fewest_48 rfl rfl ?_
        exact h
set_option maxRecDepth 100000 in
theorem r_M_fewest_50 {g : gm_G} {Q : Int32 → mI → mL → gm_cfg → Prop} {x1 x2 x3 x6 : Int32} {x4 : Int64} {I : mI} {L : mL} {c : gm_cfg} (h : ((9 ≤ x6 → Q (-1) I L c) ∧ (¬ 9 ≤ x6 → (vp_in (17 + x1) 330 ∧ (vp_in (17 + x1) 330 ∧ (C_M_aloneOf g (I 60 (Int32.toNatClampNeg (17 + x1))) x6 x2 I L c (fun r4 I1 L2 c3 => (((100 * r4) < ((Int32.toInt64 x3) * (x4 * (Int32.toInt64 ((2 * (I 60 (Int32.toNatClampNeg (17 + x1)))) + 1)))) → Z_M_fewest g Q 50 [(0, .ref 59), (1, .int x1), (2, .int x2), (3, .int x3), (4, .long (x4 * (Int32.toInt64 ((2 * (I 60 (Int32.toNatClampNeg (17 + x1)))) + 1)))), (6, .int (x6 + 1))] [] I1 L2 c3) ∧ (¬ (100 * r4) < ((Int32.toInt64 x3) * (x4 * (Int32.toInt64 ((2 * (I 60 (Int32.toNatClampNeg (17 + x1)))) + 1)))) → Q x6 I1 L2 c3))))))))) : Z_M_fewest g Q 50 [(0, .ref 59), (1, .int x1), (2, .int x2), (3, .int x3), (4, .long x4), (6, .int x6)] [] I L c := by
  refine gx_iload 5 dX11_fewest_50 rfl ?_
  refine gx_bipush (v := 9) dX11_fewest_52 (by decide) ?_
  refine gx_icmp_ge 114 dX11_fewest_54 (by decide) ⟨fun z => ?_, fun z => ?_⟩
  · replace h := h.1 z
    refine gx_iconst (v := (-1)) dX11_fewest_114 (by decide) ?_
    exact gx_iret dX11_fewest_115 rfl rfl rfl ⟨_, _, _, _, rfl, rfl, h⟩
  · replace h := h.2 z
    refine gx_lload 4 dX11_fewest_57 rfl ?_
    refine gx_iconst (v := 2) dX11_fewest_59 (by decide) ?_
    refine gx_aload_n 0 dX11_fewest_60 rfl rfl ?_
    refine gx_getr 11 1 (v := 60) dX11_fewest_61 fl_X11_13 rfl rfl rfl ?_
    refine gx_bipush (v := 17) dX11_fewest_64 (by decide) ?_
    refine gx_iload_n 1 dX11_fewest_66 rfl rfl ?_
    refine gx_iadd dX11_fewest_67 ?_
    obtain ⟨hi, h⟩ := h
    refine gx_iald (v := (I 60 (Int32.toNatClampNeg (17 + x1)))) dX11_fewest_68 rfl rfl hi (k := (Int32.toNatClampNeg (17 + x1))) rfl rfl ?_
    refine gx_imul dX11_fewest_69 ?_
    refine gx_iconst (v := 1) dX11_fewest_70 (by decide) ?_
    refine gx_iadd dX11_fewest_71 ?_
    refine gx_i2l dX11_fewest_72 ?_
    refine gx_lmul dX11_fewest_73 ?_
    refine gx_lstore (lv' := [(0, .ref 59), (1, .int x1), (2, .int x2), (3, .int x3), (4, .long (x4 * (Int32.toInt64 ((2 * (I 60 (Int32.toNatClampNeg (17 + x1)))) + 1)))), (6, .int x6)]) dX11_fewest_74 rfl rfl ?_
    refine gx_ldc2 dX11_fewest_76 kl_X11_317 ?_
    refine gx_aload_n 0 dX11_fewest_79 rfl rfl ?_
    refine gx_aload_n 0 dX11_fewest_80 rfl rfl ?_
    refine gx_getr 11 1 (v := 60) dX11_fewest_81 fl_X11_13 rfl rfl rfl ?_
    refine gx_bipush (v := 17) dX11_fewest_84 (by decide) ?_
    refine gx_iload_n 1 dX11_fewest_86 rfl rfl ?_
    refine gx_iadd dX11_fewest_87 ?_
    obtain ⟨hi, h⟩ := h
    refine gx_iald (v := (I 60 (Int32.toNatClampNeg (17 + x1)))) dX11_fewest_88 rfl rfl hi (k := (Int32.toNatClampNeg (17 + x1))) rfl rfl ?_
    refine gx_iload 5 dX11_fewest_89 rfl ?_
    refine gx_iload_n 2 dX11_fewest_91 rfl rfl ?_
    refine gx_callV 11 (As := [.int (I 60 (Int32.toNatClampNeg (17 + x1))), .int x6, .int x2]) (st := [.long 100]) dX11_fewest_92 ml_X11_314 mm_X11_aloneOf rfl rfl rfl rfl rfl rfl ⟨rfl, rfl⟩ h (fun v h2 hq => ?_)
    clear h
    obtain ⟨r4, I1, L2, c3, rfl, rfl, h⟩ := hq
    show Z_M_fewest g Q 95 [(0, .ref 59), (1, .int x1), (2, .int x2), (3, .int x3), (4, .long (x4 * (Int32.toInt64 ((2 * (I 60 (Int32.toNatClampNeg (17 + x1)))) + 1)))), (6, .int x6)] [.long r4, .long 100] I1 L2 c3
    refine gx_lmul dX11_fewest_95 ?_
    refine gx_iload_n 3 dX11_fewest_96 rfl rfl ?_
    refine gx_i2l dX11_fewest_97 ?_
    refine gx_lload 4 dX11_fewest_98 rfl ?_
    refine gx_lmul dX11_fewest_100 ?_
    refine gx_lcmp_lt 108 dX11_fewest_101 dX11_fewest_102 (by decide) ⟨fun z => ?_, fun z => ?_⟩
    · replace h := h.1 z
      refine gx_iinc (v := (x6 + 1)) (lv' := [(0, .ref 59), (1, .int x1), (2, .int x2), (3, .int x3), (4, .long (x4 * (Int32.toInt64 ((2 * (I 60 (Int32.toNatClampNeg (17 + x1)))) + 1)))), (6, .int (x6 + 1))]) 5 dX11_fewest_108 rfl rfl rfl rfl ?_
      refine gx_goto 50 dX11_fewest_111 (by decide) ?_
      exact h
    · replace h := h.2 z
      refine gx_iload 5 dX11_fewest_105 rfl ?_
      exact gx_iret dX11_fewest_107 rfl rfl rfl ⟨_, _, _, _, rfl, rfl, h⟩
abbrev Z_M_fetes (g : gm_G) (Q : Int32 → mI → mL → gm_cfg → Prop) (pc : Nat) (lv : List (Nat × Value)) (st : List Value) (I : mI) (L : mL) (c : gm_cfg) : Prop := gm_X g RX11 "fetes" cX11_fetes 12 (some .int) 5 0 0 (qI Q) 0 0 pc lv st (SH, I, L, RR c)
abbrev C_M_fetes (g : gm_G) (x1 : Int32) (x2 : Int32) (x3 : Int32) (x4 : Int32) (x5 : Int32) (I : mI) (L : mL) (c : gm_cfg) (Q : Int32 → mI → mL → gm_cfg → Prop) : Prop := gm_Met g yX11_fetes cX11_fetes 12 (some .int) 5 0 0 [.ref 59, .int x1, .int x2, .int x3, .int x4, .int x5] (SH, I, L, RR c) (qI Q)
set_option maxRecDepth 100000 in
theorem e_M_fetes {g : gm_G} {Q : Int32 → mI → mL → gm_cfg → Prop} {x1 x2 x3 x4 x5 : Int32} {I : mI} {L : mL} {c : gm_cfg} (h : (C_M_within g (Int32.toInt64 x5) 0 2 (gm_u I 59 0 0) L c (fun b4 I1 L2 c3 => ((b4 = false → Q (-2) I1 L2 c3) ∧ (b4 = true → (C_M_within g (Int32.toInt64 x2) 1 40 I1 L2 c3 (fun b8 I5 L6 c7 => ((b8 = false → Q (-3) I5 L6 c7) ∧ (b8 = true → (C_M_within g (Int32.toInt64 x3) 1 30 I5 L6 c7 (fun b12 I9 L10 c11 => ((b12 = false → Q (-3) I9 L10 c11) ∧ (b12 = true → (((I9 60 0) = 0 → Q (-5) I9 L10 c11) ∧ (¬ (I9 60 0) = 0 → (((I9 60 6) = 0 → Q (-5) I9 L10 c11) ∧ (¬ (I9 60 6) = 0 → (C_M_keeps g I9 L10 c11 (fun I13 L14 c15 => ((x4 = 0 → Z_M_fetes g Q 108 [(0, .ref 59), (1, .int x1), (2, .int x2), (3, .int x3), (4, .int x4), (5, .int x5), (6, .int 0), (7, .int 0), (8, .int 0), (9, .int 0)] [] (gm_u (gm_u I13 60 7 1) 59 17 x1) L14 c15) ∧ (¬ x4 = 0 → Z_M_fetes g Q 108 [(0, .ref 59), (1, .int x1), (2, .int x2), (3, .int x3), (4, .int x4), (5, .int x5), (6, .int 0), (7, .int 0), (8, .int 0), (9, .int 0)] [] (gm_u (gm_u I13 60 7 0) 59 17 x1) L14 c15))))))))))))))))))))) : C_M_fetes g x1 x2 x3 x4 x5 I L c Q := by
  refine gm_enter (lv := [(0, .ref 59), (1, .int x1), (2, .int x2), (3, .int x3), (4, .int x4), (5, .int x5)]) (by decide) rfl rfl rfl rfl ?_
  show Z_M_fetes g Q 0 [(0, .ref 59), (1, .int x1), (2, .int x2), (3, .int x3), (4, .int x4), (5, .int x5)] [] I L c
  refine gx_aload_n 0 dX11_fetes_0 rfl rfl ?_
  refine gx_iconst (v := 0) dX11_fetes_1 (by decide) ?_
  refine gx_puti 11 0 dX11_fetes_2 fl_X11_1 rfl rfl rfl ⟨rfl, rfl⟩ ?_
  show Z_M_fetes g Q 5 [(0, .ref 59), (1, .int x1), (2, .int x2), (3, .int x3), (4, .int x4), (5, .int x5)] [] (gm_u I 59 0 0) L c
  refine gx_iload 5 dX11_fetes_5 rfl ?_
  refine gx_i2l dX11_fetes_7 ?_
  refine gx_lconst (v := 0) dX11_fetes_8 (by decide) ?_
  refine gx_ldc2 dX11_fetes_9 kl_X11_196 ?_
  refine gx_callS (As := [.long (Int32.toInt64 x5), .long 0, .long 2]) (st := []) dX11_fetes_12 ml_X11_125 mm_X11_within rfl rfl rfl rfl ⟨rfl, rfl⟩ h (fun v h2 hq => ?_)
  clear h
  obtain ⟨b4, I1, L2, c3, rfl, rfl, h⟩ := hq
  show Z_M_fetes g Q 15 [(0, .ref 59), (1, .int x1), (2, .int x2), (3, .int x3), (4, .int x4), (5, .int x5)] [.int (gm_b b4)] I1 L2 c3
  refine gx_if_ne 21 dX11_fetes_15 (by decide) ⟨fun z => ?_, fun z => ?_⟩
  · replace h := h.1 (gm_b0.mp z)
    refine gx_bipush (v := (-2)) dX11_fetes_18 (by decide) ?_
    exact gx_iret dX11_fetes_20 rfl rfl rfl ⟨_, _, _, _, rfl, rfl, h⟩
  · replace h := h.2 (gm_bn0 z)
    refine gx_iload_n 2 dX11_fetes_21 rfl rfl ?_
    refine gx_i2l dX11_fetes_22 ?_
    refine gx_lconst (v := 1) dX11_fetes_23 (by decide) ?_
    refine gx_ldc2 dX11_fetes_24 kl_X11_214 ?_
    refine gx_callS (As := [.long (Int32.toInt64 x2), .long 1, .long 40]) (st := []) dX11_fetes_27 ml_X11_125 mm_X11_within rfl rfl rfl rfl ⟨rfl, rfl⟩ h (fun v h2 hq => ?_)
    clear h
    obtain ⟨b8, I5, L6, c7, rfl, rfl, h⟩ := hq
    show Z_M_fetes g Q 30 [(0, .ref 59), (1, .int x1), (2, .int x2), (3, .int x3), (4, .int x4), (5, .int x5)] [.int (gm_b b8)] I5 L6 c7
    refine gx_if_eq 45 dX11_fetes_30 (by decide) ⟨fun z => ?_, fun z => ?_⟩
    · replace h := h.1 (gm_b0.mp z)
      refine gx_bipush (v := (-3)) dX11_fetes_45 (by decide) ?_
      exact gx_iret dX11_fetes_47 rfl rfl rfl ⟨_, _, _, _, rfl, rfl, h⟩
    · replace h := h.2 (gm_bn0 z)
      refine gx_iload_n 3 dX11_fetes_33 rfl rfl ?_
      refine gx_i2l dX11_fetes_34 ?_
      refine gx_lconst (v := 1) dX11_fetes_35 (by decide) ?_
      refine gx_ldc2 dX11_fetes_36 kl_X11_319 ?_
      refine gx_callS (As := [.long (Int32.toInt64 x3), .long 1, .long 30]) (st := []) dX11_fetes_39 ml_X11_125 mm_X11_within rfl rfl rfl rfl ⟨rfl, rfl⟩ h (fun v h2 hq => ?_)
      clear h
      obtain ⟨b12, I9, L10, c11, rfl, rfl, h⟩ := hq
      show Z_M_fetes g Q 42 [(0, .ref 59), (1, .int x1), (2, .int x2), (3, .int x3), (4, .int x4), (5, .int x5)] [.int (gm_b b12)] I9 L10 c11
      refine gx_if_ne 48 dX11_fetes_42 (by decide) ⟨fun z => ?_, fun z => ?_⟩
      · replace h := h.1 (gm_b0.mp z)
        refine gx_bipush (v := (-3)) dX11_fetes_45 (by decide) ?_
        exact gx_iret dX11_fetes_47 rfl rfl rfl ⟨_, _, _, _, rfl, rfl, h⟩
      · replace h := h.2 (gm_bn0 z)
        refine gx_aload_n 0 dX11_fetes_48 rfl rfl ?_
        refine gx_getr 11 1 (v := 60) dX11_fetes_49 fl_X11_13 rfl rfl rfl ?_
        refine gx_iconst (v := 0) dX11_fetes_52 (by decide) ?_
        refine gx_iald (v := (I9 60 0)) dX11_fetes_53 rfl rfl (gm_vin rfl) (k := 0) rfl rfl ?_
        refine gx_if_eq 67 dX11_fetes_54 (by decide) ⟨fun z => ?_, fun z => ?_⟩
        · replace h := h.1 z
          refine gx_bipush (v := (-5)) dX11_fetes_67 (by decide) ?_
          exact gx_iret dX11_fetes_69 rfl rfl rfl ⟨_, _, _, _, rfl, rfl, h⟩
        · replace h := h.2 z
          refine gx_aload_n 0 dX11_fetes_57 rfl rfl ?_
          refine gx_getr 11 1 (v := 60) dX11_fetes_58 fl_X11_13 rfl rfl rfl ?_
          refine gx_bipush (v := 6) dX11_fetes_61 (by decide) ?_
          refine gx_iald (v := (I9 60 6)) dX11_fetes_63 rfl rfl (gm_vin rfl) (k := 6) rfl rfl ?_
          refine gx_if_ne 70 dX11_fetes_64 (by decide) ⟨fun z => ?_, fun z => ?_⟩
          · replace h := h.1 z
            refine gx_bipush (v := (-5)) dX11_fetes_67 (by decide) ?_
            exact gx_iret dX11_fetes_69 rfl rfl rfl ⟨_, _, _, _, rfl, rfl, h⟩
          · replace h := h.2 z
            refine gx_aload_n 0 dX11_fetes_70 rfl rfl ?_
            refine gx_callV 11 (As := []) (st := []) dX11_fetes_71 ml_X11_198 mm_X11_keeps rfl rfl rfl rfl rfl rfl ⟨rfl, rfl⟩ h (fun v h2 hq => ?_)
            clear h
            obtain ⟨I13, L14, c15, rfl, rfl, h⟩ := hq
            show Z_M_fetes g Q 74 [(0, .ref 59), (1, .int x1), (2, .int x2), (3, .int x3), (4, .int x4), (5, .int x5)] [] I13 L14 c15
            refine gx_aload_n 0 dX11_fetes_74 rfl rfl ?_
            refine gx_getr 11 1 (v := 60) dX11_fetes_75 fl_X11_13 rfl rfl rfl ?_
            refine gx_bipush (v := 7) dX11_fetes_78 (by decide) ?_
            refine gx_iload 4 dX11_fetes_80 rfl ?_
            refine gx_if_eq 89 dX11_fetes_82 (by decide) ⟨fun z => ?_, fun z => ?_⟩
            · replace h := h.1 z
              refine gx_iconst (v := 1) dX11_fetes_89 (by decide) ?_
              refine gx_iast dX11_fetes_90 rfl rfl (gm_vin rfl) (k := 7) rfl ?_
              show Z_M_fetes g Q 91 [(0, .ref 59), (1, .int x1), (2, .int x2), (3, .int x3), (4, .int x4), (5, .int x5)] [] (gm_u I13 60 7 1) L14 c15
              refine gx_aload_n 0 dX11_fetes_91 rfl rfl ?_
              refine gx_iload_n 1 dX11_fetes_92 rfl rfl ?_
              refine gx_puti 11 17 dX11_fetes_93 fl_X11_208 rfl rfl rfl ⟨rfl, rfl⟩ ?_
              show Z_M_fetes g Q 96 [(0, .ref 59), (1, .int x1), (2, .int x2), (3, .int x3), (4, .int x4), (5, .int x5)] [] (gm_u (gm_u I13 60 7 1) 59 17 x1) L14 c15
              refine gx_iconst (v := 0) dX11_fetes_96 (by decide) ?_
              refine gx_istore (lv' := [(0, .ref 59), (1, .int x1), (2, .int x2), (3, .int x3), (4, .int x4), (5, .int x5), (6, .int 0)]) dX11_fetes_97 rfl rfl ?_
              refine gx_iconst (v := 0) dX11_fetes_99 (by decide) ?_
              refine gx_istore (lv' := [(0, .ref 59), (1, .int x1), (2, .int x2), (3, .int x3), (4, .int x4), (5, .int x5), (6, .int 0), (7, .int 0)]) dX11_fetes_100 rfl rfl ?_
              refine gx_iconst (v := 0) dX11_fetes_102 (by decide) ?_
              refine gx_istore (lv' := [(0, .ref 59), (1, .int x1), (2, .int x2), (3, .int x3), (4, .int x4), (5, .int x5), (6, .int 0), (7, .int 0), (8, .int 0)]) dX11_fetes_103 rfl rfl ?_
              refine gx_iconst (v := 0) dX11_fetes_105 (by decide) ?_
              refine gx_istore (lv' := [(0, .ref 59), (1, .int x1), (2, .int x2), (3, .int x3), (4, .int x4), (5, .int x5), (6, .int 0), (7, .int 0), (8, .int 0), (9, .int 0)]) dX11_fetes_106 rfl rfl ?_
              exact h
            · replace h := h.2 z
              refine gx_iconst (v := 0) dX11_fetes_85 (by decide) ?_
              refine gx_goto 90 dX11_fetes_86 (by decide) ?_
              refine gx_iast dX11_fetes_90 rfl rfl (gm_vin rfl) (k := 7) rfl ?_
              show Z_M_fetes g Q 91 [(0, .ref 59), (1, .int x1), (2, .int x2), (3, .int x3), (4, .int x4), (5, .int x5)] [] (gm_u I13 60 7 0) L14 c15
              refine gx_aload_n 0 dX11_fetes_91 rfl rfl ?_
              refine gx_iload_n 1 dX11_fetes_92 rfl rfl ?_
              refine gx_puti 11 17 dX11_fetes_93 fl_X11_208 rfl rfl rfl ⟨rfl, rfl⟩ ?_
              show Z_M_fetes g Q 96 [(0, .ref 59), (1, .int x1), (2, .int x2), (3, .int x3), (4, .int x4), (5, .int x5)] [] (gm_u (gm_u I13 60 7 0) 59 17 x1) L14 c15
              refine gx_iconst (v := 0) dX11_fetes_96 (by decide) ?_
              refine gx_istore (lv' := [(0, .ref 59), (1, .int x1), (2, .int x2), (3, .int x3), (4, .int x4), (5, .int x5), (6, .int 0)]) dX11_fetes_97 rfl rfl ?_
              refine gx_iconst (v := 0) dX11_fetes_99 (by decide) ?_
              refine gx_istore (lv' := [(0, .ref 59), (1, .int x1), (2, .int x2), (3, .int x3), (4, .int x4), (5, .int x5), (6, .int 0), (7, .int 0)]) dX11_fetes_100 rfl rfl ?_
              refine gx_iconst (v := 0) dX11_fetes_102 (by decide) ?_
              refine gx_istore (lv' := [(0, .ref 59), (1, .int x1), (2, .int x2), (3, .int x3), (4, .int x4), (5, .int x5), (6, .int 0), (7, .int 0), (8, .int 0)]) dX11_fetes_103 rfl rfl ?_
              refine gx_iconst (v := 0) dX11_fetes_105 (by decide) ?_
              refine gx_istore (lv' := [(0, .ref 59), (1, .int x1), (2, .int x2), (3, .int x3), (4, .int x4), (5, .int x5), (6, .int 0), (7, .int 0), (8, .int 0), (9, .int 0)]) dX11_fetes_106 rfl rfl ?_
              exact h
set_option maxRecDepth 100000 in
theorem r_M_fetes_108 {g : gm_G} {Q : Int32 → mI → mL → gm_cfg → Prop} {x1 x2 x3 x4 x5 x6 x7 x8 x9 : Int32} {I : mI} {L : mL} {c : gm_cfg} (h : ((x2 ≤ x9 → (C_M_isAgain g I L c (fun I1 L2 c3 => ((x5 = 0 → Q x6 I1 L2 c3) ∧ (¬ x5 = 0 → ((x5 = 1 → Q x7 I1 L2 c3) ∧ (¬ x5 = 1 → Q x8 I1 L2 c3))))))) ∧ (¬ x2 ≤ x9 → Z_M_fetes g Q 124 [(0, .ref 59), (1, .int x1), (2, .int x2), (3, .int x3), (4, .int x4), (5, .int x5), (6, .int x6), (7, .int x7), (8, .int x8), (9, .int x9), (10, .int 0)] [] (gm_u I 60 1 0) L c))) : Z_M_fetes g Q 108 [(0, .ref 59), (1, .int x1), (2, .int x2), (3, .int x3), (4, .int x4), (5, .int x5), (6, .int x6), (7, .int x7), (8, .int x8), (9, .int x9)] [] I L c := by
  refine gx_iload 9 dX11_fetes_108 rfl ?_
  refine gx_iload_n 2 dX11_fetes_110 rfl rfl ?_
  refine gx_icmp_ge 221 dX11_fetes_111 (by decide) ⟨fun z => ?_, fun z => ?_⟩
  · replace h := h.1 z
    refine gx_aload_n 0 dX11_fetes_221 rfl rfl ?_
    refine gx_callV 11 (As := []) (st := []) dX11_fetes_222 ml_X11_204 mm_X11_isAgain rfl rfl rfl rfl rfl rfl ⟨rfl, rfl⟩ h (fun v h2 hq => ?_)
    clear h
    obtain ⟨I1, L2, c3, rfl, rfl, h⟩ := hq
    show Z_M_fetes g Q 225 [(0, .ref 59), (1, .int x1), (2, .int x2), (3, .int x3), (4, .int x4), (5, .int x5), (6, .int x6), (7, .int x7), (8, .int x8), (9, .int x9)] [] I1 L2 c3
    refine gx_iload 5 dX11_fetes_225 rfl ?_
    refine gx_if_ne 235 dX11_fetes_227 (by decide) ⟨fun z => ?_, fun z => ?_⟩
    · replace h := h.1 z
      refine gx_iload 6 dX11_fetes_230 rfl ?_
      refine gx_goto 248 dX11_fetes_232 (by decide) ?_
      exact gx_iret dX11_fetes_248 rfl rfl rfl ⟨_, _, _, _, rfl, rfl, h⟩
    · replace h := h.2 z
      refine gx_iload 5 dX11_fetes_235 rfl ?_
      refine gx_iconst (v := 1) dX11_fetes_237 (by decide) ?_
      refine gx_icmp_ne 246 dX11_fetes_238 (by decide) ⟨fun z => ?_, fun z => ?_⟩
      · replace h := h.1 z
        refine gx_iload 7 dX11_fetes_241 rfl ?_
        refine gx_goto 248 dX11_fetes_243 (by decide) ?_
        exact gx_iret dX11_fetes_248 rfl rfl rfl ⟨_, _, _, _, rfl, rfl, h⟩
      · replace h := h.2 z
        refine gx_iload 8 dX11_fetes_246 rfl ?_
        exact gx_iret dX11_fetes_248 rfl rfl rfl ⟨_, _, _, _, rfl, rfl, h⟩
  · replace h := h.2 z
    refine gx_aload_n 0 dX11_fetes_114 rfl rfl ?_
    refine gx_getr 11 1 (v := 60) dX11_fetes_115 fl_X11_13 rfl rfl rfl ?_
    refine gx_iconst (v := 1) dX11_fetes_118 (by decide) ?_
    refine gx_iconst (v := 0) dX11_fetes_119 (by decide) ?_
    refine gx_iast dX11_fetes_120 rfl rfl (gm_vin rfl) (k := 1) rfl ?_
    show Z_M_fetes g Q 121 [(0, .ref 59), (1, .int x1), (2, .int x2), (3, .int x3), (4, .int x4), (5, .int x5), (6, .int x6), (7, .int x7), (8, .int x8), (9, .int x9)] [] (gm_u I 60 1 0) L c
    refine gx_iconst (v := 0) dX11_fetes_121 (by decide) ?_
    refine gx_istore (lv' := [(0, .ref 59), (1, .int x1), (2, .int x2), (3, .int x3), (4, .int x4), (5, .int x5), (6, .int x6), (7, .int x7), (8, .int x8), (9, .int x9), (10, .int 0)]) dX11_fetes_122 rfl rfl ?_
    exact h
set_option maxRecDepth 100000 in
theorem r_M_fetes_124 {g : gm_G} {Q : Int32 → mI → mL → gm_cfg → Prop} {x1 x2 x3 x4 x5 x6 x7 x8 x9 x10 : Int32} {I : mI} {L : mL} {c : gm_cfg} (h : ((x3 ≤ x10 → (C_M_meanOf g x3 I L c (fun r4 I1 L2 c3 => (C_M_off g r4 (I1 60 6) I1 L2 c3 (fun r8 I5 L6 c7 => (C_M_leaderFor g (I5 60 6) I5 L6 c7 (fun r12 I9 L10 c11 => (C_M_numberOf g r12 I9 L10 c11 (fun r16 I13 L14 c15 => (C_M_off g r16 (I13 60 6) I13 L14 c15 (fun r20 I17 L18 c19 => ((r20 ≤ r8 → Z_M_fetes g Q 108 [(0, .ref 59), (1, .int x1), (2, .int x2), (3, .int x3), (4, .int x4), (5, .int x5), (6, .int (x6 + r8)), (7, .int (x7 + r20)), (8, .int (x8 + 0)), (9, .int (x9 + 1))] [] I17 L18 c19) ∧ (¬ r20 ≤ r8 → Z_M_fetes g Q 108 [(0, .ref 59), (1, .int x1), (2, .int x2), (3, .int x3), (4, .int x4), (5, .int x5), (6, .int (x6 + r8)), (7, .int (x7 + r20)), (8, .int (x8 + 1)), (9, .int (x9 + 1))] [] I17 L18 c19))))))))))))) ∧ (¬ x3 ≤ x10 → (C_M_comes g I L c (fun I21 L22 c23 => Z_M_fetes g Q 124 [(0, .ref 59), (1, .int x1), (2, .int x2), (3, .int x3), (4, .int x4), (5, .int x5), (6, .int x6), (7, .int x7), (8, .int x8), (9, .int x9), (10, .int (x10 + 1))] [] I21 L22 c23))))) : Z_M_fetes g Q 124 [(0, .ref 59), (1, .int x1), (2, .int x2), (3, .int x3), (4, .int x4), (5, .int x5), (6, .int x6), (7, .int x7), (8, .int x8), (9, .int x9), (10, .int x10)] [] I L c := by
  refine gx_iload 10 dX11_fetes_124 rfl ?_
  refine gx_iload_n 3 dX11_fetes_126 rfl rfl ?_
  refine gx_icmp_ge 140 dX11_fetes_127 (by decide) ⟨fun z => ?_, fun z => ?_⟩
  · replace h := h.1 z
    refine gx_aload_n 0 dX11_fetes_140 rfl rfl ?_
    refine gx_iload_n 3 dX11_fetes_141 rfl rfl ?_
    refine gx_callV 11 (As := [.int x3]) (st := []) dX11_fetes_142 ml_X11_174 mm_X11_meanOf rfl rfl rfl rfl rfl rfl ⟨rfl, rfl⟩ h (fun v h2 hq => ?_)
    clear h
    obtain ⟨r4, I1, L2, c3, rfl, rfl, h⟩ := hq
    show Z_M_fetes g Q 145 [(0, .ref 59), (1, .int x1), (2, .int x2), (3, .int x3), (4, .int x4), (5, .int x5), (6, .int x6), (7, .int x7), (8, .int x8), (9, .int x9), (10, .int x10)] [.int r4] I1 L2 c3
    refine gx_aload_n 0 dX11_fetes_145 rfl rfl ?_
    refine gx_getr 11 1 (v := 60) dX11_fetes_146 fl_X11_13 rfl rfl rfl ?_
    refine gx_bipush (v := 6) dX11_fetes_149 (by decide) ?_
    refine gx_iald (v := (I1 60 6)) dX11_fetes_151 rfl rfl (gm_vin rfl) (k := 6) rfl rfl ?_
    refine gx_callS (As := [.int r4, .int (I1 60 6)]) (st := []) dX11_fetes_152 ml_X11_162 mm_X11_off rfl rfl rfl rfl ⟨rfl, rfl⟩ h (fun v h2 hq => ?_)
    clear h
    obtain ⟨r8, I5, L6, c7, rfl, rfl, h⟩ := hq
    show Z_M_fetes g Q 155 [(0, .ref 59), (1, .int x1), (2, .int x2), (3, .int x3), (4, .int x4), (5, .int x5), (6, .int x6), (7, .int x7), (8, .int x8), (9, .int x9), (10, .int x10)] [.int r8] I5 L6 c7
    refine gx_istore (lv' := [(0, .ref 59), (1, .int x1), (2, .int x2), (3, .int x3), (4, .int x4), (5, .int x5), (6, .int x6), (7, .int x7), (8, .int x8), (9, .int x9), (10, .int r8)]) dX11_fetes_155 rfl rfl ?_
    refine gx_aload_n 0 dX11_fetes_157 rfl rfl ?_
    refine gx_aload_n 0 dX11_fetes_158 rfl rfl ?_
    refine gx_aload_n 0 dX11_fetes_159 rfl rfl ?_
    refine gx_getr 11 1 (v := 60) dX11_fetes_160 fl_X11_13 rfl rfl rfl ?_
    refine gx_bipush (v := 6) dX11_fetes_163 (by decide) ?_
    refine gx_iald (v := (I5 60 6)) dX11_fetes_165 rfl rfl (gm_vin rfl) (k := 6) rfl rfl ?_
    refine gx_callV 11 (As := [.int (I5 60 6)]) (st := [.ref 59]) dX11_fetes_166 ml_X11_219 mm_X11_leaderFor rfl rfl rfl rfl rfl rfl ⟨rfl, rfl⟩ h (fun v h2 hq => ?_)
    clear h
    obtain ⟨r12, I9, L10, c11, rfl, rfl, h⟩ := hq
    show Z_M_fetes g Q 169 [(0, .ref 59), (1, .int x1), (2, .int x2), (3, .int x3), (4, .int x4), (5, .int x5), (6, .int x6), (7, .int x7), (8, .int x8), (9, .int x9), (10, .int r8)] [.int r12, .ref 59] I9 L10 c11
    refine gx_callV 11 (As := [.int r12]) (st := []) dX11_fetes_169 ml_X11_171 mm_X11_numberOf rfl rfl rfl rfl rfl rfl ⟨rfl, rfl⟩ h (fun v h2 hq => ?_)
    clear h
    obtain ⟨r16, I13, L14, c15, rfl, rfl, h⟩ := hq
    show Z_M_fetes g Q 172 [(0, .ref 59), (1, .int x1), (2, .int x2), (3, .int x3), (4, .int x4), (5, .int x5), (6, .int x6), (7, .int x7), (8, .int x8), (9, .int x9), (10, .int r8)] [.int r16] I13 L14 c15
    refine gx_aload_n 0 dX11_fetes_172 rfl rfl ?_
    refine gx_getr 11 1 (v := 60) dX11_fetes_173 fl_X11_13 rfl rfl rfl ?_
    refine gx_bipush (v := 6) dX11_fetes_176 (by decide) ?_
    refine gx_iald (v := (I13 60 6)) dX11_fetes_178 rfl rfl (gm_vin rfl) (k := 6) rfl rfl ?_
    refine gx_callS (As := [.int r16, .int (I13 60 6)]) (st := []) dX11_fetes_179 ml_X11_162 mm_X11_off rfl rfl rfl rfl ⟨rfl, rfl⟩ h (fun v h2 hq => ?_)
    clear h
    obtain ⟨r20, I17, L18, c19, rfl, rfl, h⟩ := hq
    show Z_M_fetes g Q 182 [(0, .ref 59), (1, .int x1), (2, .int x2), (3, .int x3), (4, .int x4), (5, .int x5), (6, .int x6), (7, .int x7), (8, .int x8), (9, .int x9), (10, .int r8)] [.int r20] I17 L18 c19
    refine gx_istore (lv' := [(0, .ref 59), (1, .int x1), (2, .int x2), (3, .int x3), (4, .int x4), (5, .int x5), (6, .int x6), (7, .int x7), (8, .int x8), (9, .int x9), (10, .int r8), (11, .int r20)]) dX11_fetes_182 rfl rfl ?_
    refine gx_iload 6 dX11_fetes_184 rfl ?_
    refine gx_iload 10 dX11_fetes_186 rfl ?_
    refine gx_iadd dX11_fetes_188 ?_
    refine gx_istore (lv' := [(0, .ref 59), (1, .int x1), (2, .int x2), (3, .int x3), (4, .int x4), (5, .int x5), (6, .int (x6 + r8)), (7, .int x7), (8, .int x8), (9, .int x9), (10, .int r8), (11, .int r20)]) dX11_fetes_189 rfl rfl ?_
    refine gx_iload 7 dX11_fetes_191 rfl ?_
    refine gx_iload 11 dX11_fetes_193 rfl ?_
    refine gx_iadd dX11_fetes_195 ?_
    refine gx_istore (lv' := [(0, .ref 59), (1, .int x1), (2, .int x2), (3, .int x3), (4, .int x4), (5, .int x5), (6, .int (x6 + r8)), (7, .int (x7 + r20)), (8, .int x8), (9, .int x9), (10, .int r8), (11, .int r20)]) dX11_fetes_196 rfl rfl ?_
    refine gx_iload 8 dX11_fetes_198 rfl ?_
    refine gx_iload 10 dX11_fetes_200 rfl ?_
    refine gx_iload 11 dX11_fetes_202 rfl ?_
    refine gx_icmp_ge 211 dX11_fetes_204 (by decide) ⟨fun z => ?_, fun z => ?_⟩
    · replace h := h.1 z
      refine gx_iconst (v := 0) dX11_fetes_211 (by decide) ?_
      refine gx_iadd dX11_fetes_212 ?_
      refine gx_istore (lv' := [(0, .ref 59), (1, .int x1), (2, .int x2), (3, .int x3), (4, .int x4), (5, .int x5), (6, .int (x6 + r8)), (7, .int (x7 + r20)), (8, .int (x8 + 0)), (9, .int x9), (10, .int r8), (11, .int r20)]) dX11_fetes_213 rfl rfl ?_
      refine gx_iinc (v := (x9 + 1)) (lv' := [(0, .ref 59), (1, .int x1), (2, .int x2), (3, .int x3), (4, .int x4), (5, .int x5), (6, .int (x6 + r8)), (7, .int (x7 + r20)), (8, .int (x8 + 0)), (9, .int (x9 + 1)), (10, .int r8), (11, .int r20)]) 9 dX11_fetes_215 rfl rfl rfl rfl ?_
      refine gx_goto 108 dX11_fetes_218 (by decide) ?_
      refine gx_sub [0, 1, 2, 3, 4, 5, 6, 7, 8, 9] (lv' := [(0, .ref 59), (1, .int x1), (2, .int x2), (3, .int x3), (4, .int x4), (5, .int x5), (6, .int (x6 + r8)), (7, .int (x7 + r20)), (8, .int (x8 + 0)), (9, .int (x9 + 1))]) rfl ?_
      exact h
    · replace h := h.2 z
      refine gx_iconst (v := 1) dX11_fetes_207 (by decide) ?_
      refine gx_goto 212 dX11_fetes_208 (by decide) ?_
      refine gx_iadd dX11_fetes_212 ?_
      refine gx_istore (lv' := [(0, .ref 59), (1, .int x1), (2, .int x2), (3, .int x3), (4, .int x4), (5, .int x5), (6, .int (x6 + r8)), (7, .int (x7 + r20)), (8, .int (x8 + 1)), (9, .int x9), (10, .int r8), (11, .int r20)]) dX11_fetes_213 rfl rfl ?_
      refine gx_iinc (v := (x9 + 1)) (lv' := [(0, .ref 59), (1, .int x1), (2, .int x2), (3, .int x3), (4, .int x4), (5, .int x5), (6, .int (x6 + r8)), (7, .int (x7 + r20)), (8, .int (x8 + 1)), (9, .int (x9 + 1)), (10, .int r8), (11, .int r20)]) 9 dX11_fetes_215 rfl rfl rfl rfl ?_
      refine gx_goto 108 dX11_fetes_218 (by decide) ?_
      refine gx_sub [0, 1, 2, 3, 4, 5, 6, 7, 8, 9] (lv' := [(0, .ref 59), (1, .int x1), (2, .int x2), (3, .int x3), (4, .int x4), (5, .int x5), (6, .int (x6 + r8)), (7, .int (x7 + r20)), (8, .int (x8 + 1)), (9, .int (x9 + 1))]) rfl ?_
      exact h
  · replace h := h.2 z
    refine gx_aload_n 0 dX11_fetes_130 rfl rfl ?_
    refine gx_callV 11 (As := []) (st := []) dX11_fetes_131 ml_X11_216 mm_X11_comes rfl rfl rfl rfl rfl rfl ⟨rfl, rfl⟩ h (fun v h2 hq => ?_)
    clear h
    obtain ⟨I21, L22, c23, rfl, rfl, h⟩ := hq
    show Z_M_fetes g Q 134 [(0, .ref 59), (1, .int x1), (2, .int x2), (3, .int x3), (4, .int x4), (5, .int x5), (6, .int x6), (7, .int x7), (8, .int x8), (9, .int x9), (10, .int x10)] [] I21 L22 c23
    refine gx_iinc (v := (x10 + 1)) (lv' := [(0, .ref 59), (1, .int x1), (2, .int x2), (3, .int x3), (4, .int x4), (5, .int x5), (6, .int x6), (7, .int x7), (8, .int x8), (9, .int x9), (10, .int (x10 + 1))]) 10 dX11_fetes_134 rfl rfl rfl rfl ?_
    refine gx_goto 124 dX11_fetes_137 (by decide) ?_
    exact h
abbrev Z_M_holdsOf (g : gm_G) (Q : Int32 → mI → mL → gm_cfg → Prop) (pc : Nat) (lv : List (Nat × Value)) (st : List Value) (I : mI) (L : mL) (c : gm_cfg) : Prop := gm_X g RX11 "holdsOf" cX11_holdsOf 4 (some .int) 1 0 0 (qI Q) 0 0 pc lv st (SH, I, L, RR c)
abbrev C_M_holdsOf (g : gm_G) (x0 : Int32) (x1 : Int32) (x2 : Int32) (I : mI) (L : mL) (c : gm_cfg) (Q : Int32 → mI → mL → gm_cfg → Prop) : Prop := gm_Met g yX11_holdsOf cX11_holdsOf 4 (some .int) 1 0 0 [.int x0, .int x1, .int x2] (SH, I, L, RR c) (qI Q)
set_option maxRecDepth 100000 in
theorem e_M_holdsOf {g : gm_G} {Q : Int32 → mI → mL → gm_cfg → Prop} {x0 x1 x2 : Int32} {I : mI} {L : mL} {c : gm_cfg} (h : Q (((x0 * (1 + ((3 * x1) * (x1 + 1)))) - (((x0 / 2) * 6) * x1)) - ((((x0 * (1 + ((3 * x1) * (x1 + 1)))) - (((x0 / 2) * 6) * x1)) * x2) / 100)) I L c) : C_M_holdsOf g x0 x1 x2 I L c Q := by
  refine gm_enter (lv := [(0, .int x0), (1, .int x1), (2, .int x2)]) (by decide) rfl rfl rfl rfl ?_
  show Z_M_holdsOf g Q 0 [(0, .int x0), (1, .int x1), (2, .int x2)] [] I L c
  refine gx_iload_n 0 dX11_holdsOf_0 rfl rfl ?_
  refine gx_iconst (v := 1) dX11_holdsOf_1 (by decide) ?_
  refine gx_iconst (v := 3) dX11_holdsOf_2 (by decide) ?_
  refine gx_iload_n 1 dX11_holdsOf_3 rfl rfl ?_
  refine gx_imul dX11_holdsOf_4 ?_
  refine gx_iload_n 1 dX11_holdsOf_5 rfl rfl ?_
  refine gx_iconst (v := 1) dX11_holdsOf_6 (by decide) ?_
  refine gx_iadd dX11_holdsOf_7 ?_
  refine gx_imul dX11_holdsOf_8 ?_
  refine gx_iadd dX11_holdsOf_9 ?_
  refine gx_imul dX11_holdsOf_10 ?_
  refine gx_iload_n 0 dX11_holdsOf_11 rfl rfl ?_
  refine gx_iconst (v := 2) dX11_holdsOf_12 (by decide) ?_
  refine gx_idiv dX11_holdsOf_13 (by decide) ?_
  refine gx_bipush (v := 6) dX11_holdsOf_14 (by decide) ?_
  refine gx_imul dX11_holdsOf_16 ?_
  refine gx_iload_n 1 dX11_holdsOf_17 rfl rfl ?_
  refine gx_imul dX11_holdsOf_18 ?_
  refine gx_isub dX11_holdsOf_19 ?_
  refine gx_istore_n (lv' := [(0, .int x0), (1, .int x1), (2, .int x2), (3, .int ((x0 * (1 + ((3 * x1) * (x1 + 1)))) - (((x0 / 2) * 6) * x1)))]) dX11_holdsOf_20 rfl rfl rfl ?_
  refine gx_iload_n 3 dX11_holdsOf_21 rfl rfl ?_
  refine gx_iload_n 3 dX11_holdsOf_22 rfl rfl ?_
  refine gx_iload_n 2 dX11_holdsOf_23 rfl rfl ?_
  refine gx_imul dX11_holdsOf_24 ?_
  refine gx_bipush (v := 100) dX11_holdsOf_25 (by decide) ?_
  refine gx_idiv dX11_holdsOf_27 (by decide) ?_
  refine gx_isub dX11_holdsOf_28 ?_
  exact gx_iret dX11_holdsOf_29 rfl rfl rfl ⟨_, _, _, _, rfl, rfl, h⟩
abbrev Z_M_holds (g : gm_G) (Q : Int32 → mI → mL → gm_cfg → Prop) (pc : Nat) (lv : List (Nat × Value)) (st : List Value) (I : mI) (L : mL) (c : gm_cfg) : Prop := gm_X g RX11 "holds" cX11_holds 4 (some .int) 2 0 0 (qI Q) 0 0 pc lv st (SH, I, L, RR c)
abbrev C_M_holds (g : gm_G) (x1 : Int32) (x2 : Int32) (x3 : Int32) (I : mI) (L : mL) (c : gm_cfg) (Q : Int32 → mI → mL → gm_cfg → Prop) : Prop := gm_Met g yX11_holds cX11_holds 4 (some .int) 2 0 0 [.ref 59, .int x1, .int x2, .int x3] (SH, I, L, RR c) (qI Q)
set_option maxRecDepth 100000 in
theorem e_M_holds {g : gm_G} {Q : Int32 → mI → mL → gm_cfg → Prop} {x1 x2 x3 : Int32} {I : mI} {L : mL} {c : gm_cfg} (h : (C_M_within g (Int32.toInt64 x1) 1 99 (gm_u I 59 0 0) L c (fun b4 I1 L2 c3 => ((b4 = false → Q (-3) I1 L2 c3) ∧ (b4 = true → (C_M_within g (Int32.toInt64 x2) 1 30 I1 L2 c3 (fun b8 I5 L6 c7 => ((b8 = false → Q (-3) I5 L6 c7) ∧ (b8 = true → (C_M_within g (Int32.toInt64 x3) 0 99 I5 L6 c7 (fun b12 I9 L10 c11 => ((b12 = false → Q (-3) I9 L10 c11) ∧ (b12 = true → (C_M_holdsOf g x1 x2 x3 I9 L10 c11 (fun r16 I13 L14 c15 => Q r16 I13 L14 c15))))))))))))))) : C_M_holds g x1 x2 x3 I L c Q := by
  refine gm_enter (lv := [(0, .ref 59), (1, .int x1), (2, .int x2), (3, .int x3)]) (by decide) rfl rfl rfl rfl ?_
  show Z_M_holds g Q 0 [(0, .ref 59), (1, .int x1), (2, .int x2), (3, .int x3)] [] I L c
  refine gx_aload_n 0 dX11_holds_0 rfl rfl ?_
  refine gx_iconst (v := 0) dX11_holds_1 (by decide) ?_
  refine gx_puti 11 0 dX11_holds_2 fl_X11_1 rfl rfl rfl ⟨rfl, rfl⟩ ?_
  show Z_M_holds g Q 5 [(0, .ref 59), (1, .int x1), (2, .int x2), (3, .int x3)] [] (gm_u I 59 0 0) L c
  refine gx_iload_n 1 dX11_holds_5 rfl rfl ?_
  refine gx_i2l dX11_holds_6 ?_
  refine gx_lconst (v := 1) dX11_holds_7 (by decide) ?_
  refine gx_ldc2 dX11_holds_8 kl_X11_321 ?_
  refine gx_callS (As := [.long (Int32.toInt64 x1), .long 1, .long 99]) (st := []) dX11_holds_11 ml_X11_125 mm_X11_within rfl rfl rfl rfl ⟨rfl, rfl⟩ h (fun v h2 hq => ?_)
  clear h
  obtain ⟨b4, I1, L2, c3, rfl, rfl, h⟩ := hq
  show Z_M_holds g Q 14 [(0, .ref 59), (1, .int x1), (2, .int x2), (3, .int x3)] [.int (gm_b b4)] I1 L2 c3
  refine gx_if_eq 50 dX11_holds_14 (by decide) ⟨fun z => ?_, fun z => ?_⟩
  · replace h := h.1 (gm_b0.mp z)
    refine gx_bipush (v := (-3)) dX11_holds_50 (by decide) ?_
    exact gx_iret dX11_holds_52 rfl rfl rfl ⟨_, _, _, _, rfl, rfl, h⟩
  · replace h := h.2 (gm_bn0 z)
    refine gx_iload_n 2 dX11_holds_17 rfl rfl ?_
    refine gx_i2l dX11_holds_18 ?_
    refine gx_lconst (v := 1) dX11_holds_19 (by decide) ?_
    refine gx_ldc2 dX11_holds_20 kl_X11_319 ?_
    refine gx_callS (As := [.long (Int32.toInt64 x2), .long 1, .long 30]) (st := []) dX11_holds_23 ml_X11_125 mm_X11_within rfl rfl rfl rfl ⟨rfl, rfl⟩ h (fun v h2 hq => ?_)
    clear h
    obtain ⟨b8, I5, L6, c7, rfl, rfl, h⟩ := hq
    show Z_M_holds g Q 26 [(0, .ref 59), (1, .int x1), (2, .int x2), (3, .int x3)] [.int (gm_b b8)] I5 L6 c7
    refine gx_if_eq 50 dX11_holds_26 (by decide) ⟨fun z => ?_, fun z => ?_⟩
    · replace h := h.1 (gm_b0.mp z)
      refine gx_bipush (v := (-3)) dX11_holds_50 (by decide) ?_
      exact gx_iret dX11_holds_52 rfl rfl rfl ⟨_, _, _, _, rfl, rfl, h⟩
    · replace h := h.2 (gm_bn0 z)
      refine gx_iload_n 3 dX11_holds_29 rfl rfl ?_
      refine gx_i2l dX11_holds_30 ?_
      refine gx_lconst (v := 0) dX11_holds_31 (by decide) ?_
      refine gx_ldc2 dX11_holds_32 kl_X11_321 ?_
      refine gx_callS (As := [.long (Int32.toInt64 x3), .long 0, .long 99]) (st := []) dX11_holds_35 ml_X11_125 mm_X11_within rfl rfl rfl rfl ⟨rfl, rfl⟩ h (fun v h2 hq => ?_)
      clear h
      obtain ⟨b12, I9, L10, c11, rfl, rfl, h⟩ := hq
      show Z_M_holds g Q 38 [(0, .ref 59), (1, .int x1), (2, .int x2), (3, .int x3)] [.int (gm_b b12)] I9 L10 c11
      refine gx_if_eq 50 dX11_holds_38 (by decide) ⟨fun z => ?_, fun z => ?_⟩
      · replace h := h.1 (gm_b0.mp z)
        refine gx_bipush (v := (-3)) dX11_holds_50 (by decide) ?_
        exact gx_iret dX11_holds_52 rfl rfl rfl ⟨_, _, _, _, rfl, rfl, h⟩
      · replace h := h.2 (gm_bn0 z)
        refine gx_iload_n 1 dX11_holds_41 rfl rfl ?_
        refine gx_iload_n 2 dX11_holds_42 rfl rfl ?_
        refine gx_iload_n 3 dX11_holds_43 rfl rfl ?_
        refine gx_callS (As := [.int x1, .int x2, .int x3]) (st := []) dX11_holds_44 ml_X11_323 mm_X11_holdsOf rfl rfl rfl rfl ⟨rfl, rfl⟩ h (fun v h2 hq => ?_)
        clear h
        obtain ⟨r16, I13, L14, c15, rfl, rfl, h⟩ := hq
        show Z_M_holds g Q 47 [(0, .ref 59), (1, .int x1), (2, .int x2), (3, .int x3)] [.int r16] I13 L14 c15
        refine gx_goto 52 dX11_holds_47 (by decide) ?_
        exact gx_iret dX11_holds_52 rfl rfl rfl ⟨_, _, _, _, rfl, rfl, h⟩
abbrev Z_M_layersFor (g : gm_G) (Q : Int32 → mI → mL → gm_cfg → Prop) (pc : Nat) (lv : List (Nat × Value)) (st : List Value) (I : mI) (L : mL) (c : gm_cfg) : Prop := gm_X g RX11 "layersFor" cX11_layersFor 5 (some .int) 2 0 0 (qI Q) 0 0 pc lv st (SH, I, L, RR c)
abbrev C_M_layersFor (g : gm_G) (x1 : Int32) (x2 : Int32) (x3 : Int32) (I : mI) (L : mL) (c : gm_cfg) (Q : Int32 → mI → mL → gm_cfg → Prop) : Prop := gm_Met g yX11_layersFor cX11_layersFor 5 (some .int) 2 0 0 [.ref 59, .int x1, .int x2, .int x3] (SH, I, L, RR c) (qI Q)
set_option maxRecDepth 100000 in
theorem e_M_layersFor {g : gm_G} {Q : Int32 → mI → mL → gm_cfg → Prop} {x1 x2 x3 : Int32} {I : mI} {L : mL} {c : gm_cfg} (h : (C_M_within g (Int32.toInt64 x1) 1 9999 (gm_u I 59 0 0) L c (fun b4 I1 L2 c3 => ((b4 = false → Q (-3) I1 L2 c3) ∧ (b4 = true → (C_M_within g (Int32.toInt64 x2) 1 30 I1 L2 c3 (fun b8 I5 L6 c7 => ((b8 = false → Q (-3) I5 L6 c7) ∧ (b8 = true → (C_M_within g (Int32.toInt64 x3) 0 99 I5 L6 c7 (fun b12 I9 L10 c11 => ((b12 = false → Q (-3) I9 L10 c11) ∧ (b12 = true → Z_M_layersFor g Q 47 [(0, .ref 59), (1, .int x1), (2, .int x2), (3, .int x3), (4, .int 1)] [] I9 L10 c11))))))))))))) : C_M_layersFor g x1 x2 x3 I L c Q := by
  refine gm_enter (lv := [(0, .ref 59), (1, .int x1), (2, .int x2), (3, .int x3)]) (by decide) rfl rfl rfl rfl ?_
  show Z_M_layersFor g Q 0 [(0, .ref 59), (1, .int x1), (2, .int x2), (3, .int x3)] [] I L c
  refine gx_aload_n 0 dX11_layersFor_0 rfl rfl ?_
  refine gx_iconst (v := 0) dX11_layersFor_1 (by decide) ?_
  refine gx_puti 11 0 dX11_layersFor_2 fl_X11_1 rfl rfl rfl ⟨rfl, rfl⟩ ?_
  show Z_M_layersFor g Q 5 [(0, .ref 59), (1, .int x1), (2, .int x2), (3, .int x3)] [] (gm_u I 59 0 0) L c
  refine gx_iload_n 1 dX11_layersFor_5 rfl rfl ?_
  refine gx_i2l dX11_layersFor_6 ?_
  refine gx_lconst (v := 1) dX11_layersFor_7 (by decide) ?_
  refine gx_ldc2 dX11_layersFor_8 kl_X11_327 ?_
  refine gx_callS (As := [.long (Int32.toInt64 x1), .long 1, .long 9999]) (st := []) dX11_layersFor_11 ml_X11_125 mm_X11_within rfl rfl rfl rfl ⟨rfl, rfl⟩ h (fun v h2 hq => ?_)
  clear h
  obtain ⟨b4, I1, L2, c3, rfl, rfl, h⟩ := hq
  show Z_M_layersFor g Q 14 [(0, .ref 59), (1, .int x1), (2, .int x2), (3, .int x3)] [.int (gm_b b4)] I1 L2 c3
  refine gx_if_eq 41 dX11_layersFor_14 (by decide) ⟨fun z => ?_, fun z => ?_⟩
  · replace h := h.1 (gm_b0.mp z)
    refine gx_bipush (v := (-3)) dX11_layersFor_41 (by decide) ?_
    exact gx_iret dX11_layersFor_43 rfl rfl rfl ⟨_, _, _, _, rfl, rfl, h⟩
  · replace h := h.2 (gm_bn0 z)
    refine gx_iload_n 2 dX11_layersFor_17 rfl rfl ?_
    refine gx_i2l dX11_layersFor_18 ?_
    refine gx_lconst (v := 1) dX11_layersFor_19 (by decide) ?_
    refine gx_ldc2 dX11_layersFor_20 kl_X11_319 ?_
    refine gx_callS (As := [.long (Int32.toInt64 x2), .long 1, .long 30]) (st := []) dX11_layersFor_23 ml_X11_125 mm_X11_within rfl rfl rfl rfl ⟨rfl, rfl⟩ h (fun v h2 hq => ?_)
    clear h
    obtain ⟨b8, I5, L6, c7, rfl, rfl, h⟩ := hq
    show Z_M_layersFor g Q 26 [(0, .ref 59), (1, .int x1), (2, .int x2), (3, .int x3)] [.int (gm_b b8)] I5 L6 c7
    refine gx_if_eq 41 dX11_layersFor_26 (by decide) ⟨fun z => ?_, fun z => ?_⟩
    · replace h := h.1 (gm_b0.mp z)
      refine gx_bipush (v := (-3)) dX11_layersFor_41 (by decide) ?_
      exact gx_iret dX11_layersFor_43 rfl rfl rfl ⟨_, _, _, _, rfl, rfl, h⟩
    · replace h := h.2 (gm_bn0 z)
      refine gx_iload_n 3 dX11_layersFor_29 rfl rfl ?_
      refine gx_i2l dX11_layersFor_30 ?_
      refine gx_lconst (v := 0) dX11_layersFor_31 (by decide) ?_
      refine gx_ldc2 dX11_layersFor_32 kl_X11_321 ?_
      refine gx_callS (As := [.long (Int32.toInt64 x3), .long 0, .long 99]) (st := []) dX11_layersFor_35 ml_X11_125 mm_X11_within rfl rfl rfl rfl ⟨rfl, rfl⟩ h (fun v h2 hq => ?_)
      clear h
      obtain ⟨b12, I9, L10, c11, rfl, rfl, h⟩ := hq
      show Z_M_layersFor g Q 38 [(0, .ref 59), (1, .int x1), (2, .int x2), (3, .int x3)] [.int (gm_b b12)] I9 L10 c11
      refine gx_if_ne 44 dX11_layersFor_38 (by decide) ⟨fun z => ?_, fun z => ?_⟩
      · replace h := h.1 (gm_b0.mp z)
        refine gx_bipush (v := (-3)) dX11_layersFor_41 (by decide) ?_
        exact gx_iret dX11_layersFor_43 rfl rfl rfl ⟨_, _, _, _, rfl, rfl, h⟩
      · replace h := h.2 (gm_bn0 z)
        refine gx_iconst (v := 1) dX11_layersFor_44 (by decide) ?_
        refine gx_istore (lv' := [(0, .ref 59), (1, .int x1), (2, .int x2), (3, .int x3), (4, .int 1)]) dX11_layersFor_45 rfl rfl ?_
        exact h
set_option maxRecDepth 100000 in
theorem r_M_layersFor_47 {g : gm_G} {Q : Int32 → mI → mL → gm_cfg → Prop} {x1 x2 x3 x4 : Int32} {I : mI} {L : mL} {c : gm_cfg} (h : ((100 ≤ x4 → Q (-1) I L c) ∧ (¬ 100 ≤ x4 → (C_M_holdsOf g x4 x2 x3 I L c (fun r4 I1 L2 c3 => ((r4 < x1 → Z_M_layersFor g Q 47 [(0, .ref 59), (1, .int x1), (2, .int x2), (3, .int x3), (4, .int (x4 + 1))] [] I1 L2 c3) ∧ (¬ r4 < x1 → Q x4 I1 L2 c3))))))) : Z_M_layersFor g Q 47 [(0, .ref 59), (1, .int x1), (2, .int x2), (3, .int x3), (4, .int x4)] [] I L c := by
  refine gx_iload 4 dX11_layersFor_47 rfl ?_
  refine gx_bipush (v := 100) dX11_layersFor_49 (by decide) ?_
  refine gx_icmp_ge 74 dX11_layersFor_51 (by decide) ⟨fun z => ?_, fun z => ?_⟩
  · replace h := h.1 z
    refine gx_iconst (v := (-1)) dX11_layersFor_74 (by decide) ?_
    exact gx_iret dX11_layersFor_75 rfl rfl rfl ⟨_, _, _, _, rfl, rfl, h⟩
  · replace h := h.2 z
    refine gx_iload 4 dX11_layersFor_54 rfl ?_
    refine gx_iload_n 2 dX11_layersFor_56 rfl rfl ?_
    refine gx_iload_n 3 dX11_layersFor_57 rfl rfl ?_
    refine gx_callS (As := [.int x4, .int x2, .int x3]) (st := []) dX11_layersFor_58 ml_X11_323 mm_X11_holdsOf rfl rfl rfl rfl ⟨rfl, rfl⟩ h (fun v h2 hq => ?_)
    clear h
    obtain ⟨r4, I1, L2, c3, rfl, rfl, h⟩ := hq
    show Z_M_layersFor g Q 61 [(0, .ref 59), (1, .int x1), (2, .int x2), (3, .int x3), (4, .int x4)] [.int r4] I1 L2 c3
    refine gx_iload_n 1 dX11_layersFor_61 rfl rfl ?_
    refine gx_icmp_lt 68 dX11_layersFor_62 (by decide) ⟨fun z => ?_, fun z => ?_⟩
    · replace h := h.1 z
      refine gx_iinc (v := (x4 + 1)) (lv' := [(0, .ref 59), (1, .int x1), (2, .int x2), (3, .int x3), (4, .int (x4 + 1))]) 4 dX11_layersFor_68 rfl rfl rfl rfl ?_
      refine gx_goto 47 dX11_layersFor_71 (by decide) ?_
      exact h
    · replace h := h.2 z
      refine gx_iload 4 dX11_layersFor_65 rfl ?_
      exact gx_iret dX11_layersFor_67 rfl rfl rfl ⟨_, _, _, _, rfl, rfl, h⟩
abbrev Z_M_numbers (g : gm_G) (Q : Int32 → mI → mL → gm_cfg → Prop) (pc : Nat) (lv : List (Nat × Value)) (st : List Value) (I : mI) (L : mL) (c : gm_cfg) : Prop := gm_X g RX11 "numbers" cX11_numbers 5 (some .int) 2 0 0 (qI Q) 0 0 pc lv st (SH, I, L, RR c)
abbrev C_M_numbers (g : gm_G) (x1 : Int32) (x2 : Int32) (x3 : Int32) (I : mI) (L : mL) (c : gm_cfg) (Q : Int32 → mI → mL → gm_cfg → Prop) : Prop := gm_Met g yX11_numbers cX11_numbers 5 (some .int) 2 0 0 [.ref 59, .int x1, .int x2, .int x3] (SH, I, L, RR c) (qI Q)
set_option maxRecDepth 100000 in
theorem e_M_numbers {g : gm_G} {Q : Int32 → mI → mL → gm_cfg → Prop} {x1 x2 x3 : Int32} {I : mI} {L : mL} {c : gm_cfg} (h : (C_M_within g (Int32.toInt64 x1) 0 3 (gm_u I 59 0 0) L c (fun b4 I1 L2 c3 => ((b4 = false → Q (-2) I1 L2 c3) ∧ (b4 = true → (C_M_within g (Int32.toInt64 x2) 0 3 I1 L2 c3 (fun b8 I5 L6 c7 => ((b8 = false → Q (-2) I5 L6 c7) ∧ (b8 = true → (C_M_within g (Int32.toInt64 x3) 0 40 I5 L6 c7 (fun b12 I9 L10 c11 => ((b12 = false → Q (-3) I9 L10 c11) ∧ (b12 = true → (vp_in x1 4 ∧ (vp_in x1 4 ∧ Z_M_numbers g Q 64 [(0, .ref 59), (1, .int x1), (2, .int x2), (3, .int x3), (4, .int 0)] [] (gm_u (gm_u I9 71 (Int32.toNatClampNeg x1) x2) 72 (Int32.toNatClampNeg x1) x3) L10 c11))))))))))))))) : C_M_numbers g x1 x2 x3 I L c Q := by
  refine gm_enter (lv := [(0, .ref 59), (1, .int x1), (2, .int x2), (3, .int x3)]) (by decide) rfl rfl rfl rfl ?_
  show Z_M_numbers g Q 0 [(0, .ref 59), (1, .int x1), (2, .int x2), (3, .int x3)] [] I L c
  refine gx_aload_n 0 dX11_numbers_0 rfl rfl ?_
  refine gx_iconst (v := 0) dX11_numbers_1 (by decide) ?_
  refine gx_puti 11 0 dX11_numbers_2 fl_X11_1 rfl rfl rfl ⟨rfl, rfl⟩ ?_
  show Z_M_numbers g Q 5 [(0, .ref 59), (1, .int x1), (2, .int x2), (3, .int x3)] [] (gm_u I 59 0 0) L c
  refine gx_iload_n 1 dX11_numbers_5 rfl rfl ?_
  refine gx_i2l dX11_numbers_6 ?_
  refine gx_lconst (v := 0) dX11_numbers_7 (by decide) ?_
  refine gx_ldc2 dX11_numbers_8 kl_X11_194 ?_
  refine gx_callS (As := [.long (Int32.toInt64 x1), .long 0, .long 3]) (st := []) dX11_numbers_11 ml_X11_125 mm_X11_within rfl rfl rfl rfl ⟨rfl, rfl⟩ h (fun v h2 hq => ?_)
  clear h
  obtain ⟨b4, I1, L2, c3, rfl, rfl, h⟩ := hq
  show Z_M_numbers g Q 14 [(0, .ref 59), (1, .int x1), (2, .int x2), (3, .int x3)] [.int (gm_b b4)] I1 L2 c3
  refine gx_if_eq 29 dX11_numbers_14 (by decide) ⟨fun z => ?_, fun z => ?_⟩
  · replace h := h.1 (gm_b0.mp z)
    refine gx_bipush (v := (-2)) dX11_numbers_29 (by decide) ?_
    exact gx_iret dX11_numbers_31 rfl rfl rfl ⟨_, _, _, _, rfl, rfl, h⟩
  · replace h := h.2 (gm_bn0 z)
    refine gx_iload_n 2 dX11_numbers_17 rfl rfl ?_
    refine gx_i2l dX11_numbers_18 ?_
    refine gx_lconst (v := 0) dX11_numbers_19 (by decide) ?_
    refine gx_ldc2 dX11_numbers_20 kl_X11_194 ?_
    refine gx_callS (As := [.long (Int32.toInt64 x2), .long 0, .long 3]) (st := []) dX11_numbers_23 ml_X11_125 mm_X11_within rfl rfl rfl rfl ⟨rfl, rfl⟩ h (fun v h2 hq => ?_)
    clear h
    obtain ⟨b8, I5, L6, c7, rfl, rfl, h⟩ := hq
    show Z_M_numbers g Q 26 [(0, .ref 59), (1, .int x1), (2, .int x2), (3, .int x3)] [.int (gm_b b8)] I5 L6 c7
    refine gx_if_ne 32 dX11_numbers_26 (by decide) ⟨fun z => ?_, fun z => ?_⟩
    · replace h := h.1 (gm_b0.mp z)
      refine gx_bipush (v := (-2)) dX11_numbers_29 (by decide) ?_
      exact gx_iret dX11_numbers_31 rfl rfl rfl ⟨_, _, _, _, rfl, rfl, h⟩
    · replace h := h.2 (gm_bn0 z)
      refine gx_iload_n 3 dX11_numbers_32 rfl rfl ?_
      refine gx_i2l dX11_numbers_33 ?_
      refine gx_lconst (v := 0) dX11_numbers_34 (by decide) ?_
      refine gx_ldc2 dX11_numbers_35 kl_X11_214 ?_
      refine gx_callS (As := [.long (Int32.toInt64 x3), .long 0, .long 40]) (st := []) dX11_numbers_38 ml_X11_125 mm_X11_within rfl rfl rfl rfl ⟨rfl, rfl⟩ h (fun v h2 hq => ?_)
      clear h
      obtain ⟨b12, I9, L10, c11, rfl, rfl, h⟩ := hq
      show Z_M_numbers g Q 41 [(0, .ref 59), (1, .int x1), (2, .int x2), (3, .int x3)] [.int (gm_b b12)] I9 L10 c11
      refine gx_if_ne 47 dX11_numbers_41 (by decide) ⟨fun z => ?_, fun z => ?_⟩
      · replace h := h.1 (gm_b0.mp z)
        refine gx_bipush (v := (-3)) dX11_numbers_44 (by decide) ?_
        exact gx_iret dX11_numbers_46 rfl rfl rfl ⟨_, _, _, _, rfl, rfl, h⟩
      · replace h := h.2 (gm_bn0 z)
        refine gx_aload_n 0 dX11_numbers_47 rfl rfl ?_
        refine gx_getr 11 29 (v := 71) dX11_numbers_48 fl_X11_52 rfl rfl rfl ?_
        refine gx_iload_n 1 dX11_numbers_51 rfl rfl ?_
        refine gx_iload_n 2 dX11_numbers_52 rfl rfl ?_
        obtain ⟨hi, h⟩ := h
        refine gx_iast dX11_numbers_53 rfl rfl hi (k := (Int32.toNatClampNeg x1)) rfl ?_
        show Z_M_numbers g Q 54 [(0, .ref 59), (1, .int x1), (2, .int x2), (3, .int x3)] [] (gm_u I9 71 (Int32.toNatClampNeg x1) x2) L10 c11
        refine gx_aload_n 0 dX11_numbers_54 rfl rfl ?_
        refine gx_getr 11 30 (v := 72) dX11_numbers_55 fl_X11_55 rfl rfl rfl ?_
        refine gx_iload_n 1 dX11_numbers_58 rfl rfl ?_
        refine gx_iload_n 3 dX11_numbers_59 rfl rfl ?_
        obtain ⟨hi, h⟩ := h
        refine gx_iast dX11_numbers_60 rfl rfl hi (k := (Int32.toNatClampNeg x1)) rfl ?_
        show Z_M_numbers g Q 61 [(0, .ref 59), (1, .int x1), (2, .int x2), (3, .int x3)] [] (gm_u (gm_u I9 71 (Int32.toNatClampNeg x1) x2) 72 (Int32.toNatClampNeg x1) x3) L10 c11
        refine gx_iconst (v := 0) dX11_numbers_61 (by decide) ?_
        refine gx_istore (lv' := [(0, .ref 59), (1, .int x1), (2, .int x2), (3, .int x3), (4, .int 0)]) dX11_numbers_62 rfl rfl ?_
        exact h
set_option maxRecDepth 100000 in
theorem r_M_numbers_64 {g : gm_G} {Q : Int32 → mI → mL → gm_cfg → Prop} {x1 x2 x3 x4 : Int32} {I : mI} {L : mL} {c : gm_cfg} (h : ((x3 ≤ x4 → Q 0 I L c) ∧ (¬ x3 ≤ x4 → (vp_in ((40 * x1) + x4) 160 ∧ Z_M_numbers g Q 64 [(0, .ref 59), (1, .int x1), (2, .int x2), (3, .int x3), (4, .int (x4 + 1))] [] I (gm_u L 73 (Int32.toNatClampNeg ((40 * x1) + x4)) 0) c)))) : Z_M_numbers g Q 64 [(0, .ref 59), (1, .int x1), (2, .int x2), (3, .int x3), (4, .int x4)] [] I L c := by
  refine gx_iload 4 dX11_numbers_64 rfl ?_
  refine gx_iload_n 3 dX11_numbers_66 rfl rfl ?_
  refine gx_icmp_ge 89 dX11_numbers_67 (by decide) ⟨fun z => ?_, fun z => ?_⟩
  · replace h := h.1 z
    refine gx_iconst (v := 0) dX11_numbers_89 (by decide) ?_
    exact gx_iret dX11_numbers_90 rfl rfl rfl ⟨_, _, _, _, rfl, rfl, h⟩
  · replace h := h.2 z
    refine gx_aload_n 0 dX11_numbers_70 rfl rfl ?_
    refine gx_getr 11 31 (v := 73) dX11_numbers_71 fl_X11_58 rfl rfl rfl ?_
    refine gx_bipush (v := 40) dX11_numbers_74 (by decide) ?_
    refine gx_iload_n 1 dX11_numbers_76 rfl rfl ?_
    refine gx_imul dX11_numbers_77 ?_
    refine gx_iload 4 dX11_numbers_78 rfl ?_
    refine gx_iadd dX11_numbers_80 ?_
    refine gx_lconst (v := 0) dX11_numbers_81 (by decide) ?_
    obtain ⟨hi, h⟩ := h
    refine gx_last dX11_numbers_82 rfl rfl hi (k := (Int32.toNatClampNeg ((40 * x1) + x4))) rfl ?_
    show Z_M_numbers g Q 83 [(0, .ref 59), (1, .int x1), (2, .int x2), (3, .int x3), (4, .int x4)] [] I (gm_u L 73 (Int32.toNatClampNeg ((40 * x1) + x4)) 0) c
    refine gx_iinc (v := (x4 + 1)) (lv' := [(0, .ref 59), (1, .int x1), (2, .int x2), (3, .int x3), (4, .int (x4 + 1))]) 4 dX11_numbers_83 rfl rfl rfl rfl ?_
    refine gx_goto 64 dX11_numbers_86 (by decide) ?_
    exact h
abbrev Z_M_cut (g : gm_G) (Q : Int64 → mI → mL → gm_cfg → Prop) (pc : Nat) (lv : List (Nat × Value)) (st : List Value) (I : mI) (L : mL) (c : gm_cfg) : Prop := gm_X g RX11 "cut" cX11_cut 3 (some .long) 1 0 0 (qL Q) 0 0 pc lv st (SH, I, L, RR c)
abbrev C_M_cut (g : gm_G) (x0 : Int64) (x2 : Int32) (I : mI) (L : mL) (c : gm_cfg) (Q : Int64 → mI → mL → gm_cfg → Prop) : Prop := gm_Met g yX11_cut cX11_cut 3 (some .long) 1 0 0 [.long x0, .int x2] (SH, I, L, RR c) (qL Q)
set_option maxRecDepth 100000 in
theorem e_M_cut {g : gm_G} {Q : Int64 → mI → mL → gm_cfg → Prop} {x2 : Int32} {x0 : Int64} {I : mI} {L : mL} {c : gm_cfg} (h : ((x2 = 0 → Q (Int32.toInt64 (Int8.toInt32 (Int32.toInt8 (Int64.toInt32 x0)))) I L c) ∧ (¬ x2 = 0 → ((x2 = 1 → Q (Int32.toInt64 (Int16.toInt32 (Int32.toInt16 (Int64.toInt32 x0)))) I L c) ∧ (¬ x2 = 1 → ((x2 = 2 → Q (Int32.toInt64 (Int64.toInt32 x0)) I L c) ∧ (¬ x2 = 2 → Q x0 I L c))))))) : C_M_cut g x0 x2 I L c Q := by
  refine gm_enter (lv := [(0, .long x0), (2, .int x2)]) (by decide) rfl rfl rfl rfl ?_
  show Z_M_cut g Q 0 [(0, .long x0), (2, .int x2)] [] I L c
  refine gx_iload_n 1 dX11_cut_0 rfl rfl ?_
  refine gx_if_ne 11 dX11_cut_1 (by decide) ⟨fun z => ?_, fun z => ?_⟩
  · replace h := h.1 z
    refine gx_lload_n 0 dX11_cut_4 rfl rfl ?_
    refine gx_l2i dX11_cut_5 ?_
    refine gx_i2b dX11_cut_6 ?_
    refine gx_i2l dX11_cut_7 ?_
    refine gx_goto 35 dX11_cut_8 (by decide) ?_
    exact gx_lret dX11_cut_35 rfl rfl rfl ⟨_, _, _, _, rfl, rfl, h⟩
  · replace h := h.2 z
    refine gx_iload_n 1 dX11_cut_11 rfl rfl ?_
    refine gx_iconst (v := 1) dX11_cut_12 (by decide) ?_
    refine gx_icmp_ne 23 dX11_cut_13 (by decide) ⟨fun z => ?_, fun z => ?_⟩
    · replace h := h.1 z
      refine gx_lload_n 0 dX11_cut_16 rfl rfl ?_
      refine gx_l2i dX11_cut_17 ?_
      refine gx_i2s dX11_cut_18 ?_
      refine gx_i2l dX11_cut_19 ?_
      refine gx_goto 35 dX11_cut_20 (by decide) ?_
      exact gx_lret dX11_cut_35 rfl rfl rfl ⟨_, _, _, _, rfl, rfl, h⟩
    · replace h := h.2 z
      refine gx_iload_n 1 dX11_cut_23 rfl rfl ?_
      refine gx_iconst (v := 2) dX11_cut_24 (by decide) ?_
      refine gx_icmp_ne 34 dX11_cut_25 (by decide) ⟨fun z => ?_, fun z => ?_⟩
      · replace h := h.1 z
        refine gx_lload_n 0 dX11_cut_28 rfl rfl ?_
        refine gx_l2i dX11_cut_29 ?_
        refine gx_i2l dX11_cut_30 ?_
        refine gx_goto 35 dX11_cut_31 (by decide) ?_
        exact gx_lret dX11_cut_35 rfl rfl rfl ⟨_, _, _, _, rfl, rfl, h⟩
      · replace h := h.2 z
        refine gx_lload_n 0 dX11_cut_34 rfl rfl ?_
        exact gx_lret dX11_cut_35 rfl rfl rfl ⟨_, _, _, _, rfl, rfl, h⟩
abbrev Z_M_put (g : gm_G) (Q : Int64 → mI → mL → gm_cfg → Prop) (pc : Nat) (lv : List (Nat × Value)) (st : List Value) (I : mI) (L : mL) (c : gm_cfg) : Prop := gm_X g RX11 "put" cX11_put 5 (some .long) 2 0 0 (qL Q) 0 0 pc lv st (SH, I, L, RR c)
abbrev C_M_put (g : gm_G) (x1 : Int32) (x2 : Int32) (x3 : Int64) (I : mI) (L : mL) (c : gm_cfg) (Q : Int64 → mI → mL → gm_cfg → Prop) : Prop := gm_Met g yX11_put cX11_put 5 (some .long) 2 0 0 [.ref 59, .int x1, .int x2, .long x3] (SH, I, L, RR c) (qL Q)
set_option maxRecDepth 100000 in
theorem e_M_put {g : gm_G} {Q : Int64 → mI → mL → gm_cfg → Prop} {x1 x2 : Int32} {x3 : Int64} {I : mI} {L : mL} {c : gm_cfg} (h : (C_M_within g (Int32.toInt64 x1) 0 3 (gm_u I 59 0 0) L c (fun b4 I1 L2 c3 => ((b4 = false → Q (-2) I1 L2 c3) ∧ (b4 = true → (vp_in x1 4 ∧ (((I1 71 (Int32.toNatClampNeg x1)) = (-1) → Q (-6) I1 L2 c3) ∧ (¬ (I1 71 (Int32.toNatClampNeg x1)) = (-1) → (vp_in x1 4 ∧ (C_M_within g (Int32.toInt64 x2) 0 (Int32.toInt64 ((I1 72 (Int32.toNatClampNeg x1)) - 1)) I1 L2 c3 (fun b8 I5 L6 c7 => ((b8 = false → Q (-7) I5 L6 c7) ∧ (b8 = true → (vp_in x1 4 ∧ (C_M_cut g x3 (I5 71 (Int32.toNatClampNeg x1)) I5 L6 c7 (fun r12 I9 L10 c11 => (vp_in ((40 * x1) + x2) 160 ∧ (vp_in ((40 * x1) + x2) 160 ∧ Q ((gm_u L10 73 (Int32.toNatClampNeg ((40 * x1) + x2)) r12) 73 (Int32.toNatClampNeg ((40 * x1) + x2))) I9 (gm_u L10 73 (Int32.toNatClampNeg ((40 * x1) + x2)) r12) c11)))))))))))))))))) : C_M_put g x1 x2 x3 I L c Q := by
  refine gm_enter (lv := [(0, .ref 59), (1, .int x1), (2, .int x2), (3, .long x3)]) (by decide) rfl rfl rfl rfl ?_
  show Z_M_put g Q 0 [(0, .ref 59), (1, .int x1), (2, .int x2), (3, .long x3)] [] I L c
  refine gx_aload_n 0 dX11_put_0 rfl rfl ?_
  refine gx_iconst (v := 0) dX11_put_1 (by decide) ?_
  refine gx_puti 11 0 dX11_put_2 fl_X11_1 rfl rfl rfl ⟨rfl, rfl⟩ ?_
  show Z_M_put g Q 5 [(0, .ref 59), (1, .int x1), (2, .int x2), (3, .long x3)] [] (gm_u I 59 0 0) L c
  refine gx_iload_n 1 dX11_put_5 rfl rfl ?_
  refine gx_i2l dX11_put_6 ?_
  refine gx_lconst (v := 0) dX11_put_7 (by decide) ?_
  refine gx_ldc2 dX11_put_8 kl_X11_194 ?_
  refine gx_callS (As := [.long (Int32.toInt64 x1), .long 0, .long 3]) (st := []) dX11_put_11 ml_X11_125 mm_X11_within rfl rfl rfl rfl ⟨rfl, rfl⟩ h (fun v h2 hq => ?_)
  clear h
  obtain ⟨b4, I1, L2, c3, rfl, rfl, h⟩ := hq
  show Z_M_put g Q 14 [(0, .ref 59), (1, .int x1), (2, .int x2), (3, .long x3)] [.int (gm_b b4)] I1 L2 c3
  refine gx_if_ne 21 dX11_put_14 (by decide) ⟨fun z => ?_, fun z => ?_⟩
  · replace h := h.1 (gm_b0.mp z)
    refine gx_ldc2 dX11_put_17 kl_X11_255 ?_
    exact gx_lret dX11_put_20 rfl rfl rfl ⟨_, _, _, _, rfl, rfl, h⟩
  · replace h := h.2 (gm_bn0 z)
    refine gx_aload_n 0 dX11_put_21 rfl rfl ?_
    refine gx_getr 11 29 (v := 71) dX11_put_22 fl_X11_52 rfl rfl rfl ?_
    refine gx_iload_n 1 dX11_put_25 rfl rfl ?_
    obtain ⟨hi, h⟩ := h
    refine gx_iald (v := (I1 71 (Int32.toNatClampNeg x1))) dX11_put_26 rfl rfl hi (k := (Int32.toNatClampNeg x1)) rfl rfl ?_
    refine gx_iconst (v := (-1)) dX11_put_27 (by decide) ?_
    refine gx_icmp_ne 35 dX11_put_28 (by decide) ⟨fun z => ?_, fun z => ?_⟩
    · replace h := h.1 z
      refine gx_ldc2 dX11_put_31 kl_X11_329 ?_
      exact gx_lret dX11_put_34 rfl rfl rfl ⟨_, _, _, _, rfl, rfl, h⟩
    · replace h := h.2 z
      refine gx_iload_n 2 dX11_put_35 rfl rfl ?_
      refine gx_i2l dX11_put_36 ?_
      refine gx_lconst (v := 0) dX11_put_37 (by decide) ?_
      refine gx_aload_n 0 dX11_put_38 rfl rfl ?_
      refine gx_getr 11 30 (v := 72) dX11_put_39 fl_X11_55 rfl rfl rfl ?_
      refine gx_iload_n 1 dX11_put_42 rfl rfl ?_
      obtain ⟨hi, h⟩ := h
      refine gx_iald (v := (I1 72 (Int32.toNatClampNeg x1))) dX11_put_43 rfl rfl hi (k := (Int32.toNatClampNeg x1)) rfl rfl ?_
      refine gx_iconst (v := 1) dX11_put_44 (by decide) ?_
      refine gx_isub dX11_put_45 ?_
      refine gx_i2l dX11_put_46 ?_
      refine gx_callS (As := [.long (Int32.toInt64 x2), .long 0, .long (Int32.toInt64 ((I1 72 (Int32.toNatClampNeg x1)) - 1))]) (st := []) dX11_put_47 ml_X11_125 mm_X11_within rfl rfl rfl rfl ⟨rfl, rfl⟩ h (fun v h2 hq => ?_)
      clear h
      obtain ⟨b8, I5, L6, c7, rfl, rfl, h⟩ := hq
      show Z_M_put g Q 50 [(0, .ref 59), (1, .int x1), (2, .int x2), (3, .long x3)] [.int (gm_b b8)] I5 L6 c7
      refine gx_if_ne 57 dX11_put_50 (by decide) ⟨fun z => ?_, fun z => ?_⟩
      · replace h := h.1 (gm_b0.mp z)
        refine gx_ldc2 dX11_put_53 kl_X11_331 ?_
        exact gx_lret dX11_put_56 rfl rfl rfl ⟨_, _, _, _, rfl, rfl, h⟩
      · replace h := h.2 (gm_bn0 z)
        refine gx_aload_n 0 dX11_put_57 rfl rfl ?_
        refine gx_getr 11 31 (v := 73) dX11_put_58 fl_X11_58 rfl rfl rfl ?_
        refine gx_bipush (v := 40) dX11_put_61 (by decide) ?_
        refine gx_iload_n 1 dX11_put_63 rfl rfl ?_
        refine gx_imul dX11_put_64 ?_
        refine gx_iload_n 2 dX11_put_65 rfl rfl ?_
        refine gx_iadd dX11_put_66 ?_
        refine gx_lload_n 3 dX11_put_67 rfl rfl ?_
        refine gx_aload_n 0 dX11_put_68 rfl rfl ?_
        refine gx_getr 11 29 (v := 71) dX11_put_69 fl_X11_52 rfl rfl rfl ?_
        refine gx_iload_n 1 dX11_put_72 rfl rfl ?_
        obtain ⟨hi, h⟩ := h
        refine gx_iald (v := (I5 71 (Int32.toNatClampNeg x1))) dX11_put_73 rfl rfl hi (k := (Int32.toNatClampNeg x1)) rfl rfl ?_
        refine gx_callS (As := [.long x3, .int (I5 71 (Int32.toNatClampNeg x1))]) (st := [.int ((40 * x1) + x2), .ref 73]) dX11_put_74 ml_X11_333 mm_X11_cut rfl rfl rfl rfl ⟨rfl, rfl⟩ h (fun v h2 hq => ?_)
        clear h
        obtain ⟨r12, I9, L10, c11, rfl, rfl, h⟩ := hq
        show Z_M_put g Q 77 [(0, .ref 59), (1, .int x1), (2, .int x2), (3, .long x3)] [.long r12, .int ((40 * x1) + x2), .ref 73] I9 L10 c11
        obtain ⟨hi, h⟩ := h
        refine gx_last dX11_put_77 rfl rfl hi (k := (Int32.toNatClampNeg ((40 * x1) + x2))) rfl ?_
        show Z_M_put g Q 78 [(0, .ref 59), (1, .int x1), (2, .int x2), (3, .long x3)] [] I9 (gm_u L10 73 (Int32.toNatClampNeg ((40 * x1) + x2)) r12) c11
        refine gx_aload_n 0 dX11_put_78 rfl rfl ?_
        refine gx_getr 11 31 (v := 73) dX11_put_79 fl_X11_58 rfl rfl rfl ?_
        refine gx_bipush (v := 40) dX11_put_82 (by decide) ?_
        refine gx_iload_n 1 dX11_put_84 rfl rfl ?_
        refine gx_imul dX11_put_85 ?_
        refine gx_iload_n 2 dX11_put_86 rfl rfl ?_
        refine gx_iadd dX11_put_87 ?_
        obtain ⟨hi, h⟩ := h
        refine gx_lald (v := ((gm_u L10 73 (Int32.toNatClampNeg ((40 * x1) + x2)) r12) 73 (Int32.toNatClampNeg ((40 * x1) + x2)))) dX11_put_88 rfl rfl hi (k := (Int32.toNatClampNeg ((40 * x1) + x2))) rfl rfl ?_
        exact gx_lret dX11_put_89 rfl rfl rfl ⟨_, _, _, _, rfl, rfl, h⟩
abbrev Z_M_copy (g : gm_G) (Q : Int32 → mI → mL → gm_cfg → Prop) (pc : Nat) (lv : List (Nat × Value)) (st : List Value) (I : mI) (L : mL) (c : gm_cfg) : Prop := gm_X g RX11 "copy" cX11_copy 4 (some .int) 2 0 0 (qI Q) 0 0 pc lv st (SH, I, L, RR c)
abbrev C_M_copy (g : gm_G) (x1 : Int32) (I : mI) (L : mL) (c : gm_cfg) (Q : Int32 → mI → mL → gm_cfg → Prop) : Prop := gm_Met g yX11_copy cX11_copy 4 (some .int) 2 0 0 [.ref 59, .int x1] (SH, I, L, RR c) (qI Q)
set_option maxRecDepth 100000 in
theorem e_M_copy {g : gm_G} {Q : Int32 → mI → mL → gm_cfg → Prop} {x1 : Int32} {I : mI} {L : mL} {c : gm_cfg} (h : (C_M_within g (Int32.toInt64 x1) 0 3 (gm_u I 59 0 0) L c (fun b4 I1 L2 c3 => ((b4 = false → Q (-2) I1 L2 c3) ∧ (b4 = true → (vp_in x1 4 ∧ (((I1 71 (Int32.toNatClampNeg x1)) = (-1) → Q (-6) I1 L2 c3) ∧ (¬ (I1 71 (Int32.toNatClampNeg x1)) = (-1) → (vp_in x1 4 ∧ (((I1 72 (Int32.toNatClampNeg x1)) ≤ (I1 60 1) → (vp_in x1 4 ∧ Z_M_copy g Q 66 [(0, .ref 59), (1, .int x1), (2, .int (I1 72 (Int32.toNatClampNeg x1))), (3, .int 0)] [] I1 L2 c3)) ∧ (¬ (I1 72 (Int32.toNatClampNeg x1)) ≤ (I1 60 1) → Z_M_copy g Q 66 [(0, .ref 59), (1, .int x1), (2, .int (I1 60 1)), (3, .int 0)] [] I1 L2 c3))))))))))) : C_M_copy g x1 I L c Q := by
  refine gm_enter (lv := [(0, .ref 59), (1, .int x1)]) (by decide) rfl rfl rfl rfl ?_
  show Z_M_copy g Q 0 [(0, .ref 59), (1, .int x1)] [] I L c
  refine gx_aload_n 0 dX11_copy_0 rfl rfl ?_
  refine gx_iconst (v := 0) dX11_copy_1 (by decide) ?_
  refine gx_puti 11 0 dX11_copy_2 fl_X11_1 rfl rfl rfl ⟨rfl, rfl⟩ ?_
  show Z_M_copy g Q 5 [(0, .ref 59), (1, .int x1)] [] (gm_u I 59 0 0) L c
  refine gx_iload_n 1 dX11_copy_5 rfl rfl ?_
  refine gx_i2l dX11_copy_6 ?_
  refine gx_lconst (v := 0) dX11_copy_7 (by decide) ?_
  refine gx_ldc2 dX11_copy_8 kl_X11_194 ?_
  refine gx_callS (As := [.long (Int32.toInt64 x1), .long 0, .long 3]) (st := []) dX11_copy_11 ml_X11_125 mm_X11_within rfl rfl rfl rfl ⟨rfl, rfl⟩ h (fun v h2 hq => ?_)
  clear h
  obtain ⟨b4, I1, L2, c3, rfl, rfl, h⟩ := hq
  show Z_M_copy g Q 14 [(0, .ref 59), (1, .int x1)] [.int (gm_b b4)] I1 L2 c3
  refine gx_if_ne 20 dX11_copy_14 (by decide) ⟨fun z => ?_, fun z => ?_⟩
  · replace h := h.1 (gm_b0.mp z)
    refine gx_bipush (v := (-2)) dX11_copy_17 (by decide) ?_
    exact gx_iret dX11_copy_19 rfl rfl rfl ⟨_, _, _, _, rfl, rfl, h⟩
  · replace h := h.2 (gm_bn0 z)
    refine gx_aload_n 0 dX11_copy_20 rfl rfl ?_
    refine gx_getr 11 29 (v := 71) dX11_copy_21 fl_X11_52 rfl rfl rfl ?_
    refine gx_iload_n 1 dX11_copy_24 rfl rfl ?_
    obtain ⟨hi, h⟩ := h
    refine gx_iald (v := (I1 71 (Int32.toNatClampNeg x1))) dX11_copy_25 rfl rfl hi (k := (Int32.toNatClampNeg x1)) rfl rfl ?_
    refine gx_iconst (v := (-1)) dX11_copy_26 (by decide) ?_
    refine gx_icmp_ne 33 dX11_copy_27 (by decide) ⟨fun z => ?_, fun z => ?_⟩
    · replace h := h.1 z
      refine gx_bipush (v := (-6)) dX11_copy_30 (by decide) ?_
      exact gx_iret dX11_copy_32 rfl rfl rfl ⟨_, _, _, _, rfl, rfl, h⟩
    · replace h := h.2 z
      refine gx_aload_n 0 dX11_copy_33 rfl rfl ?_
      refine gx_getr 11 1 (v := 60) dX11_copy_34 fl_X11_13 rfl rfl rfl ?_
      refine gx_iconst (v := 1) dX11_copy_37 (by decide) ?_
      refine gx_iald (v := (I1 60 1)) dX11_copy_38 rfl rfl (gm_vin rfl) (k := 1) rfl rfl ?_
      refine gx_aload_n 0 dX11_copy_39 rfl rfl ?_
      refine gx_getr 11 30 (v := 72) dX11_copy_40 fl_X11_55 rfl rfl rfl ?_
      refine gx_iload_n 1 dX11_copy_43 rfl rfl ?_
      obtain ⟨hi, h⟩ := h
      refine gx_iald (v := (I1 72 (Int32.toNatClampNeg x1))) dX11_copy_44 rfl rfl hi (k := (Int32.toNatClampNeg x1)) rfl rfl ?_
      refine gx_icmp_ge 57 dX11_copy_45 (by decide) ⟨fun z => ?_, fun z => ?_⟩
      · replace h := h.1 z
        refine gx_aload_n 0 dX11_copy_57 rfl rfl ?_
        refine gx_getr 11 30 (v := 72) dX11_copy_58 fl_X11_55 rfl rfl rfl ?_
        refine gx_iload_n 1 dX11_copy_61 rfl rfl ?_
        obtain ⟨hi, h⟩ := h
        refine gx_iald (v := (I1 72 (Int32.toNatClampNeg x1))) dX11_copy_62 rfl rfl hi (k := (Int32.toNatClampNeg x1)) rfl rfl ?_
        refine gx_istore_n (lv' := [(0, .ref 59), (1, .int x1), (2, .int (I1 72 (Int32.toNatClampNeg x1)))]) dX11_copy_63 rfl rfl rfl ?_
        refine gx_iconst (v := 0) dX11_copy_64 (by decide) ?_
        refine gx_istore_n (lv' := [(0, .ref 59), (1, .int x1), (2, .int (I1 72 (Int32.toNatClampNeg x1))), (3, .int 0)]) dX11_copy_65 rfl rfl rfl ?_
        exact h
      · replace h := h.2 z
        refine gx_aload_n 0 dX11_copy_48 rfl rfl ?_
        refine gx_getr 11 1 (v := 60) dX11_copy_49 fl_X11_13 rfl rfl rfl ?_
        refine gx_iconst (v := 1) dX11_copy_52 (by decide) ?_
        refine gx_iald (v := (I1 60 1)) dX11_copy_53 rfl rfl (gm_vin rfl) (k := 1) rfl rfl ?_
        refine gx_goto 63 dX11_copy_54 (by decide) ?_
        refine gx_istore_n (lv' := [(0, .ref 59), (1, .int x1), (2, .int (I1 60 1))]) dX11_copy_63 rfl rfl rfl ?_
        refine gx_iconst (v := 0) dX11_copy_64 (by decide) ?_
        refine gx_istore_n (lv' := [(0, .ref 59), (1, .int x1), (2, .int (I1 60 1)), (3, .int 0)]) dX11_copy_65 rfl rfl rfl ?_
        exact h
set_option maxRecDepth 100000 in
theorem r_M_copy_66 {g : gm_G} {Q : Int32 → mI → mL → gm_cfg → Prop} {x1 x2 x3 : Int32} {I : mI} {L : mL} {c : gm_cfg} (h : ((x2 ≤ x3 → Q x2 I L c) ∧ (¬ x2 ≤ x3 → (C_M_numberOf g x3 I L c (fun r4 I1 L2 c3 => (vp_in x1 4 ∧ (C_M_cut g (Int32.toInt64 r4) (I1 71 (Int32.toNatClampNeg x1)) I1 L2 c3 (fun r8 I5 L6 c7 => (vp_in ((40 * x1) + x3) 160 ∧ Z_M_copy g Q 66 [(0, .ref 59), (1, .int x1), (2, .int x2), (3, .int (x3 + 1))] [] I5 (gm_u L6 73 (Int32.toNatClampNeg ((40 * x1) + x3)) r8) c7))))))))) : Z_M_copy g Q 66 [(0, .ref 59), (1, .int x1), (2, .int x2), (3, .int x3)] [] I L c := by
  refine gx_iload_n 3 dX11_copy_66 rfl rfl ?_
  refine gx_iload_n 2 dX11_copy_67 rfl rfl ?_
  refine gx_icmp_ge 103 dX11_copy_68 (by decide) ⟨fun z => ?_, fun z => ?_⟩
  · replace h := h.1 z
    refine gx_iload_n 2 dX11_copy_103 rfl rfl ?_
    exact gx_iret dX11_copy_104 rfl rfl rfl ⟨_, _, _, _, rfl, rfl, h⟩
  · replace h := h.2 z
    refine gx_aload_n 0 dX11_copy_71 rfl rfl ?_
    refine gx_getr 11 31 (v := 73) dX11_copy_72 fl_X11_58 rfl rfl rfl ?_
    refine gx_bipush (v := 40) dX11_copy_75 (by decide) ?_
    refine gx_iload_n 1 dX11_copy_77 rfl rfl ?_
    refine gx_imul dX11_copy_78 ?_
    refine gx_iload_n 3 dX11_copy_79 rfl rfl ?_
    refine gx_iadd dX11_copy_80 ?_
    refine gx_aload_n 0 dX11_copy_81 rfl rfl ?_
    refine gx_iload_n 3 dX11_copy_82 rfl rfl ?_
    refine gx_callV 11 (As := [.int x3]) (st := [.int ((40 * x1) + x3), .ref 73]) dX11_copy_83 ml_X11_171 mm_X11_numberOf rfl rfl rfl rfl rfl rfl ⟨rfl, rfl⟩ h (fun v h2 hq => ?_)
    clear h
    obtain ⟨r4, I1, L2, c3, rfl, rfl, h⟩ := hq
    show Z_M_copy g Q 86 [(0, .ref 59), (1, .int x1), (2, .int x2), (3, .int x3)] [.int r4, .int ((40 * x1) + x3), .ref 73] I1 L2 c3
    refine gx_i2l dX11_copy_86 ?_
    refine gx_aload_n 0 dX11_copy_87 rfl rfl ?_
    refine gx_getr 11 29 (v := 71) dX11_copy_88 fl_X11_52 rfl rfl rfl ?_
    refine gx_iload_n 1 dX11_copy_91 rfl rfl ?_
    obtain ⟨hi, h⟩ := h
    refine gx_iald (v := (I1 71 (Int32.toNatClampNeg x1))) dX11_copy_92 rfl rfl hi (k := (Int32.toNatClampNeg x1)) rfl rfl ?_
    refine gx_callS (As := [.long (Int32.toInt64 r4), .int (I1 71 (Int32.toNatClampNeg x1))]) (st := [.int ((40 * x1) + x3), .ref 73]) dX11_copy_93 ml_X11_333 mm_X11_cut rfl rfl rfl rfl ⟨rfl, rfl⟩ h (fun v h2 hq => ?_)
    clear h
    obtain ⟨r8, I5, L6, c7, rfl, rfl, h⟩ := hq
    show Z_M_copy g Q 96 [(0, .ref 59), (1, .int x1), (2, .int x2), (3, .int x3)] [.long r8, .int ((40 * x1) + x3), .ref 73] I5 L6 c7
    obtain ⟨hi, h⟩ := h
    refine gx_last dX11_copy_96 rfl rfl hi (k := (Int32.toNatClampNeg ((40 * x1) + x3))) rfl ?_
    show Z_M_copy g Q 97 [(0, .ref 59), (1, .int x1), (2, .int x2), (3, .int x3)] [] I5 (gm_u L6 73 (Int32.toNatClampNeg ((40 * x1) + x3)) r8) c7
    refine gx_iinc (v := (x3 + 1)) (lv' := [(0, .ref 59), (1, .int x1), (2, .int x2), (3, .int (x3 + 1))]) 3 dX11_copy_97 rfl rfl rfl rfl ?_
    refine gx_goto 66 dX11_copy_100 (by decide) ?_
    exact h
abbrev Z_M_image (g : gm_G) (Q : Int32 → mI → mL → gm_cfg → Prop) (pc : Nat) (lv : List (Nat × Value)) (st : List Value) (I : mI) (L : mL) (c : gm_cfg) : Prop := gm_X g RX11 "image" cX11_image 3 (some .int) 2 0 0 (qI Q) 0 0 pc lv st (SH, I, L, RR c)
abbrev C_M_image (g : gm_G) (x1 : Int32) (I : mI) (L : mL) (c : gm_cfg) (Q : Int32 → mI → mL → gm_cfg → Prop) : Prop := gm_Met g yX11_image cX11_image 3 (some .int) 2 0 0 [.ref 59, .int x1] (SH, I, L, RR c) (qI Q)
set_option maxRecDepth 100000 in
theorem e_M_image {g : gm_G} {Q : Int32 → mI → mL → gm_cfg → Prop} {x1 : Int32} {I : mI} {L : mL} {c : gm_cfg} (h : (C_M_within g (Int32.toInt64 x1) 0 1 (gm_u I 59 0 0) L c (fun b4 I1 L2 c3 => ((b4 = false → Q (-2) I1 L2 c3) ∧ (b4 = true → Z_M_image g Q 20 [(0, .ref 59), (1, .int x1), (2, .int 0)] [] I1 L2 c3))))) : C_M_image g x1 I L c Q := by
  refine gm_enter (lv := [(0, .ref 59), (1, .int x1)]) (by decide) rfl rfl rfl rfl ?_
  show Z_M_image g Q 0 [(0, .ref 59), (1, .int x1)] [] I L c
  refine gx_aload_n 0 dX11_image_0 rfl rfl ?_
  refine gx_iconst (v := 0) dX11_image_1 (by decide) ?_
  refine gx_puti 11 0 dX11_image_2 fl_X11_1 rfl rfl rfl ⟨rfl, rfl⟩ ?_
  show Z_M_image g Q 5 [(0, .ref 59), (1, .int x1)] [] (gm_u I 59 0 0) L c
  refine gx_iload_n 1 dX11_image_5 rfl rfl ?_
  refine gx_i2l dX11_image_6 ?_
  refine gx_lconst (v := 0) dX11_image_7 (by decide) ?_
  refine gx_lconst (v := 1) dX11_image_8 (by decide) ?_
  refine gx_callS (As := [.long (Int32.toInt64 x1), .long 0, .long 1]) (st := []) dX11_image_9 ml_X11_125 mm_X11_within rfl rfl rfl rfl ⟨rfl, rfl⟩ h (fun v h2 hq => ?_)
  clear h
  obtain ⟨b4, I1, L2, c3, rfl, rfl, h⟩ := hq
  show Z_M_image g Q 12 [(0, .ref 59), (1, .int x1)] [.int (gm_b b4)] I1 L2 c3
  refine gx_if_ne 18 dX11_image_12 (by decide) ⟨fun z => ?_, fun z => ?_⟩
  · replace h := h.1 (gm_b0.mp z)
    refine gx_bipush (v := (-2)) dX11_image_15 (by decide) ?_
    exact gx_iret dX11_image_17 rfl rfl rfl ⟨_, _, _, _, rfl, rfl, h⟩
  · replace h := h.2 (gm_bn0 z)
    refine gx_iconst (v := 0) dX11_image_18 (by decide) ?_
    refine gx_istore_n (lv' := [(0, .ref 59), (1, .int x1), (2, .int 0)]) dX11_image_19 rfl rfl rfl ?_
    exact h
set_option maxRecDepth 100000 in
theorem r_M_image_20 {g : gm_G} {Q : Int32 → mI → mL → gm_cfg → Prop} {x1 x2 : Int32} {I : mI} {L : mL} {c : gm_cfg} (h : ((110 ≤ x2 → (vp_in x1 2 ∧ Q 0 (gm_u I 61 (Int32.toNatClampNeg x1) (vp_nar .boolean 1)) L c)) ∧ (¬ 110 ≤ x2 → (vp_in x2 330 ∧ (vp_in ((110 * (x1 + 1)) + x2) 330 ∧ Z_M_image g Q 20 [(0, .ref 59), (1, .int x1), (2, .int (x2 + 1))] [] (gm_u I 60 (Int32.toNatClampNeg ((110 * (x1 + 1)) + x2)) (I 60 (Int32.toNatClampNeg x2))) L c))))) : Z_M_image g Q 20 [(0, .ref 59), (1, .int x1), (2, .int x2)] [] I L c := by
  refine gx_iload_n 2 dX11_image_20 rfl rfl ?_
  refine gx_bipush (v := 110) dX11_image_21 (by decide) ?_
  refine gx_icmp_ge 51 dX11_image_23 (by decide) ⟨fun z => ?_, fun z => ?_⟩
  · replace h := h.1 z
    refine gx_aload_n 0 dX11_image_51 rfl rfl ?_
    refine gx_getr 11 2 (v := 61) dX11_image_52 fl_X11_17 rfl rfl rfl ?_
    refine gx_iload_n 1 dX11_image_55 rfl rfl ?_
    refine gx_iconst (v := 1) dX11_image_56 (by decide) ?_
    obtain ⟨hi, h⟩ := h
    refine gx_zast dX11_image_57 rfl rfl hi (k := (Int32.toNatClampNeg x1)) rfl ?_
    show Z_M_image g Q 58 [(0, .ref 59), (1, .int x1), (2, .int x2)] [] (gm_u I 61 (Int32.toNatClampNeg x1) (vp_nar .boolean 1)) L c
    refine gx_iconst (v := 0) dX11_image_58 (by decide) ?_
    exact gx_iret dX11_image_59 rfl rfl rfl ⟨_, _, _, _, rfl, rfl, h⟩
  · replace h := h.2 z
    refine gx_aload_n 0 dX11_image_26 rfl rfl ?_
    refine gx_getr 11 1 (v := 60) dX11_image_27 fl_X11_13 rfl rfl rfl ?_
    refine gx_bipush (v := 110) dX11_image_30 (by decide) ?_
    refine gx_iload_n 1 dX11_image_32 rfl rfl ?_
    refine gx_iconst (v := 1) dX11_image_33 (by decide) ?_
    refine gx_iadd dX11_image_34 ?_
    refine gx_imul dX11_image_35 ?_
    refine gx_iload_n 2 dX11_image_36 rfl rfl ?_
    refine gx_iadd dX11_image_37 ?_
    refine gx_aload_n 0 dX11_image_38 rfl rfl ?_
    refine gx_getr 11 1 (v := 60) dX11_image_39 fl_X11_13 rfl rfl rfl ?_
    refine gx_iload_n 2 dX11_image_42 rfl rfl ?_
    obtain ⟨hi, h⟩ := h
    refine gx_iald (v := (I 60 (Int32.toNatClampNeg x2))) dX11_image_43 rfl rfl hi (k := (Int32.toNatClampNeg x2)) rfl rfl ?_
    obtain ⟨hi, h⟩ := h
    refine gx_iast dX11_image_44 rfl rfl hi (k := (Int32.toNatClampNeg ((110 * (x1 + 1)) + x2))) rfl ?_
    show Z_M_image g Q 45 [(0, .ref 59), (1, .int x1), (2, .int x2)] [] (gm_u I 60 (Int32.toNatClampNeg ((110 * (x1 + 1)) + x2)) (I 60 (Int32.toNatClampNeg x2))) L c
    refine gx_iinc (v := (x2 + 1)) (lv' := [(0, .ref 59), (1, .int x1), (2, .int (x2 + 1))]) 2 dX11_image_45 rfl rfl rfl rfl ?_
    refine gx_goto 20 dX11_image_48 (by decide) ?_
    exact h
abbrev Z_M_restore (g : gm_G) (Q : Int32 → mI → mL → gm_cfg → Prop) (pc : Nat) (lv : List (Nat × Value)) (st : List Value) (I : mI) (L : mL) (c : gm_cfg) : Prop := gm_X g RX11 "restore" cX11_restore 3 (some .int) 2 0 0 (qI Q) 0 0 pc lv st (SH, I, L, RR c)
abbrev C_M_restore (g : gm_G) (x1 : Int32) (I : mI) (L : mL) (c : gm_cfg) (Q : Int32 → mI → mL → gm_cfg → Prop) : Prop := gm_Met g yX11_restore cX11_restore 3 (some .int) 2 0 0 [.ref 59, .int x1] (SH, I, L, RR c) (qI Q)
set_option maxRecDepth 100000 in
theorem e_M_restore {g : gm_G} {Q : Int32 → mI → mL → gm_cfg → Prop} {x1 : Int32} {I : mI} {L : mL} {c : gm_cfg} (h : (C_M_within g (Int32.toInt64 x1) 0 1 (gm_u I 59 0 0) L c (fun b4 I1 L2 c3 => ((b4 = false → Q (-2) I1 L2 c3) ∧ (b4 = true → (vp_in x1 2 ∧ (((I1 61 (Int32.toNatClampNeg x1)) = 0 → Q (-5) I1 L2 c3) ∧ (¬ (I1 61 (Int32.toNatClampNeg x1)) = 0 → Z_M_restore g Q 32 [(0, .ref 59), (1, .int x1), (2, .int 0)] [] I1 L2 c3)))))))) : C_M_restore g x1 I L c Q := by
  refine gm_enter (lv := [(0, .ref 59), (1, .int x1)]) (by decide) rfl rfl rfl rfl ?_
  show Z_M_restore g Q 0 [(0, .ref 59), (1, .int x1)] [] I L c
  refine gx_aload_n 0 dX11_restore_0 rfl rfl ?_
  refine gx_iconst (v := 0) dX11_restore_1 (by decide) ?_
  refine gx_puti 11 0 dX11_restore_2 fl_X11_1 rfl rfl rfl ⟨rfl, rfl⟩ ?_
  show Z_M_restore g Q 5 [(0, .ref 59), (1, .int x1)] [] (gm_u I 59 0 0) L c
  refine gx_iload_n 1 dX11_restore_5 rfl rfl ?_
  refine gx_i2l dX11_restore_6 ?_
  refine gx_lconst (v := 0) dX11_restore_7 (by decide) ?_
  refine gx_lconst (v := 1) dX11_restore_8 (by decide) ?_
  refine gx_callS (As := [.long (Int32.toInt64 x1), .long 0, .long 1]) (st := []) dX11_restore_9 ml_X11_125 mm_X11_within rfl rfl rfl rfl ⟨rfl, rfl⟩ h (fun v h2 hq => ?_)
  clear h
  obtain ⟨b4, I1, L2, c3, rfl, rfl, h⟩ := hq
  show Z_M_restore g Q 12 [(0, .ref 59), (1, .int x1)] [.int (gm_b b4)] I1 L2 c3
  refine gx_if_ne 18 dX11_restore_12 (by decide) ⟨fun z => ?_, fun z => ?_⟩
  · replace h := h.1 (gm_b0.mp z)
    refine gx_bipush (v := (-2)) dX11_restore_15 (by decide) ?_
    exact gx_iret dX11_restore_17 rfl rfl rfl ⟨_, _, _, _, rfl, rfl, h⟩
  · replace h := h.2 (gm_bn0 z)
    refine gx_aload_n 0 dX11_restore_18 rfl rfl ?_
    refine gx_getr 11 2 (v := 61) dX11_restore_19 fl_X11_17 rfl rfl rfl ?_
    refine gx_iload_n 1 dX11_restore_22 rfl rfl ?_
    obtain ⟨hi, h⟩ := h
    refine gx_zald (v := (I1 61 (Int32.toNatClampNeg x1))) dX11_restore_23 rfl rfl hi (k := (Int32.toNatClampNeg x1)) rfl rfl ?_
    refine gx_if_ne 30 dX11_restore_24 (by decide) ⟨fun z => ?_, fun z => ?_⟩
    · replace h := h.1 z
      refine gx_bipush (v := (-5)) dX11_restore_27 (by decide) ?_
      exact gx_iret dX11_restore_29 rfl rfl rfl ⟨_, _, _, _, rfl, rfl, h⟩
    · replace h := h.2 z
      refine gx_iconst (v := 0) dX11_restore_30 (by decide) ?_
      refine gx_istore_n (lv' := [(0, .ref 59), (1, .int x1), (2, .int 0)]) dX11_restore_31 rfl rfl rfl ?_
      exact h
set_option maxRecDepth 100000 in
theorem r_M_restore_32 {g : gm_G} {Q : Int32 → mI → mL → gm_cfg → Prop} {x1 x2 : Int32} {I : mI} {L : mL} {c : gm_cfg} (h : ((110 ≤ x2 → Q 0 I L c) ∧ (¬ 110 ≤ x2 → (vp_in ((110 * (x1 + 1)) + x2) 330 ∧ (vp_in x2 330 ∧ Z_M_restore g Q 32 [(0, .ref 59), (1, .int x1), (2, .int (x2 + 1))] [] (gm_u I 60 (Int32.toNatClampNeg x2) (I 60 (Int32.toNatClampNeg ((110 * (x1 + 1)) + x2)))) L c))))) : Z_M_restore g Q 32 [(0, .ref 59), (1, .int x1), (2, .int x2)] [] I L c := by
  refine gx_iload_n 2 dX11_restore_32 rfl rfl ?_
  refine gx_bipush (v := 110) dX11_restore_33 (by decide) ?_
  refine gx_icmp_ge 63 dX11_restore_35 (by decide) ⟨fun z => ?_, fun z => ?_⟩
  · replace h := h.1 z
    refine gx_iconst (v := 0) dX11_restore_63 (by decide) ?_
    exact gx_iret dX11_restore_64 rfl rfl rfl ⟨_, _, _, _, rfl, rfl, h⟩
  · replace h := h.2 z
    refine gx_aload_n 0 dX11_restore_38 rfl rfl ?_
    refine gx_getr 11 1 (v := 60) dX11_restore_39 fl_X11_13 rfl rfl rfl ?_
    refine gx_iload_n 2 dX11_restore_42 rfl rfl ?_
    refine gx_aload_n 0 dX11_restore_43 rfl rfl ?_
    refine gx_getr 11 1 (v := 60) dX11_restore_44 fl_X11_13 rfl rfl rfl ?_
    refine gx_bipush (v := 110) dX11_restore_47 (by decide) ?_
    refine gx_iload_n 1 dX11_restore_49 rfl rfl ?_
    refine gx_iconst (v := 1) dX11_restore_50 (by decide) ?_
    refine gx_iadd dX11_restore_51 ?_
    refine gx_imul dX11_restore_52 ?_
    refine gx_iload_n 2 dX11_restore_53 rfl rfl ?_
    refine gx_iadd dX11_restore_54 ?_
    obtain ⟨hi, h⟩ := h
    refine gx_iald (v := (I 60 (Int32.toNatClampNeg ((110 * (x1 + 1)) + x2)))) dX11_restore_55 rfl rfl hi (k := (Int32.toNatClampNeg ((110 * (x1 + 1)) + x2))) rfl rfl ?_
    obtain ⟨hi, h⟩ := h
    refine gx_iast dX11_restore_56 rfl rfl hi (k := (Int32.toNatClampNeg x2)) rfl ?_
    show Z_M_restore g Q 57 [(0, .ref 59), (1, .int x1), (2, .int x2)] [] (gm_u I 60 (Int32.toNatClampNeg x2) (I 60 (Int32.toNatClampNeg ((110 * (x1 + 1)) + x2)))) L c
    refine gx_iinc (v := (x2 + 1)) (lv' := [(0, .ref 59), (1, .int x1), (2, .int (x2 + 1))]) 2 dX11_restore_57 rfl rfl rfl rfl ?_
    refine gx_goto 32 dX11_restore_60 (by decide) ?_
    exact h
abbrev Z_M_unlikeMany (g : gm_G) (Q : Int32 → mI → mL → gm_cfg → Prop) (pc : Nat) (lv : List (Nat × Value)) (st : List Value) (I : mI) (L : mL) (c : gm_cfg) : Prop := gm_X g RX11 "unlikeMany" cX11_unlikeMany 4 (some .int) 2 0 0 (qI Q) 0 0 pc lv st (SH, I, L, RR c)
abbrev C_M_unlikeMany (g : gm_G) (I : mI) (L : mL) (c : gm_cfg) (Q : Int32 → mI → mL → gm_cfg → Prop) : Prop := gm_Met g yX11_unlikeMany cX11_unlikeMany 4 (some .int) 2 0 0 [.ref 59] (SH, I, L, RR c) (qI Q)
set_option maxRecDepth 100000 in
theorem e_M_unlikeMany {g : gm_G} {Q : Int32 → mI → mL → gm_cfg → Prop} {I : mI} {L : mL} {c : gm_cfg} (h : Z_M_unlikeMany g Q 4 [(0, .ref 59), (1, .int 0), (2, .int 0)] [] I L c) : C_M_unlikeMany g  I L c Q := by
  refine gm_enter (lv := [(0, .ref 59)]) (by decide) rfl rfl rfl rfl ?_
  show Z_M_unlikeMany g Q 0 [(0, .ref 59)] [] I L c
  refine gx_iconst (v := 0) dX11_unlikeMany_0 (by decide) ?_
  refine gx_istore_n (lv' := [(0, .ref 59), (1, .int 0)]) dX11_unlikeMany_1 rfl rfl rfl ?_
  refine gx_iconst (v := 0) dX11_unlikeMany_2 (by decide) ?_
  refine gx_istore_n (lv' := [(0, .ref 59), (1, .int 0), (2, .int 0)]) dX11_unlikeMany_3 rfl rfl rfl ?_
  exact h
set_option maxRecDepth 100000 in
theorem r_M_unlikeMany_4 {g : gm_G} {Q : Int32 → mI → mL → gm_cfg → Prop} {x1 x2 : Int32} {I : mI} {L : mL} {c : gm_cfg} (h : (((I 60 1) ≤ x2 → Q x1 I L c) ∧ (¬ (I 60 1) ≤ x2 → Z_M_unlikeMany g Q 16 [(0, .ref 59), (1, .int x1), (2, .int x2), (3, .int 0)] [] I L c))) : Z_M_unlikeMany g Q 4 [(0, .ref 59), (1, .int x1), (2, .int x2)] [] I L c := by
  refine gx_iload_n 2 dX11_unlikeMany_4 rfl rfl ?_
  refine gx_aload_n 0 dX11_unlikeMany_5 rfl rfl ?_
  refine gx_getr 11 1 (v := 60) dX11_unlikeMany_6 fl_X11_13 rfl rfl rfl ?_
  refine gx_iconst (v := 1) dX11_unlikeMany_9 (by decide) ?_
  refine gx_iald (v := (I 60 1)) dX11_unlikeMany_10 rfl rfl (gm_vin rfl) (k := 1) rfl rfl ?_
  refine gx_icmp_ge 54 dX11_unlikeMany_11 (by decide) ⟨fun z => ?_, fun z => ?_⟩
  · replace h := h.1 z
    refine gx_iload_n 1 dX11_unlikeMany_54 rfl rfl ?_
    exact gx_iret dX11_unlikeMany_55 rfl rfl rfl ⟨_, _, _, _, rfl, rfl, h⟩
  · replace h := h.2 z
    refine gx_iconst (v := 0) dX11_unlikeMany_14 (by decide) ?_
    refine gx_istore_n (lv' := [(0, .ref 59), (1, .int x1), (2, .int x2), (3, .int 0)]) dX11_unlikeMany_15 rfl rfl rfl ?_
    exact h
set_option maxRecDepth 100000 in
theorem r_M_unlikeMany_16 {g : gm_G} {Q : Int32 → mI → mL → gm_cfg → Prop} {x1 x2 x3 : Int32} {I : mI} {L : mL} {c : gm_cfg} (h : (C_M_numberOf g x3 I L c (fun r4 I1 L2 c3 => (C_M_numberOf g x2 I1 L2 c3 (fun r8 I5 L6 c7 => ((r4 = r8 → ((x3 = x2 → Z_M_unlikeMany g Q 4 [(0, .ref 59), (1, .int (x1 + 1)), (2, .int (x2 + 1))] [] I5 L6 c7) ∧ (¬ x3 = x2 → Z_M_unlikeMany g Q 4 [(0, .ref 59), (1, .int (x1 + 0)), (2, .int (x2 + 1))] [] I5 L6 c7))) ∧ (¬ r4 = r8 → Z_M_unlikeMany g Q 16 [(0, .ref 59), (1, .int x1), (2, .int x2), (3, .int (x3 + 1))] [] I5 L6 c7))))))) : Z_M_unlikeMany g Q 16 [(0, .ref 59), (1, .int x1), (2, .int x2), (3, .int x3)] [] I L c := by
  refine gx_aload_n 0 dX11_unlikeMany_16 rfl rfl ?_
  refine gx_iload_n 3 dX11_unlikeMany_17 rfl rfl ?_
  refine gx_callV 11 (As := [.int x3]) (st := []) dX11_unlikeMany_18 ml_X11_171 mm_X11_numberOf rfl rfl rfl rfl rfl rfl ⟨rfl, rfl⟩ h (fun v h2 hq => ?_)
  clear h
  obtain ⟨r4, I1, L2, c3, rfl, rfl, h⟩ := hq
  show Z_M_unlikeMany g Q 21 [(0, .ref 59), (1, .int x1), (2, .int x2), (3, .int x3)] [.int r4] I1 L2 c3
  refine gx_aload_n 0 dX11_unlikeMany_21 rfl rfl ?_
  refine gx_iload_n 2 dX11_unlikeMany_22 rfl rfl ?_
  refine gx_callV 11 (As := [.int x2]) (st := [.int r4]) dX11_unlikeMany_23 ml_X11_171 mm_X11_numberOf rfl rfl rfl rfl rfl rfl ⟨rfl, rfl⟩ h (fun v h2 hq => ?_)
  clear h
  obtain ⟨r8, I5, L6, c7, rfl, rfl, h⟩ := hq
  show Z_M_unlikeMany g Q 26 [(0, .ref 59), (1, .int x1), (2, .int x2), (3, .int x3)] [.int r8, .int r4] I5 L6 c7
  refine gx_icmp_eq 35 dX11_unlikeMany_26 (by decide) ⟨fun z => ?_, fun z => ?_⟩
  · replace h := h.1 z
    refine gx_iload_n 1 dX11_unlikeMany_35 rfl rfl ?_
    refine gx_iload_n 3 dX11_unlikeMany_36 rfl rfl ?_
    refine gx_iload_n 2 dX11_unlikeMany_37 rfl rfl ?_
    refine gx_icmp_ne 45 dX11_unlikeMany_38 (by decide) ⟨fun z => ?_, fun z => ?_⟩
    · replace h := h.1 z
      refine gx_iconst (v := 1) dX11_unlikeMany_41 (by decide) ?_
      refine gx_goto 46 dX11_unlikeMany_42 (by decide) ?_
      refine gx_iadd dX11_unlikeMany_46 ?_
      refine gx_istore_n (lv' := [(0, .ref 59), (1, .int (x1 + 1)), (2, .int x2), (3, .int x3)]) dX11_unlikeMany_47 rfl rfl rfl ?_
      refine gx_iinc (v := (x2 + 1)) (lv' := [(0, .ref 59), (1, .int (x1 + 1)), (2, .int (x2 + 1)), (3, .int x3)]) 2 dX11_unlikeMany_48 rfl rfl rfl rfl ?_
      refine gx_goto 4 dX11_unlikeMany_51 (by decide) ?_
      refine gx_sub [0, 1, 2] (lv' := [(0, .ref 59), (1, .int (x1 + 1)), (2, .int (x2 + 1))]) rfl ?_
      exact h
    · replace h := h.2 z
      refine gx_iconst (v := 0) dX11_unlikeMany_45 (by decide) ?_
      refine gx_iadd dX11_unlikeMany_46 ?_
      refine gx_istore_n (lv' := [(0, .ref 59), (1, .int (x1 + 0)), (2, .int x2), (3, .int x3)]) dX11_unlikeMany_47 rfl rfl rfl ?_
      refine gx_iinc (v := (x2 + 1)) (lv' := [(0, .ref 59), (1, .int (x1 + 0)), (2, .int (x2 + 1)), (3, .int x3)]) 2 dX11_unlikeMany_48 rfl rfl rfl rfl ?_
      refine gx_goto 4 dX11_unlikeMany_51 (by decide) ?_
      refine gx_sub [0, 1, 2] (lv' := [(0, .ref 59), (1, .int (x1 + 0)), (2, .int (x2 + 1))]) rfl ?_
      exact h
  · replace h := h.2 z
    refine gx_iinc (v := (x3 + 1)) (lv' := [(0, .ref 59), (1, .int x1), (2, .int x2), (3, .int (x3 + 1))]) 3 dX11_unlikeMany_29 rfl rfl rfl rfl ?_
    refine gx_goto 16 dX11_unlikeMany_32 (by decide) ?_
    exact h
abbrev Z_M_count (g : gm_G) (Q : Int32 → mI → mL → gm_cfg → Prop) (pc : Nat) (lv : List (Nat × Value)) (st : List Value) (I : mI) (L : mL) (c : gm_cfg) : Prop := gm_X g RX11 "count" cX11_count 2 (some .int) 3 0 0 (qI Q) 0 0 pc lv st (SH, I, L, RR c)
abbrev C_M_count (g : gm_G) (x1 : Int32) (I : mI) (L : mL) (c : gm_cfg) (Q : Int32 → mI → mL → gm_cfg → Prop) : Prop := gm_Met g yX11_count cX11_count 2 (some .int) 3 0 0 [.ref 59, .int x1] (SH, I, L, RR c) (qI Q)
set_option maxRecDepth 100000 in
theorem e_M_count {g : gm_G} {Q : Int32 → mI → mL → gm_cfg → Prop} {x1 : Int32} {I : mI} {L : mL} {c : gm_cfg} (h : ((x1 = 8 → Q (I 59 5) (gm_u I 59 0 0) L c) ∧ (¬ x1 = 8 → ((x1 = 9 → Q (I 60 8) (gm_u I 59 0 0) L c) ∧ (¬ x1 = 9 → ((x1 = 10 → (C_M_unlikeMany g (gm_u I 59 0 0) L c (fun r4 I1 L2 c3 => Q r4 I1 L2 c3))) ∧ (¬ x1 = 10 → ((x1 = 11 → Q ((I 60 4) * (I 60 1)) (gm_u I 59 0 0) L c) ∧ (¬ x1 = 11 → (C_M_within g (Int32.toInt64 x1) 0 7 (gm_u I 59 0 0) L c (fun b8 I5 L6 c7 => ((b8 = false → Q (-1) I5 L6 c7) ∧ (b8 = true → (vp_in x1 330 ∧ Q (I5 60 (Int32.toNatClampNeg x1)) I5 L6 c7)))))))))))))) : C_M_count g x1 I L c Q := by
  refine gm_enter (lv := [(0, .ref 59), (1, .int x1)]) (by decide) rfl rfl rfl rfl ?_
  show Z_M_count g Q 0 [(0, .ref 59), (1, .int x1)] [] I L c
  refine gx_aload_n 0 dX11_count_0 rfl rfl ?_
  refine gx_iconst (v := 0) dX11_count_1 (by decide) ?_
  refine gx_puti 11 0 dX11_count_2 fl_X11_1 rfl rfl rfl ⟨rfl, rfl⟩ ?_
  show Z_M_count g Q 5 [(0, .ref 59), (1, .int x1)] [] (gm_u I 59 0 0) L c
  refine gx_iload_n 1 dX11_count_5 rfl rfl ?_
  refine gx_tsw [(8, 36), (9, 41), (10, 49), (11, 54)] 68 dX11_count_6 (by decide +kernel) ?_
  refine ⟨fun z => ?_, fun z => ?_⟩
  · replace h := h.1 z
    show Z_M_count g Q 36 [(0, .ref 59), (1, .int x1)] [] (gm_u I 59 0 0) L c
    refine gx_aload_n 0 dX11_count_36 rfl rfl ?_
    refine gx_geti 11 5 (v := (I 59 5)) dX11_count_37 fl_X11_65 rfl rfl rfl ?_
    exact gx_iret dX11_count_40 rfl rfl rfl ⟨_, _, _, _, rfl, rfl, h⟩
  · replace h := h.2 z
    refine ⟨fun z => ?_, fun z => ?_⟩
    · replace h := h.1 z
      show Z_M_count g Q 41 [(0, .ref 59), (1, .int x1)] [] (gm_u I 59 0 0) L c
      refine gx_aload_n 0 dX11_count_41 rfl rfl ?_
      refine gx_getr 11 1 (v := 60) dX11_count_42 fl_X11_13 rfl rfl rfl ?_
      refine gx_bipush (v := 8) dX11_count_45 (by decide) ?_
      refine gx_iald (v := (I 60 8)) dX11_count_47 rfl rfl (gm_vin rfl) (k := 8) rfl rfl ?_
      exact gx_iret dX11_count_48 rfl rfl rfl ⟨_, _, _, _, rfl, rfl, h⟩
    · replace h := h.2 z
      refine ⟨fun z => ?_, fun z => ?_⟩
      · replace h := h.1 z
        show Z_M_count g Q 49 [(0, .ref 59), (1, .int x1)] [] (gm_u I 59 0 0) L c
        refine gx_aload_n 0 dX11_count_49 rfl rfl ?_
        refine gx_callV 11 (As := []) (st := []) dX11_count_50 ml_X11_337 mm_X11_unlikeMany rfl rfl rfl rfl rfl rfl ⟨rfl, rfl⟩ h (fun v h2 hq => ?_)
        clear h
        obtain ⟨r4, I1, L2, c3, rfl, rfl, h⟩ := hq
        show Z_M_count g Q 53 [(0, .ref 59), (1, .int x1)] [.int r4] I1 L2 c3
        exact gx_iret dX11_count_53 rfl rfl rfl ⟨_, _, _, _, rfl, rfl, h⟩
      · replace h := h.2 z
        refine ⟨fun z => ?_, fun z => ?_⟩
        · replace h := h.1 z
          show Z_M_count g Q 54 [(0, .ref 59), (1, .int x1)] [] (gm_u I 59 0 0) L c
          refine gx_aload_n 0 dX11_count_54 rfl rfl ?_
          refine gx_getr 11 1 (v := 60) dX11_count_55 fl_X11_13 rfl rfl rfl ?_
          refine gx_iconst (v := 4) dX11_count_58 (by decide) ?_
          refine gx_iald (v := (I 60 4)) dX11_count_59 rfl rfl (gm_vin rfl) (k := 4) rfl rfl ?_
          refine gx_aload_n 0 dX11_count_60 rfl rfl ?_
          refine gx_getr 11 1 (v := 60) dX11_count_61 fl_X11_13 rfl rfl rfl ?_
          refine gx_iconst (v := 1) dX11_count_64 (by decide) ?_
          refine gx_iald (v := (I 60 1)) dX11_count_65 rfl rfl (gm_vin rfl) (k := 1) rfl rfl ?_
          refine gx_imul dX11_count_66 ?_
          exact gx_iret dX11_count_67 rfl rfl rfl ⟨_, _, _, _, rfl, rfl, h⟩
        · replace h := h.2 z
          show Z_M_count g Q 68 [(0, .ref 59), (1, .int x1)] [] (gm_u I 59 0 0) L c
          refine gx_iload_n 1 dX11_count_68 rfl rfl ?_
          refine gx_i2l dX11_count_69 ?_
          refine gx_lconst (v := 0) dX11_count_70 (by decide) ?_
          refine gx_ldc2 dX11_count_71 kl_X11_340 ?_
          refine gx_callS (As := [.long (Int32.toInt64 x1), .long 0, .long 7]) (st := []) dX11_count_74 ml_X11_125 mm_X11_within rfl rfl rfl rfl ⟨rfl, rfl⟩ h (fun v h2 hq => ?_)
          clear h
          obtain ⟨b8, I5, L6, c7, rfl, rfl, h⟩ := hq
          show Z_M_count g Q 77 [(0, .ref 59), (1, .int x1)] [.int (gm_b b8)] I5 L6 c7
          refine gx_if_eq 89 dX11_count_77 (by decide) ⟨fun z => ?_, fun z => ?_⟩
          · replace h := h.1 (gm_b0.mp z)
            refine gx_iconst (v := (-1)) dX11_count_89 (by decide) ?_
            exact gx_iret dX11_count_90 rfl rfl rfl ⟨_, _, _, _, rfl, rfl, h⟩
          · replace h := h.2 (gm_bn0 z)
            refine gx_aload_n 0 dX11_count_80 rfl rfl ?_
            refine gx_getr 11 1 (v := 60) dX11_count_81 fl_X11_13 rfl rfl rfl ?_
            refine gx_iload_n 1 dX11_count_84 rfl rfl ?_
            obtain ⟨hi, h⟩ := h
            refine gx_iald (v := (I5 60 (Int32.toNatClampNeg x1))) dX11_count_85 rfl rfl hi (k := (Int32.toNatClampNeg x1)) rfl rfl ?_
            refine gx_goto 90 dX11_count_86 (by decide) ?_
            exact gx_iret dX11_count_90 rfl rfl rfl ⟨_, _, _, _, rfl, rfl, h⟩
abbrev Z_M_plain_60 (g : gm_G) (Q : mI → mL → gm_cfg → Prop) (pc : Nat) (lv : List (Nat × Value)) (st : List Value) (I : mI) (L : mL) (c : gm_cfg) : Prop := gm_X g RX11 "plain" cX11_plain 2 none 1 0 0 (qV Q) 0 0 pc lv st (SH, I, L, RR c)
abbrev C_M_plain_60 (g : gm_G) (I : mI) (L : mL) (c : gm_cfg) (Q : mI → mL → gm_cfg → Prop) : Prop := gm_Met g yX11_plain cX11_plain 2 none 1 0 0 [.ref 60] (SH, I, L, RR c) (qV Q)
set_option maxRecDepth 100000 in
theorem e_M_plain_60 {g : gm_G} {Q : mI → mL → gm_cfg → Prop} {I : mI} {L : mL} {c : gm_cfg} (h : Z_M_plain_60 g Q 2 [(0, .ref 60), (1, .int 0)] [] I L c) : C_M_plain_60 g  I L c Q := by
  refine gm_enter (lv := [(0, .ref 60)]) (by decide) rfl rfl rfl rfl ?_
  show Z_M_plain_60 g Q 0 [(0, .ref 60)] [] I L c
  refine gx_iconst (v := 0) dX11_plain_0 (by decide) ?_
  refine gx_istore_n (lv' := [(0, .ref 60), (1, .int 0)]) dX11_plain_1 rfl rfl rfl ?_
  exact h
set_option maxRecDepth 100000 in
theorem r_M_plain_60_2 {g : gm_G} {Q : mI → mL → gm_cfg → Prop} {x1 : Int32} {I : mI} {L : mL} {c : gm_cfg} (h : ((110 ≤ x1 → Q (gm_u (gm_u (gm_u (gm_u (gm_u I 60 2 1) 60 3 100) 60 4 10) 60 5 100) 60 10 (-1)) L c) ∧ (¬ 110 ≤ x1 → (vp_in x1 330 ∧ Z_M_plain_60 g Q 2 [(0, .ref 60), (1, .int (x1 + 1))] [] (gm_u I 60 (Int32.toNatClampNeg x1) 0) L c)))) : Z_M_plain_60 g Q 2 [(0, .ref 60), (1, .int x1)] [] I L c := by
  refine gx_iload_n 1 dX11_plain_2 rfl rfl ?_
  refine gx_bipush (v := 110) dX11_plain_3 (by decide) ?_
  refine gx_icmp_ge 18 dX11_plain_5 (by decide) ⟨fun z => ?_, fun z => ?_⟩
  · replace h := h.1 z
    refine gx_aload_n 0 dX11_plain_18 rfl rfl ?_
    refine gx_iconst (v := 2) dX11_plain_19 (by decide) ?_
    refine gx_iconst (v := 1) dX11_plain_20 (by decide) ?_
    refine gx_iast dX11_plain_21 rfl rfl (gm_vin rfl) (k := 2) rfl ?_
    show Z_M_plain_60 g Q 22 [(0, .ref 60), (1, .int x1)] [] (gm_u I 60 2 1) L c
    refine gx_aload_n 0 dX11_plain_22 rfl rfl ?_
    refine gx_iconst (v := 3) dX11_plain_23 (by decide) ?_
    refine gx_bipush (v := 100) dX11_plain_24 (by decide) ?_
    refine gx_iast dX11_plain_26 rfl rfl (gm_vin rfl) (k := 3) rfl ?_
    show Z_M_plain_60 g Q 27 [(0, .ref 60), (1, .int x1)] [] (gm_u (gm_u I 60 2 1) 60 3 100) L c
    refine gx_aload_n 0 dX11_plain_27 rfl rfl ?_
    refine gx_iconst (v := 4) dX11_plain_28 (by decide) ?_
    refine gx_bipush (v := 10) dX11_plain_29 (by decide) ?_
    refine gx_iast dX11_plain_31 rfl rfl (gm_vin rfl) (k := 4) rfl ?_
    show Z_M_plain_60 g Q 32 [(0, .ref 60), (1, .int x1)] [] (gm_u (gm_u (gm_u I 60 2 1) 60 3 100) 60 4 10) L c
    refine gx_aload_n 0 dX11_plain_32 rfl rfl ?_
    refine gx_iconst (v := 5) dX11_plain_33 (by decide) ?_
    refine gx_bipush (v := 100) dX11_plain_34 (by decide) ?_
    refine gx_iast dX11_plain_36 rfl rfl (gm_vin rfl) (k := 5) rfl ?_
    show Z_M_plain_60 g Q 37 [(0, .ref 60), (1, .int x1)] [] (gm_u (gm_u (gm_u (gm_u I 60 2 1) 60 3 100) 60 4 10) 60 5 100) L c
    refine gx_aload_n 0 dX11_plain_37 rfl rfl ?_
    refine gx_bipush (v := 10) dX11_plain_38 (by decide) ?_
    refine gx_iconst (v := (-1)) dX11_plain_40 (by decide) ?_
    refine gx_iast dX11_plain_41 rfl rfl (gm_vin rfl) (k := 10) rfl ?_
    show Z_M_plain_60 g Q 42 [(0, .ref 60), (1, .int x1)] [] (gm_u (gm_u (gm_u (gm_u (gm_u I 60 2 1) 60 3 100) 60 4 10) 60 5 100) 60 10 (-1)) L c
    exact gx_vret dX11_plain_42 rfl rfl rfl ⟨_, _, _, rfl, rfl, h⟩
  · replace h := h.2 z
    refine gx_aload_n 0 dX11_plain_8 rfl rfl ?_
    refine gx_iload_n 1 dX11_plain_9 rfl rfl ?_
    refine gx_iconst (v := 0) dX11_plain_10 (by decide) ?_
    obtain ⟨hi, h⟩ := h
    refine gx_iast dX11_plain_11 rfl rfl hi (k := (Int32.toNatClampNeg x1)) rfl ?_
    show Z_M_plain_60 g Q 12 [(0, .ref 60), (1, .int x1)] [] (gm_u I 60 (Int32.toNatClampNeg x1) 0) L c
    refine gx_iinc (v := (x1 + 1)) (lv' := [(0, .ref 60), (1, .int (x1 + 1))]) 1 dX11_plain_12 rfl rfl rfl rfl ?_
    refine gx_goto 2 dX11_plain_15 (by decide) ?_
    exact h
