abbrev Z_Fe2_clear (g : gm_G) (Q : mI → mL → gm_cfg → Prop) (pc : Nat) (lv : List (Nat × Value)) (st : List Value) (I : mI) (L : mL) (c : gm_cfg) : Prop := gm_X g RX1 "clear" cX1_clear 1 none 1 0 0 (qV Q) 0 0 pc lv st (SH, I, L, RR c)
abbrev C_Fe2_clear (g : gm_G) (I : mI) (L : mL) (c : gm_cfg) (Q : mI → mL → gm_cfg → Prop) : Prop := gm_Met g yX1_clear cX1_clear 1 none 1 0 0 [.ref 2] (SH, I, L, RR c) (qV Q)
set_option maxRecDepth 100000 in
theorem e_Fe2_clear {g : gm_G} {Q : mI → mL → gm_cfg → Prop} {I : mI} {L : mL} {c : gm_cfg} (h : Q (gm_u (gm_u (gm_u (gm_u (gm_u (gm_u (gm_u (gm_u (gm_u (gm_u (gm_u I 2 0 1) 2 1 100) 2 2 0) 2 3 0) 2 4 0) 2 5 0) 2 9 0) 2 10 10) 2 11 100) 2 12 0) 2 13 0) L c) : C_Fe2_clear g  I L c Q := by
  refine gm_enter (lv := [(0, .ref 2)]) (by decide) rfl rfl rfl rfl ?_
  show Z_Fe2_clear g Q 0 [(0, .ref 2)] [] I L c
  refine gx_aload_n 0 dX1_clear_0 rfl rfl ?_
  refine gx_iconst (v := 1) dX1_clear_1 (by decide) ?_
  refine gx_puti 1 0 dX1_clear_2 fl_X1_9 rfl rfl rfl ⟨rfl, rfl⟩ ?_
  show Z_Fe2_clear g Q 5 [(0, .ref 2)] [] (gm_u I 2 0 1) L c
  refine gx_aload_n 0 dX1_clear_5 rfl rfl ?_
  refine gx_bipush (v := 100) dX1_clear_6 (by decide) ?_
  refine gx_puti 1 1 dX1_clear_8 fl_X1_15 rfl rfl rfl ⟨rfl, rfl⟩ ?_
  show Z_Fe2_clear g Q 11 [(0, .ref 2)] [] (gm_u (gm_u I 2 0 1) 2 1 100) L c
  refine gx_aload_n 0 dX1_clear_11 rfl rfl ?_
  refine gx_iconst (v := 0) dX1_clear_12 (by decide) ?_
  refine gx_puti 1 2 dX1_clear_13 fl_X1_34 rfl rfl rfl ⟨rfl, rfl⟩ ?_
  show Z_Fe2_clear g Q 16 [(0, .ref 2)] [] (gm_u (gm_u (gm_u I 2 0 1) 2 1 100) 2 2 0) L c
  refine gx_aload_n 0 dX1_clear_16 rfl rfl ?_
  refine gx_iconst (v := 0) dX1_clear_17 (by decide) ?_
  refine gx_puti 1 3 dX1_clear_18 fl_X1_38 rfl rfl rfl ⟨rfl, rfl⟩ ?_
  show Z_Fe2_clear g Q 21 [(0, .ref 2)] [] (gm_u (gm_u (gm_u (gm_u I 2 0 1) 2 1 100) 2 2 0) 2 3 0) L c
  refine gx_aload_n 0 dX1_clear_21 rfl rfl ?_
  refine gx_iconst (v := 0) dX1_clear_22 (by decide) ?_
  refine gx_puti 1 4 dX1_clear_23 fl_X1_41 rfl rfl rfl ⟨rfl, rfl⟩ ?_
  show Z_Fe2_clear g Q 26 [(0, .ref 2)] [] (gm_u (gm_u (gm_u (gm_u (gm_u I 2 0 1) 2 1 100) 2 2 0) 2 3 0) 2 4 0) L c
  refine gx_aload_n 0 dX1_clear_26 rfl rfl ?_
  refine gx_iconst (v := 0) dX1_clear_27 (by decide) ?_
  refine gx_puti 1 5 dX1_clear_28 fl_X1_44 rfl rfl rfl ⟨rfl, rfl⟩ ?_
  show Z_Fe2_clear g Q 31 [(0, .ref 2)] [] (gm_u (gm_u (gm_u (gm_u (gm_u (gm_u I 2 0 1) 2 1 100) 2 2 0) 2 3 0) 2 4 0) 2 5 0) L c
  refine gx_aload_n 0 dX1_clear_31 rfl rfl ?_
  refine gx_iconst (v := 0) dX1_clear_32 (by decide) ?_
  refine gx_puti 1 9 dX1_clear_33 fl_X1_47 rfl rfl rfl ⟨rfl, rfl⟩ ?_
  show Z_Fe2_clear g Q 36 [(0, .ref 2)] [] (gm_u (gm_u (gm_u (gm_u (gm_u (gm_u (gm_u I 2 0 1) 2 1 100) 2 2 0) 2 3 0) 2 4 0) 2 5 0) 2 9 0) L c
  refine gx_aload_n 0 dX1_clear_36 rfl rfl ?_
  refine gx_bipush (v := 10) dX1_clear_37 (by decide) ?_
  refine gx_puti 1 10 dX1_clear_39 fl_X1_28 rfl rfl rfl ⟨rfl, rfl⟩ ?_
  show Z_Fe2_clear g Q 42 [(0, .ref 2)] [] (gm_u (gm_u (gm_u (gm_u (gm_u (gm_u (gm_u (gm_u I 2 0 1) 2 1 100) 2 2 0) 2 3 0) 2 4 0) 2 5 0) 2 9 0) 2 10 10) L c
  refine gx_aload_n 0 dX1_clear_42 rfl rfl ?_
  refine gx_bipush (v := 100) dX1_clear_43 (by decide) ?_
  refine gx_puti 1 11 dX1_clear_45 fl_X1_31 rfl rfl rfl ⟨rfl, rfl⟩ ?_
  show Z_Fe2_clear g Q 48 [(0, .ref 2)] [] (gm_u (gm_u (gm_u (gm_u (gm_u (gm_u (gm_u (gm_u (gm_u I 2 0 1) 2 1 100) 2 2 0) 2 3 0) 2 4 0) 2 5 0) 2 9 0) 2 10 10) 2 11 100) L c
  refine gx_aload_n 0 dX1_clear_48 rfl rfl ?_
  refine gx_iconst (v := 0) dX1_clear_49 (by decide) ?_
  refine gx_puti 1 12 dX1_clear_50 fl_X1_50 rfl rfl rfl ⟨rfl, rfl⟩ ?_
  show Z_Fe2_clear g Q 53 [(0, .ref 2)] [] (gm_u (gm_u (gm_u (gm_u (gm_u (gm_u (gm_u (gm_u (gm_u (gm_u I 2 0 1) 2 1 100) 2 2 0) 2 3 0) 2 4 0) 2 5 0) 2 9 0) 2 10 10) 2 11 100) 2 12 0) L c
  refine gx_aload_n 0 dX1_clear_53 rfl rfl ?_
  refine gx_iconst (v := 0) dX1_clear_54 (by decide) ?_
  refine gx_puti 1 13 dX1_clear_55 fl_X1_53 rfl rfl rfl ⟨rfl, rfl⟩ ?_
  show Z_Fe2_clear g Q 58 [(0, .ref 2)] [] (gm_u (gm_u (gm_u (gm_u (gm_u (gm_u (gm_u (gm_u (gm_u (gm_u (gm_u I 2 0 1) 2 1 100) 2 2 0) 2 3 0) 2 4 0) 2 5 0) 2 9 0) 2 10 10) 2 11 100) 2 12 0) 2 13 0) L c
  exact gx_vret dX1_clear_58 rfl rfl rfl ⟨_, _, _, rfl, rfl, h⟩
abbrev Z_Fe16_takeFrom_2 (g : gm_G) (Q : mI → mL → gm_cfg → Prop) (pc : Nat) (lv : List (Nat × Value)) (st : List Value) (I : mI) (L : mL) (c : gm_cfg) : Prop := gm_X g RX1 "takeFrom" cX1_takeFrom 2 none 1 0 0 (qV Q) 0 0 pc lv st (SH, I, L, RR c)
abbrev C_Fe16_takeFrom_2 (g : gm_G) (I : mI) (L : mL) (c : gm_cfg) (Q : mI → mL → gm_cfg → Prop) : Prop := gm_Met g yX1_takeFrom cX1_takeFrom 2 none 1 0 0 [.ref 16, .ref 2] (SH, I, L, RR c) (qV Q)
set_option maxRecDepth 100000 in
theorem e_Fe16_takeFrom_2 {g : gm_G} {Q : mI → mL → gm_cfg → Prop} {I : mI} {L : mL} {c : gm_cfg} (h : (gm_z (I 2 2) ∧ (gm_z (I 2 9) ∧ Q (gm_u (gm_u (gm_u (gm_u (gm_u (va_up (va_up (va_up (gm_u (gm_u (gm_u (gm_u (gm_u (gm_u I 16 0 (I 2 0)) 16 1 (I 2 1)) 16 2 (I 2 2)) 16 3 (I 2 3)) 16 4 (I 2 4)) 16 5 (I 2 5)) 17 (va_cpy (I 3) (I 17) (Int32.toNatClampNeg 0) (Int32.toNatClampNeg 0) (Int32.toNatClampNeg 6))) 18 (va_cpy (I 4) (I 18) (Int32.toNatClampNeg 0) (Int32.toNatClampNeg 0) (Int32.toNatClampNeg 6))) 19 (va_cpy (I 5) (I 19) (Int32.toNatClampNeg 0) (Int32.toNatClampNeg 0) (Int32.toNatClampNeg 6))) 16 9 (I 2 9)) 16 10 (I 2 10)) 16 11 (I 2 11)) 16 12 (I 2 12)) 16 13 (I 2 13)) L c))) : C_Fe16_takeFrom_2 g  I L c Q := by
  refine gm_enter (lv := [(0, .ref 16), (1, .ref 2)]) (by decide) rfl rfl rfl rfl ?_
  show Z_Fe16_takeFrom_2 g Q 0 [(0, .ref 16), (1, .ref 2)] [] I L c
  refine gx_aload_n 0 dX1_takeFrom_0 rfl rfl ?_
  refine gx_aload_n 1 dX1_takeFrom_1 rfl rfl ?_
  refine gx_geti 1 0 (v := (I 2 0)) dX1_takeFrom_2 fl_X1_9 rfl rfl rfl ?_
  refine gx_puti 1 0 dX1_takeFrom_5 fl_X1_9 rfl rfl rfl ⟨rfl, rfl⟩ ?_
  show Z_Fe16_takeFrom_2 g Q 8 [(0, .ref 16), (1, .ref 2)] [] (gm_u I 16 0 (I 2 0)) L c
  refine gx_aload_n 0 dX1_takeFrom_8 rfl rfl ?_
  refine gx_aload_n 1 dX1_takeFrom_9 rfl rfl ?_
  refine gx_geti 1 1 (v := (I 2 1)) dX1_takeFrom_10 fl_X1_15 rfl rfl rfl ?_
  refine gx_puti 1 1 dX1_takeFrom_13 fl_X1_15 rfl rfl rfl ⟨rfl, rfl⟩ ?_
  show Z_Fe16_takeFrom_2 g Q 16 [(0, .ref 16), (1, .ref 2)] [] (gm_u (gm_u I 16 0 (I 2 0)) 16 1 (I 2 1)) L c
  refine gx_aload_n 0 dX1_takeFrom_16 rfl rfl ?_
  refine gx_aload_n 1 dX1_takeFrom_17 rfl rfl ?_
  refine gx_geti 1 2 (v := (I 2 2)) dX1_takeFrom_18 fl_X1_34 rfl rfl rfl ?_
  obtain ⟨hn, h⟩ := h
  refine gx_puti 1 2 dX1_takeFrom_21 fl_X1_34 rfl rfl rfl hn ?_
  show Z_Fe16_takeFrom_2 g Q 24 [(0, .ref 16), (1, .ref 2)] [] (gm_u (gm_u (gm_u I 16 0 (I 2 0)) 16 1 (I 2 1)) 16 2 (I 2 2)) L c
  refine gx_aload_n 0 dX1_takeFrom_24 rfl rfl ?_
  refine gx_aload_n 1 dX1_takeFrom_25 rfl rfl ?_
  refine gx_geti 1 3 (v := (I 2 3)) dX1_takeFrom_26 fl_X1_38 rfl rfl rfl ?_
  refine gx_puti 1 3 dX1_takeFrom_29 fl_X1_38 rfl rfl rfl ⟨rfl, rfl⟩ ?_
  show Z_Fe16_takeFrom_2 g Q 32 [(0, .ref 16), (1, .ref 2)] [] (gm_u (gm_u (gm_u (gm_u I 16 0 (I 2 0)) 16 1 (I 2 1)) 16 2 (I 2 2)) 16 3 (I 2 3)) L c
  refine gx_aload_n 0 dX1_takeFrom_32 rfl rfl ?_
  refine gx_aload_n 1 dX1_takeFrom_33 rfl rfl ?_
  refine gx_geti 1 4 (v := (I 2 4)) dX1_takeFrom_34 fl_X1_41 rfl rfl rfl ?_
  refine gx_puti 1 4 dX1_takeFrom_37 fl_X1_41 rfl rfl rfl ⟨rfl, rfl⟩ ?_
  show Z_Fe16_takeFrom_2 g Q 40 [(0, .ref 16), (1, .ref 2)] [] (gm_u (gm_u (gm_u (gm_u (gm_u I 16 0 (I 2 0)) 16 1 (I 2 1)) 16 2 (I 2 2)) 16 3 (I 2 3)) 16 4 (I 2 4)) L c
  refine gx_aload_n 0 dX1_takeFrom_40 rfl rfl ?_
  refine gx_aload_n 1 dX1_takeFrom_41 rfl rfl ?_
  refine gx_geti 1 5 (v := (I 2 5)) dX1_takeFrom_42 fl_X1_44 rfl rfl rfl ?_
  refine gx_puti 1 5 dX1_takeFrom_45 fl_X1_44 rfl rfl rfl ⟨rfl, rfl⟩ ?_
  show Z_Fe16_takeFrom_2 g Q 48 [(0, .ref 16), (1, .ref 2)] [] (gm_u (gm_u (gm_u (gm_u (gm_u (gm_u I 16 0 (I 2 0)) 16 1 (I 2 1)) 16 2 (I 2 2)) 16 3 (I 2 3)) 16 4 (I 2 4)) 16 5 (I 2 5)) L c
  refine gx_aload_n 1 dX1_takeFrom_48 rfl rfl ?_
  refine gx_getr 1 6 (v := 3) dX1_takeFrom_49 fl_X1_18 rfl rfl rfl ?_
  refine gx_iconst (v := 0) dX1_takeFrom_52 (by decide) ?_
  refine gx_aload_n 0 dX1_takeFrom_53 rfl rfl ?_
  refine gx_getr 1 6 (v := 17) dX1_takeFrom_54 fl_X1_18 rfl rfl rfl ?_
  refine gx_iconst (v := 0) dX1_takeFrom_57 (by decide) ?_
  refine gx_bipush (v := 6) dX1_takeFrom_58 (by decide) ?_
  refine gx_copy dX1_takeFrom_60 ml_X1_56 mw_copy rfl rfl rfl rfl rfl rfl (by decide) (by decide) (by decide) (by decide) (by decide) ?_
  show Z_Fe16_takeFrom_2 g Q 63 [(0, .ref 16), (1, .ref 2)] [] (va_up (gm_u (gm_u (gm_u (gm_u (gm_u (gm_u I 16 0 (I 2 0)) 16 1 (I 2 1)) 16 2 (I 2 2)) 16 3 (I 2 3)) 16 4 (I 2 4)) 16 5 (I 2 5)) 17 (va_cpy (I 3) (I 17) (Int32.toNatClampNeg 0) (Int32.toNatClampNeg 0) (Int32.toNatClampNeg 6))) L c
  refine gx_aload_n 1 dX1_takeFrom_63 rfl rfl ?_
  refine gx_getr 1 7 (v := 4) dX1_takeFrom_64 fl_X1_22 rfl rfl rfl ?_
  refine gx_iconst (v := 0) dX1_takeFrom_67 (by decide) ?_
  refine gx_aload_n 0 dX1_takeFrom_68 rfl rfl ?_
  refine gx_getr 1 7 (v := 18) dX1_takeFrom_69 fl_X1_22 rfl rfl rfl ?_
  refine gx_iconst (v := 0) dX1_takeFrom_72 (by decide) ?_
  refine gx_bipush (v := 6) dX1_takeFrom_73 (by decide) ?_
  refine gx_copy dX1_takeFrom_75 ml_X1_56 mw_copy rfl rfl rfl rfl rfl rfl (by decide) (by decide) (by decide) (by decide) (by decide) ?_
  show Z_Fe16_takeFrom_2 g Q 78 [(0, .ref 16), (1, .ref 2)] [] (va_up (va_up (gm_u (gm_u (gm_u (gm_u (gm_u (gm_u I 16 0 (I 2 0)) 16 1 (I 2 1)) 16 2 (I 2 2)) 16 3 (I 2 3)) 16 4 (I 2 4)) 16 5 (I 2 5)) 17 (va_cpy (I 3) (I 17) (Int32.toNatClampNeg 0) (Int32.toNatClampNeg 0) (Int32.toNatClampNeg 6))) 18 (va_cpy (I 4) (I 18) (Int32.toNatClampNeg 0) (Int32.toNatClampNeg 0) (Int32.toNatClampNeg 6))) L c
  refine gx_aload_n 1 dX1_takeFrom_78 rfl rfl ?_
  refine gx_getr 1 8 (v := 5) dX1_takeFrom_79 fl_X1_25 rfl rfl rfl ?_
  refine gx_iconst (v := 0) dX1_takeFrom_82 (by decide) ?_
  refine gx_aload_n 0 dX1_takeFrom_83 rfl rfl ?_
  refine gx_getr 1 8 (v := 19) dX1_takeFrom_84 fl_X1_25 rfl rfl rfl ?_
  refine gx_iconst (v := 0) dX1_takeFrom_87 (by decide) ?_
  refine gx_bipush (v := 6) dX1_takeFrom_88 (by decide) ?_
  refine gx_copy dX1_takeFrom_90 ml_X1_56 mw_copy rfl rfl rfl rfl rfl rfl (by decide) (by decide) (by decide) (by decide) (by decide) ?_
  show Z_Fe16_takeFrom_2 g Q 93 [(0, .ref 16), (1, .ref 2)] [] (va_up (va_up (va_up (gm_u (gm_u (gm_u (gm_u (gm_u (gm_u I 16 0 (I 2 0)) 16 1 (I 2 1)) 16 2 (I 2 2)) 16 3 (I 2 3)) 16 4 (I 2 4)) 16 5 (I 2 5)) 17 (va_cpy (I 3) (I 17) (Int32.toNatClampNeg 0) (Int32.toNatClampNeg 0) (Int32.toNatClampNeg 6))) 18 (va_cpy (I 4) (I 18) (Int32.toNatClampNeg 0) (Int32.toNatClampNeg 0) (Int32.toNatClampNeg 6))) 19 (va_cpy (I 5) (I 19) (Int32.toNatClampNeg 0) (Int32.toNatClampNeg 0) (Int32.toNatClampNeg 6))) L c
  refine gx_aload_n 0 dX1_takeFrom_93 rfl rfl ?_
  refine gx_aload_n 1 dX1_takeFrom_94 rfl rfl ?_
  refine gx_geti 1 9 (v := (I 2 9)) dX1_takeFrom_95 fl_X1_47 rfl rfl rfl ?_
  obtain ⟨hn, h⟩ := h
  refine gx_puti 1 9 dX1_takeFrom_98 fl_X1_47 rfl rfl rfl hn ?_
  show Z_Fe16_takeFrom_2 g Q 101 [(0, .ref 16), (1, .ref 2)] [] (gm_u (va_up (va_up (va_up (gm_u (gm_u (gm_u (gm_u (gm_u (gm_u I 16 0 (I 2 0)) 16 1 (I 2 1)) 16 2 (I 2 2)) 16 3 (I 2 3)) 16 4 (I 2 4)) 16 5 (I 2 5)) 17 (va_cpy (I 3) (I 17) (Int32.toNatClampNeg 0) (Int32.toNatClampNeg 0) (Int32.toNatClampNeg 6))) 18 (va_cpy (I 4) (I 18) (Int32.toNatClampNeg 0) (Int32.toNatClampNeg 0) (Int32.toNatClampNeg 6))) 19 (va_cpy (I 5) (I 19) (Int32.toNatClampNeg 0) (Int32.toNatClampNeg 0) (Int32.toNatClampNeg 6))) 16 9 (I 2 9)) L c
  refine gx_aload_n 0 dX1_takeFrom_101 rfl rfl ?_
  refine gx_aload_n 1 dX1_takeFrom_102 rfl rfl ?_
  refine gx_geti 1 10 (v := (I 2 10)) dX1_takeFrom_103 fl_X1_28 rfl rfl rfl ?_
  refine gx_puti 1 10 dX1_takeFrom_106 fl_X1_28 rfl rfl rfl ⟨rfl, rfl⟩ ?_
  show Z_Fe16_takeFrom_2 g Q 109 [(0, .ref 16), (1, .ref 2)] [] (gm_u (gm_u (va_up (va_up (va_up (gm_u (gm_u (gm_u (gm_u (gm_u (gm_u I 16 0 (I 2 0)) 16 1 (I 2 1)) 16 2 (I 2 2)) 16 3 (I 2 3)) 16 4 (I 2 4)) 16 5 (I 2 5)) 17 (va_cpy (I 3) (I 17) (Int32.toNatClampNeg 0) (Int32.toNatClampNeg 0) (Int32.toNatClampNeg 6))) 18 (va_cpy (I 4) (I 18) (Int32.toNatClampNeg 0) (Int32.toNatClampNeg 0) (Int32.toNatClampNeg 6))) 19 (va_cpy (I 5) (I 19) (Int32.toNatClampNeg 0) (Int32.toNatClampNeg 0) (Int32.toNatClampNeg 6))) 16 9 (I 2 9)) 16 10 (I 2 10)) L c
  refine gx_aload_n 0 dX1_takeFrom_109 rfl rfl ?_
  refine gx_aload_n 1 dX1_takeFrom_110 rfl rfl ?_
  refine gx_geti 1 11 (v := (I 2 11)) dX1_takeFrom_111 fl_X1_31 rfl rfl rfl ?_
  refine gx_puti 1 11 dX1_takeFrom_114 fl_X1_31 rfl rfl rfl ⟨rfl, rfl⟩ ?_
  show Z_Fe16_takeFrom_2 g Q 117 [(0, .ref 16), (1, .ref 2)] [] (gm_u (gm_u (gm_u (va_up (va_up (va_up (gm_u (gm_u (gm_u (gm_u (gm_u (gm_u I 16 0 (I 2 0)) 16 1 (I 2 1)) 16 2 (I 2 2)) 16 3 (I 2 3)) 16 4 (I 2 4)) 16 5 (I 2 5)) 17 (va_cpy (I 3) (I 17) (Int32.toNatClampNeg 0) (Int32.toNatClampNeg 0) (Int32.toNatClampNeg 6))) 18 (va_cpy (I 4) (I 18) (Int32.toNatClampNeg 0) (Int32.toNatClampNeg 0) (Int32.toNatClampNeg 6))) 19 (va_cpy (I 5) (I 19) (Int32.toNatClampNeg 0) (Int32.toNatClampNeg 0) (Int32.toNatClampNeg 6))) 16 9 (I 2 9)) 16 10 (I 2 10)) 16 11 (I 2 11)) L c
  refine gx_aload_n 0 dX1_takeFrom_117 rfl rfl ?_
  refine gx_aload_n 1 dX1_takeFrom_118 rfl rfl ?_
  refine gx_geti 1 12 (v := (I 2 12)) dX1_takeFrom_119 fl_X1_50 rfl rfl rfl ?_
  refine gx_puti 1 12 dX1_takeFrom_122 fl_X1_50 rfl rfl rfl ⟨rfl, rfl⟩ ?_
  show Z_Fe16_takeFrom_2 g Q 125 [(0, .ref 16), (1, .ref 2)] [] (gm_u (gm_u (gm_u (gm_u (va_up (va_up (va_up (gm_u (gm_u (gm_u (gm_u (gm_u (gm_u I 16 0 (I 2 0)) 16 1 (I 2 1)) 16 2 (I 2 2)) 16 3 (I 2 3)) 16 4 (I 2 4)) 16 5 (I 2 5)) 17 (va_cpy (I 3) (I 17) (Int32.toNatClampNeg 0) (Int32.toNatClampNeg 0) (Int32.toNatClampNeg 6))) 18 (va_cpy (I 4) (I 18) (Int32.toNatClampNeg 0) (Int32.toNatClampNeg 0) (Int32.toNatClampNeg 6))) 19 (va_cpy (I 5) (I 19) (Int32.toNatClampNeg 0) (Int32.toNatClampNeg 0) (Int32.toNatClampNeg 6))) 16 9 (I 2 9)) 16 10 (I 2 10)) 16 11 (I 2 11)) 16 12 (I 2 12)) L c
  refine gx_aload_n 0 dX1_takeFrom_125 rfl rfl ?_
  refine gx_aload_n 1 dX1_takeFrom_126 rfl rfl ?_
  refine gx_geti 1 13 (v := (I 2 13)) dX1_takeFrom_127 fl_X1_53 rfl rfl rfl ?_
  refine gx_puti 1 13 dX1_takeFrom_130 fl_X1_53 rfl rfl rfl ⟨rfl, rfl⟩ ?_
  show Z_Fe16_takeFrom_2 g Q 133 [(0, .ref 16), (1, .ref 2)] [] (gm_u (gm_u (gm_u (gm_u (gm_u (va_up (va_up (va_up (gm_u (gm_u (gm_u (gm_u (gm_u (gm_u I 16 0 (I 2 0)) 16 1 (I 2 1)) 16 2 (I 2 2)) 16 3 (I 2 3)) 16 4 (I 2 4)) 16 5 (I 2 5)) 17 (va_cpy (I 3) (I 17) (Int32.toNatClampNeg 0) (Int32.toNatClampNeg 0) (Int32.toNatClampNeg 6))) 18 (va_cpy (I 4) (I 18) (Int32.toNatClampNeg 0) (Int32.toNatClampNeg 0) (Int32.toNatClampNeg 6))) 19 (va_cpy (I 5) (I 19) (Int32.toNatClampNeg 0) (Int32.toNatClampNeg 0) (Int32.toNatClampNeg 6))) 16 9 (I 2 9)) 16 10 (I 2 10)) 16 11 (I 2 11)) 16 12 (I 2 12)) 16 13 (I 2 13)) L c
  exact gx_vret dX1_takeFrom_133 rfl rfl rfl ⟨_, _, _, rfl, rfl, h⟩
abbrev Z_Sh20_cutTo (g : gm_G) (Q : mI → mL → gm_cfg → Prop) (pc : Nat) (lv : List (Nat × Value)) (st : List Value) (I : mI) (L : mL) (c : gm_cfg) : Prop := gm_X g RX8 "cutTo" cX8_cutTo 2 none 1 0 0 (qV Q) 0 0 pc lv st (SH, I, L, RR c)
abbrev C_Sh20_cutTo (g : gm_G) (x1 : Int32) (I : mI) (L : mL) (c : gm_cfg) (Q : mI → mL → gm_cfg → Prop) : Prop := gm_Met g yX8_cutTo cX8_cutTo 2 none 1 0 0 [.ref 20, .int x1] (SH, I, L, RR c) (qV Q)
set_option maxRecDepth 100000 in
theorem e_Sh20_cutTo {g : gm_G} {Q : mI → mL → gm_cfg → Prop} {x1 : Int32} {I : mI} {L : mL} {c : gm_cfg} (h : ((x1 < 0 → Q I L c) ∧ (¬ x1 < 0 → (((I 20 2) ≤ x1 → Q I L c) ∧ (¬ (I 20 2) ≤ x1 → Q (gm_u I 20 2 x1) L c))))) : C_Sh20_cutTo g x1 I L c Q := by
  refine gm_enter (lv := [(0, .ref 20), (1, .int x1)]) (by decide) rfl rfl rfl rfl ?_
  show Z_Sh20_cutTo g Q 0 [(0, .ref 20), (1, .int x1)] [] I L c
  refine gx_iload_n 1 dX8_cutTo_0 rfl rfl ?_
  refine gx_if_lt 17 dX8_cutTo_1 (by decide) ⟨fun z => ?_, fun z => ?_⟩
  · replace h := h.1 z
    exact gx_vret dX8_cutTo_17 rfl rfl rfl ⟨_, _, _, rfl, rfl, h⟩
  · replace h := h.2 z
    refine gx_iload_n 1 dX8_cutTo_4 rfl rfl ?_
    refine gx_aload_n 0 dX8_cutTo_5 rfl rfl ?_
    refine gx_geti 8 2 (v := (I 20 2)) dX8_cutTo_6 fl_X8_24 rfl rfl rfl ?_
    refine gx_icmp_ge 17 dX8_cutTo_9 (by decide) ⟨fun z => ?_, fun z => ?_⟩
    · replace h := h.1 z
      exact gx_vret dX8_cutTo_17 rfl rfl rfl ⟨_, _, _, rfl, rfl, h⟩
    · replace h := h.2 z
      refine gx_aload_n 0 dX8_cutTo_12 rfl rfl ?_
      refine gx_iload_n 1 dX8_cutTo_13 rfl rfl ?_
      refine gx_puti 8 2 dX8_cutTo_14 fl_X8_24 rfl rfl rfl ⟨rfl, rfl⟩ ?_
      show Z_Sh20_cutTo g Q 17 [(0, .ref 20), (1, .int x1)] [] (gm_u I 20 2 x1) L c
      exact gx_vret dX8_cutTo_17 rfl rfl rfl ⟨_, _, _, rfl, rfl, h⟩
abbrev Z_Fe16_has (g : gm_G) (Q : Bool → mI → mL → gm_cfg → Prop) (pc : Nat) (lv : List (Nat × Value)) (st : List Value) (I : mI) (L : mL) (c : gm_cfg) : Prop := gm_X g RX1 "has" cX1_has 2 (some .boolean) 1 0 0 (qZ Q) 0 0 pc lv st (SH, I, L, RR c)
abbrev C_Fe16_has (g : gm_G) (x1 : Int32) (I : mI) (L : mL) (c : gm_cfg) (Q : Bool → mI → mL → gm_cfg → Prop) : Prop := gm_Met g yX1_has cX1_has 2 (some .boolean) 1 0 0 [.ref 16, .int x1] (SH, I, L, RR c) (qZ Q)
set_option maxRecDepth 100000 in
theorem e_Fe16_has {g : gm_G} {Q : Bool → mI → mL → gm_cfg → Prop} {x1 : Int32} {I : mI} {L : mL} {c : gm_cfg} (h : ((x1 < 0 → Q false I L c) ∧ (¬ x1 < 0 → (((I 16 5) ≤ x1 → Q false I L c) ∧ (¬ (I 16 5) ≤ x1 → ((6 ≤ x1 → Q false I L c) ∧ (¬ 6 ≤ x1 → Q true I L c))))))) : C_Fe16_has g x1 I L c Q := by
  refine gm_enter (lv := [(0, .ref 16), (1, .int x1)]) (by decide) rfl rfl rfl rfl ?_
  show Z_Fe16_has g Q 0 [(0, .ref 16), (1, .int x1)] [] I L c
  refine gx_iload_n 1 dX1_has_0 rfl rfl ?_
  refine gx_if_lt 22 dX1_has_1 (by decide) ⟨fun z => ?_, fun z => ?_⟩
  · replace h := h.1 z
    refine gx_iconst (v := 0) dX1_has_22 (by decide) ?_
    exact gx_zret .boolean dX1_has_23 rfl rfl rfl rfl ⟨false, _, _, _, rfl, rfl, h⟩
  · replace h := h.2 z
    refine gx_iload_n 1 dX1_has_4 rfl rfl ?_
    refine gx_aload_n 0 dX1_has_5 rfl rfl ?_
    refine gx_geti 1 5 (v := (I 16 5)) dX1_has_6 fl_X1_44 rfl rfl rfl ?_
    refine gx_icmp_ge 22 dX1_has_9 (by decide) ⟨fun z => ?_, fun z => ?_⟩
    · replace h := h.1 z
      refine gx_iconst (v := 0) dX1_has_22 (by decide) ?_
      exact gx_zret .boolean dX1_has_23 rfl rfl rfl rfl ⟨false, _, _, _, rfl, rfl, h⟩
    · replace h := h.2 z
      refine gx_iload_n 1 dX1_has_12 rfl rfl ?_
      refine gx_bipush (v := 6) dX1_has_13 (by decide) ?_
      refine gx_icmp_ge 22 dX1_has_15 (by decide) ⟨fun z => ?_, fun z => ?_⟩
      · replace h := h.1 z
        refine gx_iconst (v := 0) dX1_has_22 (by decide) ?_
        exact gx_zret .boolean dX1_has_23 rfl rfl rfl rfl ⟨false, _, _, _, rfl, rfl, h⟩
      · replace h := h.2 z
        refine gx_iconst (v := 1) dX1_has_18 (by decide) ?_
        refine gx_goto 23 dX1_has_19 (by decide) ?_
        exact gx_zret .boolean dX1_has_23 rfl rfl rfl rfl ⟨true, _, _, _, rfl, rfl, h⟩
abbrev Z_Sh20_writtenBy (g : gm_G) (Q : Int32 → mI → mL → gm_cfg → Prop) (pc : Nat) (lv : List (Nat × Value)) (st : List Value) (I : mI) (L : mL) (c : gm_cfg) : Prop := gm_X g RX8 "writtenBy" cX8_writtenBy 4 (some .int) 1 0 0 (qI Q) 0 0 pc lv st (SH, I, L, RR c)
abbrev C_Sh20_writtenBy (g : gm_G) (x1 : Int32) (I : mI) (L : mL) (c : gm_cfg) (Q : Int32 → mI → mL → gm_cfg → Prop) : Prop := gm_Met g yX8_writtenBy cX8_writtenBy 4 (some .int) 1 0 0 [.ref 20, .int x1] (SH, I, L, RR c) (qI Q)
set_option maxRecDepth 100000 in
theorem e_Sh20_writtenBy {g : gm_G} {Q : Int32 → mI → mL → gm_cfg → Prop} {x1 : Int32} {I : mI} {L : mL} {c : gm_cfg} (h : Z_Sh20_writtenBy g Q 4 [(0, .ref 20), (1, .int x1), (2, .int 0), (3, .int 0)] [] I L c) : C_Sh20_writtenBy g x1 I L c Q := by
  refine gm_enter (lv := [(0, .ref 20), (1, .int x1)]) (by decide) rfl rfl rfl rfl ?_
  show Z_Sh20_writtenBy g Q 0 [(0, .ref 20), (1, .int x1)] [] I L c
  refine gx_iconst (v := 0) dX8_writtenBy_0 (by decide) ?_
  refine gx_istore_n (lv' := [(0, .ref 20), (1, .int x1), (2, .int 0)]) dX8_writtenBy_1 rfl rfl rfl ?_
  refine gx_iconst (v := 0) dX8_writtenBy_2 (by decide) ?_
  refine gx_istore_n (lv' := [(0, .ref 20), (1, .int x1), (2, .int 0), (3, .int 0)]) dX8_writtenBy_3 rfl rfl rfl ?_
  exact h
set_option maxRecDepth 100000 in
theorem r_Sh20_writtenBy_4 {g : gm_G} {Q : Int32 → mI → mL → gm_cfg → Prop} {x1 x2 x3 : Int32} {I : mI} {L : mL} {c : gm_cfg} (h : (((I 20 2) ≤ x3 → Q x2 I L c) ∧ (¬ (I 20 2) ≤ x3 → (vp_in x3 40 ∧ (((I 22 (Int32.toNatClampNeg x3)) = x1 → Z_Sh20_writtenBy g Q 4 [(0, .ref 20), (1, .int x1), (2, .int (x2 + 1)), (3, .int (x3 + 1))] [] I L c) ∧ (¬ (I 22 (Int32.toNatClampNeg x3)) = x1 → Z_Sh20_writtenBy g Q 4 [(0, .ref 20), (1, .int x1), (2, .int x2), (3, .int (x3 + 1))] [] I L c)))))) : Z_Sh20_writtenBy g Q 4 [(0, .ref 20), (1, .int x1), (2, .int x2), (3, .int x3)] [] I L c := by
  refine gx_iload_n 3 dX8_writtenBy_4 rfl rfl ?_
  refine gx_aload_n 0 dX8_writtenBy_5 rfl rfl ?_
  refine gx_geti 8 2 (v := (I 20 2)) dX8_writtenBy_6 fl_X8_24 rfl rfl rfl ?_
  refine gx_icmp_ge 31 dX8_writtenBy_9 (by decide) ⟨fun z => ?_, fun z => ?_⟩
  · replace h := h.1 z
    refine gx_iload_n 2 dX8_writtenBy_31 rfl rfl ?_
    exact gx_iret dX8_writtenBy_32 rfl rfl rfl ⟨_, _, _, _, rfl, rfl, h⟩
  · replace h := h.2 z
    refine gx_aload_n 0 dX8_writtenBy_12 rfl rfl ?_
    refine gx_getr 8 1 (v := 22) dX8_writtenBy_13 fl_X8_15 rfl rfl rfl ?_
    refine gx_iload_n 3 dX8_writtenBy_16 rfl rfl ?_
    obtain ⟨hi, h⟩ := h
    refine gx_iald (v := (I 22 (Int32.toNatClampNeg x3))) dX8_writtenBy_17 rfl rfl hi (k := (Int32.toNatClampNeg x3)) rfl rfl ?_
    refine gx_iload_n 1 dX8_writtenBy_18 rfl rfl ?_
    refine gx_icmp_ne 25 dX8_writtenBy_19 (by decide) ⟨fun z => ?_, fun z => ?_⟩
    · replace h := h.1 z
      refine gx_iinc (v := (x2 + 1)) (lv' := [(0, .ref 20), (1, .int x1), (2, .int (x2 + 1)), (3, .int x3)]) 2 dX8_writtenBy_22 rfl rfl rfl rfl ?_
      refine gx_iinc (v := (x3 + 1)) (lv' := [(0, .ref 20), (1, .int x1), (2, .int (x2 + 1)), (3, .int (x3 + 1))]) 3 dX8_writtenBy_25 rfl rfl rfl rfl ?_
      refine gx_goto 4 dX8_writtenBy_28 (by decide) ?_
      exact h
    · replace h := h.2 z
      refine gx_iinc (v := (x3 + 1)) (lv' := [(0, .ref 20), (1, .int x1), (2, .int x2), (3, .int (x3 + 1))]) 3 dX8_writtenBy_25 rfl rfl rfl rfl ?_
      refine gx_goto 4 dX8_writtenBy_28 (by decide) ?_
      exact h
abbrev Z_Sh20_latestBy (g : gm_G) (Q : Int32 → mI → mL → gm_cfg → Prop) (pc : Nat) (lv : List (Nat × Value)) (st : List Value) (I : mI) (L : mL) (c : gm_cfg) : Prop := gm_X g RX8 "latestBy" cX8_latestBy 3 (some .int) 1 0 0 (qI Q) 0 0 pc lv st (SH, I, L, RR c)
abbrev C_Sh20_latestBy (g : gm_G) (x1 : Int32) (I : mI) (L : mL) (c : gm_cfg) (Q : Int32 → mI → mL → gm_cfg → Prop) : Prop := gm_Met g yX8_latestBy cX8_latestBy 3 (some .int) 1 0 0 [.ref 20, .int x1] (SH, I, L, RR c) (qI Q)
set_option maxRecDepth 100000 in
theorem e_Sh20_latestBy {g : gm_G} {Q : Int32 → mI → mL → gm_cfg → Prop} {x1 : Int32} {I : mI} {L : mL} {c : gm_cfg} (h : Z_Sh20_latestBy g Q 7 [(0, .ref 20), (1, .int x1), (2, .int ((I 20 2) - 1))] [] I L c) : C_Sh20_latestBy g x1 I L c Q := by
  refine gm_enter (lv := [(0, .ref 20), (1, .int x1)]) (by decide) rfl rfl rfl rfl ?_
  show Z_Sh20_latestBy g Q 0 [(0, .ref 20), (1, .int x1)] [] I L c
  refine gx_aload_n 0 dX8_latestBy_0 rfl rfl ?_
  refine gx_geti 8 2 (v := (I 20 2)) dX8_latestBy_1 fl_X8_24 rfl rfl rfl ?_
  refine gx_iconst (v := 1) dX8_latestBy_4 (by decide) ?_
  refine gx_isub dX8_latestBy_5 ?_
  refine gx_istore_n (lv' := [(0, .ref 20), (1, .int x1), (2, .int ((I 20 2) - 1))]) dX8_latestBy_6 rfl rfl rfl ?_
  exact h
set_option maxRecDepth 100000 in
theorem r_Sh20_latestBy_7 {g : gm_G} {Q : Int32 → mI → mL → gm_cfg → Prop} {x1 x2 : Int32} {I : mI} {L : mL} {c : gm_cfg} (h : ((x2 < 0 → Q (-1) I L c) ∧ (¬ x2 < 0 → (vp_in x2 40 ∧ (((I 22 (Int32.toNatClampNeg x2)) = x1 → Q x2 I L c) ∧ (¬ (I 22 (Int32.toNatClampNeg x2)) = x1 → Z_Sh20_latestBy g Q 7 [(0, .ref 20), (1, .int x1), (2, .int (x2 + (-1)))] [] I L c)))))) : Z_Sh20_latestBy g Q 7 [(0, .ref 20), (1, .int x1), (2, .int x2)] [] I L c := by
  refine gx_iload_n 2 dX8_latestBy_7 rfl rfl ?_
  refine gx_if_lt 29 dX8_latestBy_8 (by decide) ⟨fun z => ?_, fun z => ?_⟩
  · replace h := h.1 z
    refine gx_iconst (v := (-1)) dX8_latestBy_29 (by decide) ?_
    exact gx_iret dX8_latestBy_30 rfl rfl rfl ⟨_, _, _, _, rfl, rfl, h⟩
  · replace h := h.2 z
    refine gx_aload_n 0 dX8_latestBy_11 rfl rfl ?_
    refine gx_getr 8 1 (v := 22) dX8_latestBy_12 fl_X8_15 rfl rfl rfl ?_
    refine gx_iload_n 2 dX8_latestBy_15 rfl rfl ?_
    obtain ⟨hi, h⟩ := h
    refine gx_iald (v := (I 22 (Int32.toNatClampNeg x2))) dX8_latestBy_16 rfl rfl hi (k := (Int32.toNatClampNeg x2)) rfl rfl ?_
    refine gx_iload_n 1 dX8_latestBy_17 rfl rfl ?_
    refine gx_icmp_ne 23 dX8_latestBy_18 (by decide) ⟨fun z => ?_, fun z => ?_⟩
    · replace h := h.1 z
      refine gx_iload_n 2 dX8_latestBy_21 rfl rfl ?_
      exact gx_iret dX8_latestBy_22 rfl rfl rfl ⟨_, _, _, _, rfl, rfl, h⟩
    · replace h := h.2 z
      refine gx_iinc (v := (x2 + (-1))) (lv' := [(0, .ref 20), (1, .int x1), (2, .int (x2 + (-1)))]) 2 dX8_latestBy_23 rfl rfl rfl rfl ?_
      refine gx_goto 7 dX8_latestBy_26 (by decide) ?_
      exact h
abbrev Z_Fe16_sightOf (g : gm_G) (Q : Int32 → mI → mL → gm_cfg → Prop) (pc : Nat) (lv : List (Nat × Value)) (st : List Value) (I : mI) (L : mL) (c : gm_cfg) : Prop := gm_X g RX1 "sightOf" cX1_sightOf 3 (some .int) 2 0 0 (qI Q) 0 0 pc lv st (SH, I, L, RR c)
abbrev C_Fe16_sightOf (g : gm_G) (x1 : Int32) (x2 : Int32) (I : mI) (L : mL) (c : gm_cfg) (Q : Int32 → mI → mL → gm_cfg → Prop) : Prop := gm_Met g yX1_sightOf cX1_sightOf 3 (some .int) 2 0 0 [.ref 16, .int x1, .int x2] (SH, I, L, RR c) (qI Q)
set_option maxRecDepth 100000 in
theorem e_Fe16_sightOf {g : gm_G} {Q : Int32 → mI → mL → gm_cfg → Prop} {x1 x2 : Int32} {I : mI} {L : mL} {c : gm_cfg} (h : (C_Fe16_has g x1 I L c (fun b4 I1 L2 c3 => ((b4 = false → Q 0 I1 L2 c3) ∧ (b4 = true → (vp_in x1 6 ∧ Q ((x2 * (I1 17 (Int32.toNatClampNeg x1))) / 100) I1 L2 c3)))))) : C_Fe16_sightOf g x1 x2 I L c Q := by
  refine gm_enter (lv := [(0, .ref 16), (1, .int x1), (2, .int x2)]) (by decide) rfl rfl rfl rfl ?_
  show Z_Fe16_sightOf g Q 0 [(0, .ref 16), (1, .int x1), (2, .int x2)] [] I L c
  refine gx_aload_n 0 dX1_sightOf_0 rfl rfl ?_
  refine gx_iload_n 1 dX1_sightOf_1 rfl rfl ?_
  refine gx_callV 1 (As := [.int x1]) (st := []) dX1_sightOf_2 ml_X1_72 mm_X1_has rfl rfl rfl rfl rfl rfl ⟨rfl, rfl⟩ h (fun v h2 hq => ?_)
  clear h
  obtain ⟨b4, I1, L2, c3, rfl, rfl, h⟩ := hq
  show Z_Fe16_sightOf g Q 5 [(0, .ref 16), (1, .int x1), (2, .int x2)] [.int (gm_b b4)] I1 L2 c3
  refine gx_if_eq 22 dX1_sightOf_5 (by decide) ⟨fun z => ?_, fun z => ?_⟩
  · replace h := h.1 (gm_b0.mp z)
    refine gx_iconst (v := 0) dX1_sightOf_22 (by decide) ?_
    exact gx_iret dX1_sightOf_23 rfl rfl rfl ⟨_, _, _, _, rfl, rfl, h⟩
  · replace h := h.2 (gm_bn0 z)
    refine gx_iload_n 2 dX1_sightOf_8 rfl rfl ?_
    refine gx_aload_n 0 dX1_sightOf_9 rfl rfl ?_
    refine gx_getr 1 6 (v := 17) dX1_sightOf_10 fl_X1_18 rfl rfl rfl ?_
    refine gx_iload_n 1 dX1_sightOf_13 rfl rfl ?_
    obtain ⟨hi, h⟩ := h
    refine gx_iald (v := (I1 17 (Int32.toNatClampNeg x1))) dX1_sightOf_14 rfl rfl hi (k := (Int32.toNatClampNeg x1)) rfl rfl ?_
    refine gx_imul dX1_sightOf_15 ?_
    refine gx_bipush (v := 100) dX1_sightOf_16 (by decide) ?_
    refine gx_idiv dX1_sightOf_18 (by decide) ?_
    refine gx_goto 23 dX1_sightOf_19 (by decide) ?_
    exact gx_iret dX1_sightOf_23 rfl rfl rfl ⟨_, _, _, _, rfl, rfl, h⟩
abbrev Z_Fe16_spans (g : gm_G) (Q : Bool → mI → mL → gm_cfg → Prop) (pc : Nat) (lv : List (Nat × Value)) (st : List Value) (I : mI) (L : mL) (c : gm_cfg) : Prop := gm_X g RX1 "spans" cX1_spans 2 (some .boolean) 1 0 0 (qZ Q) 0 0 pc lv st (SH, I, L, RR c)
abbrev C_Fe16_spans (g : gm_G) (x1 : Int32) (I : mI) (L : mL) (c : gm_cfg) (Q : Bool → mI → mL → gm_cfg → Prop) : Prop := gm_Met g yX1_spans cX1_spans 2 (some .boolean) 1 0 0 [.ref 16, .int x1] (SH, I, L, RR c) (qZ Q)
set_option maxRecDepth 100000 in
theorem e_Fe16_spans {g : gm_G} {Q : Bool → mI → mL → gm_cfg → Prop} {x1 : Int32} {I : mI} {L : mL} {c : gm_cfg} (h : ((x1 < (I 16 0) → Q false I L c) ∧ (¬ x1 < (I 16 0) → (((I 16 1) < x1 → Q false I L c) ∧ (¬ (I 16 1) < x1 → Q true I L c))))) : C_Fe16_spans g x1 I L c Q := by
  refine gm_enter (lv := [(0, .ref 16), (1, .int x1)]) (by decide) rfl rfl rfl rfl ?_
  show Z_Fe16_spans g Q 0 [(0, .ref 16), (1, .int x1)] [] I L c
  refine gx_iload_n 1 dX1_spans_0 rfl rfl ?_
  refine gx_aload_n 0 dX1_spans_1 rfl rfl ?_
  refine gx_geti 1 0 (v := (I 16 0)) dX1_spans_2 fl_X1_9 rfl rfl rfl ?_
  refine gx_icmp_lt 20 dX1_spans_5 (by decide) ⟨fun z => ?_, fun z => ?_⟩
  · replace h := h.1 z
    refine gx_iconst (v := 0) dX1_spans_20 (by decide) ?_
    exact gx_zret .boolean dX1_spans_21 rfl rfl rfl rfl ⟨false, _, _, _, rfl, rfl, h⟩
  · replace h := h.2 z
    refine gx_iload_n 1 dX1_spans_8 rfl rfl ?_
    refine gx_aload_n 0 dX1_spans_9 rfl rfl ?_
    refine gx_geti 1 1 (v := (I 16 1)) dX1_spans_10 fl_X1_15 rfl rfl rfl ?_
    refine gx_icmp_gt 20 dX1_spans_13 (by decide) ⟨fun z => ?_, fun z => ?_⟩
    · replace h := h.1 z
      refine gx_iconst (v := 0) dX1_spans_20 (by decide) ?_
      exact gx_zret .boolean dX1_spans_21 rfl rfl rfl rfl ⟨false, _, _, _, rfl, rfl, h⟩
    · replace h := h.2 z
      refine gx_iconst (v := 1) dX1_spans_16 (by decide) ?_
      refine gx_goto 21 dX1_spans_17 (by decide) ?_
      exact gx_zret .boolean dX1_spans_21 rfl rfl rfl rfl ⟨true, _, _, _, rfl, rfl, h⟩
abbrev Z_Fe16_weightOf (g : gm_G) (Q : Int32 → mI → mL → gm_cfg → Prop) (pc : Nat) (lv : List (Nat × Value)) (st : List Value) (I : mI) (L : mL) (c : gm_cfg) : Prop := gm_X g RX1 "weightOf" cX1_weightOf 2 (some .int) 1 0 0 (qI Q) 0 0 pc lv st (SH, I, L, RR c)
abbrev C_Fe16_weightOf (g : gm_G) (x1 : Int32) (I : mI) (L : mL) (c : gm_cfg) (Q : Int32 → mI → mL → gm_cfg → Prop) : Prop := gm_Met g yX1_weightOf cX1_weightOf 2 (some .int) 1 0 0 [.ref 16, .int x1] (SH, I, L, RR c) (qI Q)
set_option maxRecDepth 100000 in
theorem e_Fe16_weightOf {g : gm_G} {Q : Int32 → mI → mL → gm_cfg → Prop} {x1 : Int32} {I : mI} {L : mL} {c : gm_cfg} (h : (((I 16 2) = 0 → Q 1 I L c) ∧ (¬ (I 16 2) = 0 → Q ((if 1 < (9 - ((I 16 4) * ((if 0 ≤ (x1 - (I 16 3)) then (x1 - (I 16 3)) else 0 - (x1 - (I 16 3))) : Int32))) then (9 - ((I 16 4) * ((if 0 ≤ (x1 - (I 16 3)) then (x1 - (I 16 3)) else 0 - (x1 - (I 16 3))) : Int32))) else 1) : Int32) I L c))) : C_Fe16_weightOf g x1 I L c Q := by
  refine gm_enter (lv := [(0, .ref 16), (1, .int x1)]) (by decide) rfl rfl rfl rfl ?_
  show Z_Fe16_weightOf g Q 0 [(0, .ref 16), (1, .int x1)] [] I L c
  refine gx_aload_n 0 dX1_weightOf_0 rfl rfl ?_
  refine gx_geti 1 2 (v := (I 16 2)) dX1_weightOf_1 fl_X1_34 rfl rfl rfl ?_
  refine gx_if_eq 31 dX1_weightOf_4 (by decide) ⟨fun z => ?_, fun z => ?_⟩
  · replace h := h.1 z
    refine gx_iconst (v := 1) dX1_weightOf_31 (by decide) ?_
    exact gx_iret dX1_weightOf_32 rfl rfl rfl ⟨_, _, _, _, rfl, rfl, h⟩
  · replace h := h.2 z
    refine gx_iconst (v := 1) dX1_weightOf_7 (by decide) ?_
    refine gx_bipush (v := 9) dX1_weightOf_8 (by decide) ?_
    refine gx_aload_n 0 dX1_weightOf_10 rfl rfl ?_
    refine gx_geti 1 4 (v := (I 16 4)) dX1_weightOf_11 fl_X1_41 rfl rfl rfl ?_
    refine gx_iload_n 1 dX1_weightOf_14 rfl rfl ?_
    refine gx_aload_n 0 dX1_weightOf_15 rfl rfl ?_
    refine gx_geti 1 3 (v := (I 16 3)) dX1_weightOf_16 fl_X1_38 rfl rfl rfl ?_
    refine gx_isub dX1_weightOf_19 ?_
    refine gx_mabs dX1_weightOf_20 ml_X1_62 mw_abs rfl rfl rfl rfl ?_
    refine gx_imul dX1_weightOf_23 ?_
    refine gx_isub dX1_weightOf_24 ?_
    refine gx_mmax dX1_weightOf_25 ml_X1_68 mw_max rfl rfl rfl rfl ?_
    refine gx_goto 32 dX1_weightOf_28 (by decide) ?_
    exact gx_iret dX1_weightOf_32 rfl rfl rfl ⟨_, _, _, _, rfl, rfl, h⟩
abbrev Z_Sh20_add (g : gm_G) (Q : mI → mL → gm_cfg → Prop) (pc : Nat) (lv : List (Nat × Value)) (st : List Value) (I : mI) (L : mL) (c : gm_cfg) : Prop := gm_X g RX8 "add" cX8_add 3 none 1 0 0 (qV Q) 0 0 pc lv st (SH, I, L, RR c)
abbrev C_Sh20_add (g : gm_G) (x1 : Int32) (x2 : Int32) (I : mI) (L : mL) (c : gm_cfg) (Q : mI → mL → gm_cfg → Prop) : Prop := gm_Met g yX8_add cX8_add 3 none 1 0 0 [.ref 20, .int x1, .int x2] (SH, I, L, RR c) (qV Q)
set_option maxRecDepth 100000 in
theorem e_Sh20_add {g : gm_G} {Q : mI → mL → gm_cfg → Prop} {x1 x2 : Int32} {I : mI} {L : mL} {c : gm_cfg} (h : ((40 ≤ (I 20 2) → Q I L c) ∧ (¬ 40 ≤ (I 20 2) → (vp_in (I 20 2) 40 ∧ (vp_in (I 20 2) 40 ∧ Q (gm_u (gm_u (gm_u I 21 (Int32.toNatClampNeg (I 20 2)) x2) 22 (Int32.toNatClampNeg (I 20 2)) x1) 20 2 ((I 20 2) + 1)) L c))))) : C_Sh20_add g x1 x2 I L c Q := by
  refine gm_enter (lv := [(0, .ref 20), (1, .int x1), (2, .int x2)]) (by decide) rfl rfl rfl rfl ?_
  show Z_Sh20_add g Q 0 [(0, .ref 20), (1, .int x1), (2, .int x2)] [] I L c
  refine gx_aload_n 0 dX8_add_0 rfl rfl ?_
  refine gx_geti 8 2 (v := (I 20 2)) dX8_add_1 fl_X8_24 rfl rfl rfl ?_
  refine gx_bipush (v := 40) dX8_add_4 (by decide) ?_
  refine gx_icmp_ge 39 dX8_add_6 (by decide) ⟨fun z => ?_, fun z => ?_⟩
  · replace h := h.1 z
    exact gx_vret dX8_add_39 rfl rfl rfl ⟨_, _, _, rfl, rfl, h⟩
  · replace h := h.2 z
    refine gx_aload_n 0 dX8_add_9 rfl rfl ?_
    refine gx_getr 8 0 (v := 21) dX8_add_10 fl_X8_9 rfl rfl rfl ?_
    refine gx_aload_n 0 dX8_add_13 rfl rfl ?_
    refine gx_geti 8 2 (v := (I 20 2)) dX8_add_14 fl_X8_24 rfl rfl rfl ?_
    refine gx_iload_n 2 dX8_add_17 rfl rfl ?_
    obtain ⟨hi, h⟩ := h
    refine gx_iast dX8_add_18 rfl rfl hi (k := (Int32.toNatClampNeg (I 20 2))) rfl ?_
    show Z_Sh20_add g Q 19 [(0, .ref 20), (1, .int x1), (2, .int x2)] [] (gm_u I 21 (Int32.toNatClampNeg (I 20 2)) x2) L c
    refine gx_aload_n 0 dX8_add_19 rfl rfl ?_
    refine gx_getr 8 1 (v := 22) dX8_add_20 fl_X8_15 rfl rfl rfl ?_
    refine gx_aload_n 0 dX8_add_23 rfl rfl ?_
    refine gx_geti 8 2 (v := (I 20 2)) dX8_add_24 fl_X8_24 rfl rfl rfl ?_
    refine gx_iload_n 1 dX8_add_27 rfl rfl ?_
    obtain ⟨hi, h⟩ := h
    refine gx_iast dX8_add_28 rfl rfl hi (k := (Int32.toNatClampNeg (I 20 2))) rfl ?_
    show Z_Sh20_add g Q 29 [(0, .ref 20), (1, .int x1), (2, .int x2)] [] (gm_u (gm_u I 21 (Int32.toNatClampNeg (I 20 2)) x2) 22 (Int32.toNatClampNeg (I 20 2)) x1) L c
    refine gx_aload_n 0 dX8_add_29 rfl rfl ?_
    refine gx_dup dX8_add_30 rfl ?_
    refine gx_geti 8 2 (v := (I 20 2)) dX8_add_31 fl_X8_24 rfl rfl rfl ?_
    refine gx_iconst (v := 1) dX8_add_34 (by decide) ?_
    refine gx_iadd dX8_add_35 ?_
    refine gx_puti 8 2 dX8_add_36 fl_X8_24 rfl rfl rfl ⟨rfl, rfl⟩ ?_
    show Z_Sh20_add g Q 39 [(0, .ref 20), (1, .int x1), (2, .int x2)] [] (gm_u (gm_u (gm_u I 21 (Int32.toNatClampNeg (I 20 2)) x2) 22 (Int32.toNatClampNeg (I 20 2)) x1) 20 2 ((I 20 2) + 1)) L c
    exact gx_vret dX8_add_39 rfl rfl rfl ⟨_, _, _, rfl, rfl, h⟩
abbrev Z_Sh20_has (g : gm_G) (Q : Bool → mI → mL → gm_cfg → Prop) (pc : Nat) (lv : List (Nat × Value)) (st : List Value) (I : mI) (L : mL) (c : gm_cfg) : Prop := gm_X g RX8 "has" cX8_has 2 (some .boolean) 1 0 0 (qZ Q) 0 0 pc lv st (SH, I, L, RR c)
abbrev C_Sh20_has (g : gm_G) (x1 : Int32) (I : mI) (L : mL) (c : gm_cfg) (Q : Bool → mI → mL → gm_cfg → Prop) : Prop := gm_Met g yX8_has cX8_has 2 (some .boolean) 1 0 0 [.ref 20, .int x1] (SH, I, L, RR c) (qZ Q)
set_option maxRecDepth 100000 in
theorem e_Sh20_has {g : gm_G} {Q : Bool → mI → mL → gm_cfg → Prop} {x1 : Int32} {I : mI} {L : mL} {c : gm_cfg} (h : ((x1 < 0 → Q false I L c) ∧ (¬ x1 < 0 → (((I 20 2) ≤ x1 → Q false I L c) ∧ (¬ (I 20 2) ≤ x1 → ((40 ≤ x1 → Q false I L c) ∧ (¬ 40 ≤ x1 → Q true I L c))))))) : C_Sh20_has g x1 I L c Q := by
  refine gm_enter (lv := [(0, .ref 20), (1, .int x1)]) (by decide) rfl rfl rfl rfl ?_
  show Z_Sh20_has g Q 0 [(0, .ref 20), (1, .int x1)] [] I L c
  refine gx_iload_n 1 dX8_has_0 rfl rfl ?_
  refine gx_if_lt 22 dX8_has_1 (by decide) ⟨fun z => ?_, fun z => ?_⟩
  · replace h := h.1 z
    refine gx_iconst (v := 0) dX8_has_22 (by decide) ?_
    exact gx_zret .boolean dX8_has_23 rfl rfl rfl rfl ⟨false, _, _, _, rfl, rfl, h⟩
  · replace h := h.2 z
    refine gx_iload_n 1 dX8_has_4 rfl rfl ?_
    refine gx_aload_n 0 dX8_has_5 rfl rfl ?_
    refine gx_geti 8 2 (v := (I 20 2)) dX8_has_6 fl_X8_24 rfl rfl rfl ?_
    refine gx_icmp_ge 22 dX8_has_9 (by decide) ⟨fun z => ?_, fun z => ?_⟩
    · replace h := h.1 z
      refine gx_iconst (v := 0) dX8_has_22 (by decide) ?_
      exact gx_zret .boolean dX8_has_23 rfl rfl rfl rfl ⟨false, _, _, _, rfl, rfl, h⟩
    · replace h := h.2 z
      refine gx_iload_n 1 dX8_has_12 rfl rfl ?_
      refine gx_bipush (v := 40) dX8_has_13 (by decide) ?_
      refine gx_icmp_ge 22 dX8_has_15 (by decide) ⟨fun z => ?_, fun z => ?_⟩
      · replace h := h.1 z
        refine gx_iconst (v := 0) dX8_has_22 (by decide) ?_
        exact gx_zret .boolean dX8_has_23 rfl rfl rfl rfl ⟨false, _, _, _, rfl, rfl, h⟩
      · replace h := h.2 z
        refine gx_iconst (v := 1) dX8_has_18 (by decide) ?_
        refine gx_goto 23 dX8_has_19 (by decide) ?_
        exact gx_zret .boolean dX8_has_23 rfl rfl rfl rfl ⟨true, _, _, _, rfl, rfl, h⟩
abbrev Z_Sh20_sumOf (g : gm_G) (Q : Int32 → mI → mL → gm_cfg → Prop) (pc : Nat) (lv : List (Nat × Value)) (st : List Value) (I : mI) (L : mL) (c : gm_cfg) : Prop := gm_X g RX8 "sumOf" cX8_sumOf 4 (some .int) 1 0 0 (qI Q) 0 0 pc lv st (SH, I, L, RR c)
abbrev C_Sh20_sumOf (g : gm_G) (x1 : Int32) (I : mI) (L : mL) (c : gm_cfg) (Q : Int32 → mI → mL → gm_cfg → Prop) : Prop := gm_Met g yX8_sumOf cX8_sumOf 4 (some .int) 1 0 0 [.ref 20, .int x1] (SH, I, L, RR c) (qI Q)
set_option maxRecDepth 100000 in
theorem e_Sh20_sumOf {g : gm_G} {Q : Int32 → mI → mL → gm_cfg → Prop} {x1 : Int32} {I : mI} {L : mL} {c : gm_cfg} (h : Z_Sh20_sumOf g Q 4 [(0, .ref 20), (1, .int x1), (2, .int 0), (3, .int 0)] [] I L c) : C_Sh20_sumOf g x1 I L c Q := by
  refine gm_enter (lv := [(0, .ref 20), (1, .int x1)]) (by decide) rfl rfl rfl rfl ?_
  show Z_Sh20_sumOf g Q 0 [(0, .ref 20), (1, .int x1)] [] I L c
  refine gx_iconst (v := 0) dX8_sumOf_0 (by decide) ?_
  refine gx_istore_n (lv' := [(0, .ref 20), (1, .int x1), (2, .int 0)]) dX8_sumOf_1 rfl rfl rfl ?_
  refine gx_iconst (v := 0) dX8_sumOf_2 (by decide) ?_
  refine gx_istore_n (lv' := [(0, .ref 20), (1, .int x1), (2, .int 0), (3, .int 0)]) dX8_sumOf_3 rfl rfl rfl ?_
  exact h
set_option maxRecDepth 100000 in
theorem r_Sh20_sumOf_4 {g : gm_G} {Q : Int32 → mI → mL → gm_cfg → Prop} {x1 x2 x3 : Int32} {I : mI} {L : mL} {c : gm_cfg} (h : ((x1 ≤ x3 → Q x2 I L c) ∧ (¬ x1 ≤ x3 → (((I 20 2) ≤ x3 → Q x2 I L c) ∧ (¬ (I 20 2) ≤ x3 → (vp_in x3 40 ∧ Z_Sh20_sumOf g Q 4 [(0, .ref 20), (1, .int x1), (2, .int (x2 + (I 21 (Int32.toNatClampNeg x3)))), (3, .int (x3 + 1))] [] I L c)))))) : Z_Sh20_sumOf g Q 4 [(0, .ref 20), (1, .int x1), (2, .int x2), (3, .int x3)] [] I L c := by
  refine gx_iload_n 3 dX8_sumOf_4 rfl rfl ?_
  refine gx_iload_n 1 dX8_sumOf_5 rfl rfl ?_
  refine gx_icmp_ge 32 dX8_sumOf_6 (by decide) ⟨fun z => ?_, fun z => ?_⟩
  · replace h := h.1 z
    refine gx_iload_n 2 dX8_sumOf_32 rfl rfl ?_
    exact gx_iret dX8_sumOf_33 rfl rfl rfl ⟨_, _, _, _, rfl, rfl, h⟩
  · replace h := h.2 z
    refine gx_iload_n 3 dX8_sumOf_9 rfl rfl ?_
    refine gx_aload_n 0 dX8_sumOf_10 rfl rfl ?_
    refine gx_geti 8 2 (v := (I 20 2)) dX8_sumOf_11 fl_X8_24 rfl rfl rfl ?_
    refine gx_icmp_ge 32 dX8_sumOf_14 (by decide) ⟨fun z => ?_, fun z => ?_⟩
    · replace h := h.1 z
      refine gx_iload_n 2 dX8_sumOf_32 rfl rfl ?_
      exact gx_iret dX8_sumOf_33 rfl rfl rfl ⟨_, _, _, _, rfl, rfl, h⟩
    · replace h := h.2 z
      refine gx_iload_n 2 dX8_sumOf_17 rfl rfl ?_
      refine gx_aload_n 0 dX8_sumOf_18 rfl rfl ?_
      refine gx_getr 8 0 (v := 21) dX8_sumOf_19 fl_X8_9 rfl rfl rfl ?_
      refine gx_iload_n 3 dX8_sumOf_22 rfl rfl ?_
      obtain ⟨hi, h⟩ := h
      refine gx_iald (v := (I 21 (Int32.toNatClampNeg x3))) dX8_sumOf_23 rfl rfl hi (k := (Int32.toNatClampNeg x3)) rfl rfl ?_
      refine gx_iadd dX8_sumOf_24 ?_
      refine gx_istore_n (lv' := [(0, .ref 20), (1, .int x1), (2, .int (x2 + (I 21 (Int32.toNatClampNeg x3)))), (3, .int x3)]) dX8_sumOf_25 rfl rfl rfl ?_
      refine gx_iinc (v := (x3 + 1)) (lv' := [(0, .ref 20), (1, .int x1), (2, .int (x2 + (I 21 (Int32.toNatClampNeg x3)))), (3, .int (x3 + 1))]) 3 dX8_sumOf_26 rfl rfl rfl rfl ?_
      refine gx_goto 4 dX8_sumOf_29 (by decide) ?_
      exact h
abbrev Z_Sh20_goalAt (g : gm_G) (Q : Int32 → mI → mL → gm_cfg → Prop) (pc : Nat) (lv : List (Nat × Value)) (st : List Value) (I : mI) (L : mL) (c : gm_cfg) : Prop := gm_X g RX8 "goalAt" cX8_goalAt 3 (some .int) 2 0 0 (qI Q) 0 0 pc lv st (SH, I, L, RR c)
abbrev C_Sh20_goalAt (g : gm_G) (x1 : Int32) (x2 : Int32) (I : mI) (L : mL) (c : gm_cfg) (Q : Int32 → mI → mL → gm_cfg → Prop) : Prop := gm_Met g yX8_goalAt cX8_goalAt 3 (some .int) 2 0 0 [.ref 20, .int x1, .int x2] (SH, I, L, RR c) (qI Q)
set_option maxRecDepth 100000 in
theorem e_Sh20_goalAt {g : gm_G} {Q : Int32 → mI → mL → gm_cfg → Prop} {x1 x2 : Int32} {I : mI} {L : mL} {c : gm_cfg} (h : ((x2 = 0 → ((0 < x1 → (C_Sh20_sumOf g x1 I L c (fun r4 I1 L2 c3 => (¬ x1 = 0 ∧ Q (r4 / x1) I1 L2 c3)))) ∧ (¬ 0 < x1 → Q (-1) I L c))) ∧ (¬ x2 = 0 → Q (-1) I L c))) : C_Sh20_goalAt g x1 x2 I L c Q := by
  refine gm_enter (lv := [(0, .ref 20), (1, .int x1), (2, .int x2)]) (by decide) rfl rfl rfl rfl ?_
  show Z_Sh20_goalAt g Q 0 [(0, .ref 20), (1, .int x1), (2, .int x2)] [] I L c
  refine gx_iload_n 2 dX8_goalAt_0 rfl rfl ?_
  refine gx_if_ne 8 dX8_goalAt_1 (by decide) ⟨fun z => ?_, fun z => ?_⟩
  · replace h := h.1 z
    refine gx_iload_n 1 dX8_goalAt_4 rfl rfl ?_
    refine gx_if_gt 12 dX8_goalAt_5 (by decide) ⟨fun z => ?_, fun z => ?_⟩
    · replace h := h.1 z
      refine gx_aload_n 0 dX8_goalAt_12 rfl rfl ?_
      refine gx_iload_n 1 dX8_goalAt_13 rfl rfl ?_
      refine gx_callV 8 (As := [.int x1]) (st := []) dX8_goalAt_14 ml_X8_28 mm_X8_sumOf rfl rfl rfl rfl rfl rfl ⟨rfl, rfl⟩ h (fun v h2 hq => ?_)
      clear h
      obtain ⟨r4, I1, L2, c3, rfl, rfl, h⟩ := hq
      show Z_Sh20_goalAt g Q 17 [(0, .ref 20), (1, .int x1), (2, .int x2)] [.int r4] I1 L2 c3
      refine gx_iload_n 1 dX8_goalAt_17 rfl rfl ?_
      obtain ⟨hn, h⟩ := h
      refine gx_idiv dX8_goalAt_18 hn ?_
      exact gx_iret dX8_goalAt_19 rfl rfl rfl ⟨_, _, _, _, rfl, rfl, h⟩
    · replace h := h.2 z
      refine gx_iconst (v := (-1)) dX8_goalAt_8 (by decide) ?_
      refine gx_goto 19 dX8_goalAt_9 (by decide) ?_
      exact gx_iret dX8_goalAt_19 rfl rfl rfl ⟨_, _, _, _, rfl, rfl, h⟩
  · replace h := h.2 z
    refine gx_iconst (v := (-1)) dX8_goalAt_8 (by decide) ?_
    refine gx_goto 19 dX8_goalAt_9 (by decide) ?_
    exact gx_iret dX8_goalAt_19 rfl rfl rfl ⟨_, _, _, _, rfl, rfl, h⟩
abbrev Z_Sh20_firstOf (g : gm_G) (Q : Int32 → mI → mL → gm_cfg → Prop) (pc : Nat) (lv : List (Nat × Value)) (st : List Value) (I : mI) (L : mL) (c : gm_cfg) : Prop := gm_X g RX8 "firstOf" cX8_firstOf 3 (some .int) 1 0 0 (qI Q) 0 0 pc lv st (SH, I, L, RR c)
abbrev C_Sh20_firstOf (g : gm_G) (x1 : Int32) (I : mI) (L : mL) (c : gm_cfg) (Q : Int32 → mI → mL → gm_cfg → Prop) : Prop := gm_Met g yX8_firstOf cX8_firstOf 3 (some .int) 1 0 0 [.ref 20, .int x1] (SH, I, L, RR c) (qI Q)
set_option maxRecDepth 100000 in
theorem e_Sh20_firstOf {g : gm_G} {Q : Int32 → mI → mL → gm_cfg → Prop} {x1 : Int32} {I : mI} {L : mL} {c : gm_cfg} (h : Z_Sh20_firstOf g Q 2 [(0, .ref 20), (1, .int x1), (2, .int 0)] [] I L c) : C_Sh20_firstOf g x1 I L c Q := by
  refine gm_enter (lv := [(0, .ref 20), (1, .int x1)]) (by decide) rfl rfl rfl rfl ?_
  show Z_Sh20_firstOf g Q 0 [(0, .ref 20), (1, .int x1)] [] I L c
  refine gx_iconst (v := 0) dX8_firstOf_0 (by decide) ?_
  refine gx_istore_n (lv' := [(0, .ref 20), (1, .int x1), (2, .int 0)]) dX8_firstOf_1 rfl rfl rfl ?_
  exact h
set_option maxRecDepth 100000 in
theorem r_Sh20_firstOf_2 {g : gm_G} {Q : Int32 → mI → mL → gm_cfg → Prop} {x1 x2 : Int32} {I : mI} {L : mL} {c : gm_cfg} (h : (((I 20 2) ≤ x2 → Q (-1) I L c) ∧ (¬ (I 20 2) ≤ x2 → (vp_in x2 40 ∧ (((I 21 (Int32.toNatClampNeg x2)) = x1 → Q x2 I L c) ∧ (¬ (I 21 (Int32.toNatClampNeg x2)) = x1 → Z_Sh20_firstOf g Q 2 [(0, .ref 20), (1, .int x1), (2, .int (x2 + 1))] [] I L c)))))) : Z_Sh20_firstOf g Q 2 [(0, .ref 20), (1, .int x1), (2, .int x2)] [] I L c := by
  refine gx_iload_n 2 dX8_firstOf_2 rfl rfl ?_
  refine gx_aload_n 0 dX8_firstOf_3 rfl rfl ?_
  refine gx_geti 8 2 (v := (I 20 2)) dX8_firstOf_4 fl_X8_24 rfl rfl rfl ?_
  refine gx_icmp_ge 28 dX8_firstOf_7 (by decide) ⟨fun z => ?_, fun z => ?_⟩
  · replace h := h.1 z
    refine gx_iconst (v := (-1)) dX8_firstOf_28 (by decide) ?_
    exact gx_iret dX8_firstOf_29 rfl rfl rfl ⟨_, _, _, _, rfl, rfl, h⟩
  · replace h := h.2 z
    refine gx_aload_n 0 dX8_firstOf_10 rfl rfl ?_
    refine gx_getr 8 0 (v := 21) dX8_firstOf_11 fl_X8_9 rfl rfl rfl ?_
    refine gx_iload_n 2 dX8_firstOf_14 rfl rfl ?_
    obtain ⟨hi, h⟩ := h
    refine gx_iald (v := (I 21 (Int32.toNatClampNeg x2))) dX8_firstOf_15 rfl rfl hi (k := (Int32.toNatClampNeg x2)) rfl rfl ?_
    refine gx_iload_n 1 dX8_firstOf_16 rfl rfl ?_
    refine gx_icmp_ne 22 dX8_firstOf_17 (by decide) ⟨fun z => ?_, fun z => ?_⟩
    · replace h := h.1 z
      refine gx_iload_n 2 dX8_firstOf_20 rfl rfl ?_
      exact gx_iret dX8_firstOf_21 rfl rfl rfl ⟨_, _, _, _, rfl, rfl, h⟩
    · replace h := h.2 z
      refine gx_iinc (v := (x2 + 1)) (lv' := [(0, .ref 20), (1, .int x1), (2, .int (x2 + 1))]) 2 dX8_firstOf_22 rfl rfl rfl rfl ?_
      refine gx_goto 2 dX8_firstOf_25 (by decide) ?_
      exact h
abbrev Z_Ro35_isMissing (g : gm_G) (Q : Bool → mI → mL → gm_cfg → Prop) (pc : Nat) (lv : List (Nat × Value)) (st : List Value) (I : mI) (L : mL) (c : gm_cfg) : Prop := gm_X g RX6 "isMissing" cX6_isMissing 1 (some .boolean) 1 0 0 (qZ Q) 0 0 pc lv st (SH, I, L, RR c)
abbrev C_Ro35_isMissing (g : gm_G) (I : mI) (L : mL) (c : gm_cfg) (Q : Bool → mI → mL → gm_cfg → Prop) : Prop := gm_Met g yX6_isMissing cX6_isMissing 1 (some .boolean) 1 0 0 [.ref 35] (SH, I, L, RR c) (qZ Q)
set_option maxRecDepth 100000 in
theorem e_Ro35_isMissing {g : gm_G} {Q : Bool → mI → mL → gm_cfg → Prop} {I : mI} {L : mL} {c : gm_cfg} (h : ((0 ≤ (I 35 1) → Q false I L c) ∧ (¬ 0 ≤ (I 35 1) → Q true I L c))) : C_Ro35_isMissing g  I L c Q := by
  refine gm_enter (lv := [(0, .ref 35)]) (by decide) rfl rfl rfl rfl ?_
  show Z_Ro35_isMissing g Q 0 [(0, .ref 35)] [] I L c
  refine gx_aload_n 0 dX6_isMissing_0 rfl rfl ?_
  refine gx_geti 6 1 (v := (I 35 1)) dX6_isMissing_1 fl_X6_15 rfl rfl rfl ?_
  refine gx_if_ge 11 dX6_isMissing_4 (by decide) ⟨fun z => ?_, fun z => ?_⟩
  · replace h := h.1 z
    refine gx_iconst (v := 0) dX6_isMissing_11 (by decide) ?_
    exact gx_zret .boolean dX6_isMissing_12 rfl rfl rfl rfl ⟨false, _, _, _, rfl, rfl, h⟩
  · replace h := h.2 z
    refine gx_iconst (v := 1) dX6_isMissing_7 (by decide) ?_
    refine gx_goto 12 dX6_isMissing_8 (by decide) ?_
    exact gx_zret .boolean dX6_isMissing_12 rfl rfl rfl rfl ⟨true, _, _, _, rfl, rfl, h⟩
abbrev Z_Ro37_isMissing (g : gm_G) (Q : Bool → mI → mL → gm_cfg → Prop) (pc : Nat) (lv : List (Nat × Value)) (st : List Value) (I : mI) (L : mL) (c : gm_cfg) : Prop := gm_X g RX6 "isMissing" cX6_isMissing 1 (some .boolean) 1 0 0 (qZ Q) 0 0 pc lv st (SH, I, L, RR c)
abbrev C_Ro37_isMissing (g : gm_G) (I : mI) (L : mL) (c : gm_cfg) (Q : Bool → mI → mL → gm_cfg → Prop) : Prop := gm_Met g yX6_isMissing cX6_isMissing 1 (some .boolean) 1 0 0 [.ref 37] (SH, I, L, RR c) (qZ Q)
set_option maxRecDepth 100000 in
theorem e_Ro37_isMissing {g : gm_G} {Q : Bool → mI → mL → gm_cfg → Prop} {I : mI} {L : mL} {c : gm_cfg} (h : ((0 ≤ (I 37 1) → Q false I L c) ∧ (¬ 0 ≤ (I 37 1) → Q true I L c))) : C_Ro37_isMissing g  I L c Q := by
  refine gm_enter (lv := [(0, .ref 37)]) (by decide) rfl rfl rfl rfl ?_
  show Z_Ro37_isMissing g Q 0 [(0, .ref 37)] [] I L c
  refine gx_aload_n 0 dX6_isMissing_0 rfl rfl ?_
  refine gx_geti 6 1 (v := (I 37 1)) dX6_isMissing_1 fl_X6_15 rfl rfl rfl ?_
  refine gx_if_ge 11 dX6_isMissing_4 (by decide) ⟨fun z => ?_, fun z => ?_⟩
  · replace h := h.1 z
    refine gx_iconst (v := 0) dX6_isMissing_11 (by decide) ?_
    exact gx_zret .boolean dX6_isMissing_12 rfl rfl rfl rfl ⟨false, _, _, _, rfl, rfl, h⟩
  · replace h := h.2 z
    refine gx_iconst (v := 1) dX6_isMissing_7 (by decide) ?_
    refine gx_goto 12 dX6_isMissing_8 (by decide) ?_
    exact gx_zret .boolean dX6_isMissing_12 rfl rfl rfl rfl ⟨true, _, _, _, rfl, rfl, h⟩
abbrev Z_Ro39_isMissing (g : gm_G) (Q : Bool → mI → mL → gm_cfg → Prop) (pc : Nat) (lv : List (Nat × Value)) (st : List Value) (I : mI) (L : mL) (c : gm_cfg) : Prop := gm_X g RX6 "isMissing" cX6_isMissing 1 (some .boolean) 1 0 0 (qZ Q) 0 0 pc lv st (SH, I, L, RR c)
abbrev C_Ro39_isMissing (g : gm_G) (I : mI) (L : mL) (c : gm_cfg) (Q : Bool → mI → mL → gm_cfg → Prop) : Prop := gm_Met g yX6_isMissing cX6_isMissing 1 (some .boolean) 1 0 0 [.ref 39] (SH, I, L, RR c) (qZ Q)
set_option maxRecDepth 100000 in
theorem e_Ro39_isMissing {g : gm_G} {Q : Bool → mI → mL → gm_cfg → Prop} {I : mI} {L : mL} {c : gm_cfg} (h : ((0 ≤ (I 39 1) → Q false I L c) ∧ (¬ 0 ≤ (I 39 1) → Q true I L c))) : C_Ro39_isMissing g  I L c Q := by
  refine gm_enter (lv := [(0, .ref 39)]) (by decide) rfl rfl rfl rfl ?_
  show Z_Ro39_isMissing g Q 0 [(0, .ref 39)] [] I L c
  refine gx_aload_n 0 dX6_isMissing_0 rfl rfl ?_
  refine gx_geti 6 1 (v := (I 39 1)) dX6_isMissing_1 fl_X6_15 rfl rfl rfl ?_
  refine gx_if_ge 11 dX6_isMissing_4 (by decide) ⟨fun z => ?_, fun z => ?_⟩
  · replace h := h.1 z
    refine gx_iconst (v := 0) dX6_isMissing_11 (by decide) ?_
    exact gx_zret .boolean dX6_isMissing_12 rfl rfl rfl rfl ⟨false, _, _, _, rfl, rfl, h⟩
  · replace h := h.2 z
    refine gx_iconst (v := 1) dX6_isMissing_7 (by decide) ?_
    refine gx_goto 12 dX6_isMissing_8 (by decide) ?_
    exact gx_zret .boolean dX6_isMissing_12 rfl rfl rfl rfl ⟨true, _, _, _, rfl, rfl, h⟩
abbrev Z_Ro41_isMissing (g : gm_G) (Q : Bool → mI → mL → gm_cfg → Prop) (pc : Nat) (lv : List (Nat × Value)) (st : List Value) (I : mI) (L : mL) (c : gm_cfg) : Prop := gm_X g RX6 "isMissing" cX6_isMissing 1 (some .boolean) 1 0 0 (qZ Q) 0 0 pc lv st (SH, I, L, RR c)
abbrev C_Ro41_isMissing (g : gm_G) (I : mI) (L : mL) (c : gm_cfg) (Q : Bool → mI → mL → gm_cfg → Prop) : Prop := gm_Met g yX6_isMissing cX6_isMissing 1 (some .boolean) 1 0 0 [.ref 41] (SH, I, L, RR c) (qZ Q)
set_option maxRecDepth 100000 in
theorem e_Ro41_isMissing {g : gm_G} {Q : Bool → mI → mL → gm_cfg → Prop} {I : mI} {L : mL} {c : gm_cfg} (h : ((0 ≤ (I 41 1) → Q false I L c) ∧ (¬ 0 ≤ (I 41 1) → Q true I L c))) : C_Ro41_isMissing g  I L c Q := by
  refine gm_enter (lv := [(0, .ref 41)]) (by decide) rfl rfl rfl rfl ?_
  show Z_Ro41_isMissing g Q 0 [(0, .ref 41)] [] I L c
  refine gx_aload_n 0 dX6_isMissing_0 rfl rfl ?_
  refine gx_geti 6 1 (v := (I 41 1)) dX6_isMissing_1 fl_X6_15 rfl rfl rfl ?_
  refine gx_if_ge 11 dX6_isMissing_4 (by decide) ⟨fun z => ?_, fun z => ?_⟩
  · replace h := h.1 z
    refine gx_iconst (v := 0) dX6_isMissing_11 (by decide) ?_
    exact gx_zret .boolean dX6_isMissing_12 rfl rfl rfl rfl ⟨false, _, _, _, rfl, rfl, h⟩
  · replace h := h.2 z
    refine gx_iconst (v := 1) dX6_isMissing_7 (by decide) ?_
    refine gx_goto 12 dX6_isMissing_8 (by decide) ?_
    exact gx_zret .boolean dX6_isMissing_12 rfl rfl rfl rfl ⟨true, _, _, _, rfl, rfl, h⟩
abbrev Z_Dr_start (g : gm_G) (Q : mI → mL → gm_cfg → Prop) (pc : Nat) (lv : List (Nat × Value)) (st : List Value) (I : mI) (L : mL) (c : gm_cfg) : Prop := gm_X g RX0 "start" cX0_start 2 none 1 0 0 (qV Q) 0 0 pc lv st (SH, I, L, RR c)
abbrev C_Dr_start (g : gm_G) (x1 : Int32) (I : mI) (L : mL) (c : gm_cfg) (Q : mI → mL → gm_cfg → Prop) : Prop := gm_Met g yX0_start cX0_start 2 none 1 0 0 [.ref 10, .int x1] (SH, I, L, RR c) (qV Q)
set_option maxRecDepth 100000 in
theorem e_Dr_start {g : gm_G} {Q : mI → mL → gm_cfg → Prop} {x1 : Int32} {I : mI} {L : mL} {c : gm_cfg} (h : Q (gm_u I 10 0 x1) L c) : C_Dr_start g x1 I L c Q := by
  refine gm_enter (lv := [(0, .ref 10), (1, .int x1)]) (by decide) rfl rfl rfl rfl ?_
  show Z_Dr_start g Q 0 [(0, .ref 10), (1, .int x1)] [] I L c
  refine gx_aload_n 0 dX0_start_0 rfl rfl ?_
  refine gx_iload_n 1 dX0_start_1 rfl rfl ?_
  refine gx_puti 0 0 dX0_start_2 fl_X0_9 rfl rfl rfl ⟨rfl, rfl⟩ ?_
  show Z_Dr_start g Q 5 [(0, .ref 10), (1, .int x1)] [] (gm_u I 10 0 x1) L c
  exact gx_vret dX0_start_5 rfl rfl rfl ⟨_, _, _, rfl, rfl, h⟩
abbrev Z_Dr_draw (g : gm_G) (Q : Int32 → mI → mL → gm_cfg → Prop) (pc : Nat) (lv : List (Nat × Value)) (st : List Value) (I : mI) (L : mL) (c : gm_cfg) : Prop := gm_X g RX0 "draw" cX0_draw 1 (some .int) 1 0 0 (qI Q) 0 0 pc lv st (SH, I, L, RR c)
abbrev C_Dr_draw (g : gm_G) (I : mI) (L : mL) (c : gm_cfg) (Q : Int32 → mI → mL → gm_cfg → Prop) : Prop := gm_Met g yX0_draw cX0_draw 1 (some .int) 1 0 0 [.ref 10] (SH, I, L, RR c) (qI Q)
set_option maxRecDepth 100000 in
theorem e_Dr_draw {g : gm_G} {Q : Int32 → mI → mL → gm_cfg → Prop} {I : mI} {L : mL} {c : gm_cfg} (h : Q ((((1103515245 * (I 10 0)) + 12345).toUInt32 >>> ((16 : Int32).toUInt32 &&& Int32.toUInt32 31)).toInt32) (gm_u I 10 0 ((1103515245 * (I 10 0)) + 12345)) L c) : C_Dr_draw g  I L c Q := by
  refine gm_enter (lv := [(0, .ref 10)]) (by decide) rfl rfl rfl rfl ?_
  show Z_Dr_draw g Q 0 [(0, .ref 10)] [] I L c
  refine gx_aload_n 0 dX0_draw_0 rfl rfl ?_
  refine gx_ldc dX0_draw_1 ki_X0_15 ?_
  refine gx_aload_n 0 dX0_draw_3 rfl rfl ?_
  refine gx_geti 0 0 (v := (I 10 0)) dX0_draw_4 fl_X0_9 rfl rfl rfl ?_
  refine gx_imul dX0_draw_7 ?_
  refine gx_sipush (v := 12345) dX0_draw_8 (by decide) ?_
  refine gx_iadd dX0_draw_11 ?_
  refine gx_puti 0 0 dX0_draw_12 fl_X0_9 rfl rfl rfl ⟨rfl, rfl⟩ ?_
  show Z_Dr_draw g Q 15 [(0, .ref 10)] [] (gm_u I 10 0 ((1103515245 * (I 10 0)) + 12345)) L c
  refine gx_aload_n 0 dX0_draw_15 rfl rfl ?_
  refine gx_geti 0 0 (v := ((1103515245 * (I 10 0)) + 12345)) dX0_draw_16 fl_X0_9 rfl rfl rfl ?_
  refine gx_bipush (v := 16) dX0_draw_19 (by decide) ?_
  refine gx_iushr dX0_draw_21 ?_
  exact gx_iret dX0_draw_22 rfl rfl rfl ⟨_, _, _, _, rfl, rfl, h⟩
abbrev Z_Dr_nextNumber_16 (g : gm_G) (Q : Int32 → mI → mL → gm_cfg → Prop) (pc : Nat) (lv : List (Nat × Value)) (st : List Value) (I : mI) (L : mL) (c : gm_cfg) : Prop := gm_X g RX0 "nextNumber" cX0_nextNumber 8 (some .int) 3 0 0 (qI Q) 0 0 pc lv st (SH, I, L, RR c)
abbrev C_Dr_nextNumber_16 (g : gm_G) (x2 : Int32) (x3 : Int32) (I : mI) (L : mL) (c : gm_cfg) (Q : Int32 → mI → mL → gm_cfg → Prop) : Prop := gm_Met g yX0_nextNumber cX0_nextNumber 8 (some .int) 3 0 0 [.ref 10, .ref 16, .int x2, .int x3] (SH, I, L, RR c) (qI Q)
set_option maxRecDepth 100000 in
theorem e_Dr_nextNumber_16 {g : gm_G} {Q : Int32 → mI → mL → gm_cfg → Prop} {x2 x3 : Int32} {I : mI} {L : mL} {c : gm_cfg} (h : (C_Fe16_has g x2 I L c (fun b4 I1 L2 c3 => ((b4 = false → Q 0 I1 L2 c3) ∧ (b4 = true → (C_Dr_draw g I1 L2 c3 (fun r8 I5 L6 c7 => (vp_in x2 6 ∧ (((I5 19 (Int32.toNatClampNeg x2)) ≤ (r8 - r8 / 10 * 10) → (vp_in x2 6 ∧ ((((2 * (I5 18 (Int32.toNatClampNeg x2))) + 1) ≤ 0 → (C_Fe16_sightOf g x2 (I5 16 12) I5 L6 c7 (fun r12 I9 L10 c11 => Q ((if 0 < ((if (r12 + 0) < 2000 then (r12 + 0) else 2000) : Int32) then ((if (r12 + 0) < 2000 then (r12 + 0) else 2000) : Int32) else 0) : Int32) I9 L10 c11))) ∧ (¬ ((2 * (I5 18 (Int32.toNatClampNeg x2))) + 1) ≤ 0 → (C_Dr_draw g I5 L6 c7 (fun r16 I13 L14 c15 => (¬ ((2 * (I5 18 (Int32.toNatClampNeg x2))) + 1) = 0 ∧ (vp_in x2 6 ∧ (C_Fe16_sightOf g x2 (I13 16 12) I13 L14 c15 (fun r20 I17 L18 c19 => Q ((if 0 < ((if (r20 + ((r16 - r16 / ((2 * (I5 18 (Int32.toNatClampNeg x2))) + 1) * ((2 * (I5 18 (Int32.toNatClampNeg x2))) + 1)) - (I13 18 (Int32.toNatClampNeg x2)))) < 2000 then (r20 + ((r16 - r16 / ((2 * (I5 18 (Int32.toNatClampNeg x2))) + 1) * ((2 * (I5 18 (Int32.toNatClampNeg x2))) + 1)) - (I13 18 (Int32.toNatClampNeg x2)))) else 2000) : Int32) then ((if (r20 + ((r16 - r16 / ((2 * (I5 18 (Int32.toNatClampNeg x2))) + 1) * ((2 * (I5 18 (Int32.toNatClampNeg x2))) + 1)) - (I13 18 (Int32.toNatClampNeg x2)))) < 2000 then (r20 + ((r16 - r16 / ((2 * (I5 18 (Int32.toNatClampNeg x2))) + 1) * ((2 * (I5 18 (Int32.toNatClampNeg x2))) + 1)) - (I13 18 (Int32.toNatClampNeg x2)))) else 2000) : Int32) else 0) : Int32) I17 L18 c19)))))))))) ∧ (¬ (I5 19 (Int32.toNatClampNeg x2)) ≤ (r8 - r8 / 10 * 10) → ((x3 = (-1) → (vp_in x2 6 ∧ ((((2 * (I5 18 (Int32.toNatClampNeg x2))) + 1) ≤ 0 → (C_Fe16_sightOf g x2 (I5 16 12) I5 L6 c7 (fun r24 I21 L22 c23 => Q ((if 0 < ((if (r24 + 0) < 2000 then (r24 + 0) else 2000) : Int32) then ((if (r24 + 0) < 2000 then (r24 + 0) else 2000) : Int32) else 0) : Int32) I21 L22 c23))) ∧ (¬ ((2 * (I5 18 (Int32.toNatClampNeg x2))) + 1) ≤ 0 → (C_Dr_draw g I5 L6 c7 (fun r28 I25 L26 c27 => (¬ ((2 * (I5 18 (Int32.toNatClampNeg x2))) + 1) = 0 ∧ (vp_in x2 6 ∧ (C_Fe16_sightOf g x2 (I25 16 12) I25 L26 c27 (fun r32 I29 L30 c31 => Q ((if 0 < ((if (r32 + ((r28 - r28 / ((2 * (I5 18 (Int32.toNatClampNeg x2))) + 1) * ((2 * (I5 18 (Int32.toNatClampNeg x2))) + 1)) - (I25 18 (Int32.toNatClampNeg x2)))) < 2000 then (r32 + ((r28 - r28 / ((2 * (I5 18 (Int32.toNatClampNeg x2))) + 1) * ((2 * (I5 18 (Int32.toNatClampNeg x2))) + 1)) - (I25 18 (Int32.toNatClampNeg x2)))) else 2000) : Int32) then ((if (r32 + ((r28 - r28 / ((2 * (I5 18 (Int32.toNatClampNeg x2))) + 1) * ((2 * (I5 18 (Int32.toNatClampNeg x2))) + 1)) - (I25 18 (Int32.toNatClampNeg x2)))) < 2000 then (r32 + ((r28 - r28 / ((2 * (I5 18 (Int32.toNatClampNeg x2))) + 1) * ((2 * (I5 18 (Int32.toNatClampNeg x2))) + 1)) - (I25 18 (Int32.toNatClampNeg x2)))) else 2000) : Int32) else 0) : Int32) I29 L30 c31)))))))))) ∧ (¬ x3 = (-1) → Q x3 I5 L6 c7)))))))))))) : C_Dr_nextNumber_16 g x2 x3 I L c Q := by
  refine gm_enter (lv := [(0, .ref 10), (1, .ref 16), (2, .int x2), (3, .int x3)]) (by decide) rfl rfl rfl rfl ?_
  show Z_Dr_nextNumber_16 g Q 0 [(0, .ref 10), (1, .ref 16), (2, .int x2), (3, .int x3)] [] I L c
  refine gx_aload_n 1 dX0_nextNumber_0 rfl rfl ?_
  refine gx_iload_n 2 dX0_nextNumber_1 rfl rfl ?_
  refine gx_callV 1 (As := [.int x2]) (st := []) dX0_nextNumber_2 ml_X0_42 mm_X1_has rfl rfl rfl rfl rfl rfl ⟨rfl, rfl⟩ h (fun v h2 hq => ?_)
  clear h
  obtain ⟨b4, I1, L2, c3, rfl, rfl, h⟩ := hq
  show Z_Dr_nextNumber_16 g Q 5 [(0, .ref 10), (1, .ref 16), (2, .int x2), (3, .int x3)] [.int (gm_b b4)] I1 L2 c3
  refine gx_if_ne 10 dX0_nextNumber_5 (by decide) ⟨fun z => ?_, fun z => ?_⟩
  · replace h := h.1 (gm_b0.mp z)
    refine gx_iconst (v := 0) dX0_nextNumber_8 (by decide) ?_
    exact gx_iret dX0_nextNumber_9 rfl rfl rfl ⟨_, _, _, _, rfl, rfl, h⟩
  · replace h := h.2 (gm_bn0 z)
    refine gx_aload_n 0 dX0_nextNumber_10 rfl rfl ?_
    refine gx_callV 0 (As := []) (st := []) dX0_nextNumber_11 ml_X0_21 mm_X0_draw rfl rfl rfl rfl rfl rfl ⟨rfl, rfl⟩ h (fun v h2 hq => ?_)
    clear h
    obtain ⟨r8, I5, L6, c7, rfl, rfl, h⟩ := hq
    show Z_Dr_nextNumber_16 g Q 14 [(0, .ref 10), (1, .ref 16), (2, .int x2), (3, .int x3)] [.int r8] I5 L6 c7
    refine gx_bipush (v := 10) dX0_nextNumber_14 (by decide) ?_
    refine gx_irem dX0_nextNumber_16 (by decide) ?_
    refine gx_aload_n 1 dX0_nextNumber_17 rfl rfl ?_
    refine gx_getr 1 8 (v := 19) dX0_nextNumber_18 fl_X0_46 rfl rfl rfl ?_
    refine gx_iload_n 2 dX0_nextNumber_21 rfl rfl ?_
    obtain ⟨hi, h⟩ := h
    refine gx_iald (v := (I5 19 (Int32.toNatClampNeg x2))) dX0_nextNumber_22 rfl rfl hi (k := (Int32.toNatClampNeg x2)) rfl rfl ?_
    refine gx_icmp_ge 30 dX0_nextNumber_23 (by decide) ⟨fun z => ?_, fun z => ?_⟩
    · replace h := h.1 z
      refine gx_iconst (v := 0) dX0_nextNumber_30 (by decide) ?_
      refine gx_istore (lv' := [(0, .ref 10), (1, .ref 16), (2, .int x2), (3, .int x3), (4, .int 0)]) dX0_nextNumber_31 rfl rfl ?_
      refine gx_iload 4 dX0_nextNumber_33 rfl ?_
      refine gx_if_eq 45 dX0_nextNumber_35 (by decide) (br_t (by decide) ?_)
      refine gx_iconst (v := 2) dX0_nextNumber_45 (by decide) ?_
      refine gx_aload_n 1 dX0_nextNumber_46 rfl rfl ?_
      refine gx_getr 1 7 (v := 18) dX0_nextNumber_47 fl_X0_50 rfl rfl rfl ?_
      refine gx_iload_n 2 dX0_nextNumber_50 rfl rfl ?_
      obtain ⟨hi, h⟩ := h
      refine gx_iald (v := (I5 18 (Int32.toNatClampNeg x2))) dX0_nextNumber_51 rfl rfl hi (k := (Int32.toNatClampNeg x2)) rfl rfl ?_
      refine gx_imul dX0_nextNumber_52 ?_
      refine gx_iconst (v := 1) dX0_nextNumber_53 (by decide) ?_
      refine gx_iadd dX0_nextNumber_54 ?_
      refine gx_istore (lv' := [(0, .ref 10), (1, .ref 16), (2, .int x2), (3, .int x3), (4, .int 0), (5, .int ((2 * (I5 18 (Int32.toNatClampNeg x2))) + 1))]) dX0_nextNumber_55 rfl rfl ?_
      refine gx_iload 5 dX0_nextNumber_57 rfl ?_
      refine gx_if_le 79 dX0_nextNumber_59 (by decide) ⟨fun z => ?_, fun z => ?_⟩
      · replace h := h.1 z
        refine gx_iconst (v := 0) dX0_nextNumber_79 (by decide) ?_
        refine gx_istore (lv' := [(0, .ref 10), (1, .ref 16), (2, .int x2), (3, .int x3), (4, .int 0), (5, .int ((2 * (I5 18 (Int32.toNatClampNeg x2))) + 1)), (6, .int 0)]) dX0_nextNumber_80 rfl rfl ?_
        refine gx_aload_n 1 dX0_nextNumber_82 rfl rfl ?_
        refine gx_iload_n 2 dX0_nextNumber_83 rfl rfl ?_
        refine gx_aload_n 1 dX0_nextNumber_84 rfl rfl ?_
        refine gx_geti 1 12 (v := (I5 16 12)) dX0_nextNumber_85 fl_X0_53 rfl rfl rfl ?_
        refine gx_callV 1 (As := [.int x2, .int (I5 16 12)]) (st := []) dX0_nextNumber_88 ml_X0_56 mm_X1_sightOf rfl rfl rfl rfl rfl rfl ⟨rfl, rfl⟩ h (fun v h2 hq => ?_)
        clear h
        obtain ⟨r12, I9, L10, c11, rfl, rfl, h⟩ := hq
        show Z_Dr_nextNumber_16 g Q 91 [(0, .ref 10), (1, .ref 16), (2, .int x2), (3, .int x3), (4, .int 0), (5, .int ((2 * (I5 18 (Int32.toNatClampNeg x2))) + 1)), (6, .int 0)] [.int r12] I9 L10 c11
        refine gx_iload 6 dX0_nextNumber_91 rfl ?_
        refine gx_iadd dX0_nextNumber_93 ?_
        refine gx_istore (lv' := [(0, .ref 10), (1, .ref 16), (2, .int x2), (3, .int x3), (4, .int 0), (5, .int ((2 * (I5 18 (Int32.toNatClampNeg x2))) + 1)), (6, .int 0), (7, .int (r12 + 0))]) dX0_nextNumber_94 rfl rfl ?_
        refine gx_iconst (v := 0) dX0_nextNumber_96 (by decide) ?_
        refine gx_sipush (v := 2000) dX0_nextNumber_97 (by decide) ?_
        refine gx_iload 7 dX0_nextNumber_100 rfl ?_
        refine gx_mmin dX0_nextNumber_102 ml_X0_60 mw_min rfl rfl rfl rfl ?_
        refine gx_mmax dX0_nextNumber_105 ml_X0_65 mw_max rfl rfl rfl rfl ?_
        exact gx_iret dX0_nextNumber_108 rfl rfl rfl ⟨_, _, _, _, rfl, rfl, h⟩
      · replace h := h.2 z
        refine gx_aload_n 0 dX0_nextNumber_62 rfl rfl ?_
        refine gx_callV 0 (As := []) (st := []) dX0_nextNumber_63 ml_X0_21 mm_X0_draw rfl rfl rfl rfl rfl rfl ⟨rfl, rfl⟩ h (fun v h2 hq => ?_)
        clear h
        obtain ⟨r16, I13, L14, c15, rfl, rfl, h⟩ := hq
        show Z_Dr_nextNumber_16 g Q 66 [(0, .ref 10), (1, .ref 16), (2, .int x2), (3, .int x3), (4, .int 0), (5, .int ((2 * (I5 18 (Int32.toNatClampNeg x2))) + 1))] [.int r16] I13 L14 c15
        refine gx_iload 5 dX0_nextNumber_66 rfl ?_
        obtain ⟨hn, h⟩ := h
        refine gx_irem dX0_nextNumber_68 hn ?_
        refine gx_aload_n 1 dX0_nextNumber_69 rfl rfl ?_
        refine gx_getr 1 7 (v := 18) dX0_nextNumber_70 fl_X0_50 rfl rfl rfl ?_
        refine gx_iload_n 2 dX0_nextNumber_73 rfl rfl ?_
        obtain ⟨hi, h⟩ := h
        refine gx_iald (v := (I13 18 (Int32.toNatClampNeg x2))) dX0_nextNumber_74 rfl rfl hi (k := (Int32.toNatClampNeg x2)) rfl rfl ?_
        refine gx_isub dX0_nextNumber_75 ?_
        refine gx_goto 80 dX0_nextNumber_76 (by decide) ?_
        refine gx_istore (lv' := [(0, .ref 10), (1, .ref 16), (2, .int x2), (3, .int x3), (4, .int 0), (5, .int ((2 * (I5 18 (Int32.toNatClampNeg x2))) + 1)), (6, .int ((r16 - r16 / ((2 * (I5 18 (Int32.toNatClampNeg x2))) + 1) * ((2 * (I5 18 (Int32.toNatClampNeg x2))) + 1)) - (I13 18 (Int32.toNatClampNeg x2))))]) dX0_nextNumber_80 rfl rfl ?_
        refine gx_aload_n 1 dX0_nextNumber_82 rfl rfl ?_
        refine gx_iload_n 2 dX0_nextNumber_83 rfl rfl ?_
        refine gx_aload_n 1 dX0_nextNumber_84 rfl rfl ?_
        refine gx_geti 1 12 (v := (I13 16 12)) dX0_nextNumber_85 fl_X0_53 rfl rfl rfl ?_
        refine gx_callV 1 (As := [.int x2, .int (I13 16 12)]) (st := []) dX0_nextNumber_88 ml_X0_56 mm_X1_sightOf rfl rfl rfl rfl rfl rfl ⟨rfl, rfl⟩ h (fun v h2 hq => ?_)
        clear h
        obtain ⟨r20, I17, L18, c19, rfl, rfl, h⟩ := hq
        show Z_Dr_nextNumber_16 g Q 91 [(0, .ref 10), (1, .ref 16), (2, .int x2), (3, .int x3), (4, .int 0), (5, .int ((2 * (I5 18 (Int32.toNatClampNeg x2))) + 1)), (6, .int ((r16 - r16 / ((2 * (I5 18 (Int32.toNatClampNeg x2))) + 1) * ((2 * (I5 18 (Int32.toNatClampNeg x2))) + 1)) - (I13 18 (Int32.toNatClampNeg x2))))] [.int r20] I17 L18 c19
        refine gx_iload 6 dX0_nextNumber_91 rfl ?_
        refine gx_iadd dX0_nextNumber_93 ?_
        refine gx_istore (lv' := [(0, .ref 10), (1, .ref 16), (2, .int x2), (3, .int x3), (4, .int 0), (5, .int ((2 * (I5 18 (Int32.toNatClampNeg x2))) + 1)), (6, .int ((r16 - r16 / ((2 * (I5 18 (Int32.toNatClampNeg x2))) + 1) * ((2 * (I5 18 (Int32.toNatClampNeg x2))) + 1)) - (I13 18 (Int32.toNatClampNeg x2)))), (7, .int (r20 + ((r16 - r16 / ((2 * (I5 18 (Int32.toNatClampNeg x2))) + 1) * ((2 * (I5 18 (Int32.toNatClampNeg x2))) + 1)) - (I13 18 (Int32.toNatClampNeg x2)))))]) dX0_nextNumber_94 rfl rfl ?_
        refine gx_iconst (v := 0) dX0_nextNumber_96 (by decide) ?_
        refine gx_sipush (v := 2000) dX0_nextNumber_97 (by decide) ?_
        refine gx_iload 7 dX0_nextNumber_100 rfl ?_
        refine gx_mmin dX0_nextNumber_102 ml_X0_60 mw_min rfl rfl rfl rfl ?_
        refine gx_mmax dX0_nextNumber_105 ml_X0_65 mw_max rfl rfl rfl rfl ?_
        exact gx_iret dX0_nextNumber_108 rfl rfl rfl ⟨_, _, _, _, rfl, rfl, h⟩
    · replace h := h.2 z
      refine gx_iconst (v := 1) dX0_nextNumber_26 (by decide) ?_
      refine gx_goto 31 dX0_nextNumber_27 (by decide) ?_
      refine gx_istore (lv' := [(0, .ref 10), (1, .ref 16), (2, .int x2), (3, .int x3), (4, .int 1)]) dX0_nextNumber_31 rfl rfl ?_
      refine gx_iload 4 dX0_nextNumber_33 rfl ?_
      refine gx_if_eq 45 dX0_nextNumber_35 (by decide) (br_f (by decide) ?_)
      refine gx_iload_n 3 dX0_nextNumber_38 rfl rfl ?_
      refine gx_iconst (v := (-1)) dX0_nextNumber_39 (by decide) ?_
      refine gx_icmp_eq 45 dX0_nextNumber_40 (by decide) ⟨fun z => ?_, fun z => ?_⟩
      · replace h := h.1 z
        refine gx_iconst (v := 2) dX0_nextNumber_45 (by decide) ?_
        refine gx_aload_n 1 dX0_nextNumber_46 rfl rfl ?_
        refine gx_getr 1 7 (v := 18) dX0_nextNumber_47 fl_X0_50 rfl rfl rfl ?_
        refine gx_iload_n 2 dX0_nextNumber_50 rfl rfl ?_
        obtain ⟨hi, h⟩ := h
        refine gx_iald (v := (I5 18 (Int32.toNatClampNeg x2))) dX0_nextNumber_51 rfl rfl hi (k := (Int32.toNatClampNeg x2)) rfl rfl ?_
        refine gx_imul dX0_nextNumber_52 ?_
        refine gx_iconst (v := 1) dX0_nextNumber_53 (by decide) ?_
        refine gx_iadd dX0_nextNumber_54 ?_
        refine gx_istore (lv' := [(0, .ref 10), (1, .ref 16), (2, .int x2), (3, .int x3), (4, .int 1), (5, .int ((2 * (I5 18 (Int32.toNatClampNeg x2))) + 1))]) dX0_nextNumber_55 rfl rfl ?_
        refine gx_iload 5 dX0_nextNumber_57 rfl ?_
        refine gx_if_le 79 dX0_nextNumber_59 (by decide) ⟨fun z => ?_, fun z => ?_⟩
        · replace h := h.1 z
          refine gx_iconst (v := 0) dX0_nextNumber_79 (by decide) ?_
          refine gx_istore (lv' := [(0, .ref 10), (1, .ref 16), (2, .int x2), (3, .int x3), (4, .int 1), (5, .int ((2 * (I5 18 (Int32.toNatClampNeg x2))) + 1)), (6, .int 0)]) dX0_nextNumber_80 rfl rfl ?_
          refine gx_aload_n 1 dX0_nextNumber_82 rfl rfl ?_
          refine gx_iload_n 2 dX0_nextNumber_83 rfl rfl ?_
          refine gx_aload_n 1 dX0_nextNumber_84 rfl rfl ?_
          refine gx_geti 1 12 (v := (I5 16 12)) dX0_nextNumber_85 fl_X0_53 rfl rfl rfl ?_
          refine gx_callV 1 (As := [.int x2, .int (I5 16 12)]) (st := []) dX0_nextNumber_88 ml_X0_56 mm_X1_sightOf rfl rfl rfl rfl rfl rfl ⟨rfl, rfl⟩ h (fun v h2 hq => ?_)
          clear h
          obtain ⟨r24, I21, L22, c23, rfl, rfl, h⟩ := hq
          show Z_Dr_nextNumber_16 g Q 91 [(0, .ref 10), (1, .ref 16), (2, .int x2), (3, .int x3), (4, .int 1), (5, .int ((2 * (I5 18 (Int32.toNatClampNeg x2))) + 1)), (6, .int 0)] [.int r24] I21 L22 c23
          refine gx_iload 6 dX0_nextNumber_91 rfl ?_
          refine gx_iadd dX0_nextNumber_93 ?_
          refine gx_istore (lv' := [(0, .ref 10), (1, .ref 16), (2, .int x2), (3, .int x3), (4, .int 1), (5, .int ((2 * (I5 18 (Int32.toNatClampNeg x2))) + 1)), (6, .int 0), (7, .int (r24 + 0))]) dX0_nextNumber_94 rfl rfl ?_
          refine gx_iconst (v := 0) dX0_nextNumber_96 (by decide) ?_
          refine gx_sipush (v := 2000) dX0_nextNumber_97 (by decide) ?_
          refine gx_iload 7 dX0_nextNumber_100 rfl ?_
          refine gx_mmin dX0_nextNumber_102 ml_X0_60 mw_min rfl rfl rfl rfl ?_
          refine gx_mmax dX0_nextNumber_105 ml_X0_65 mw_max rfl rfl rfl rfl ?_
          exact gx_iret dX0_nextNumber_108 rfl rfl rfl ⟨_, _, _, _, rfl, rfl, h⟩
        · replace h := h.2 z
          refine gx_aload_n 0 dX0_nextNumber_62 rfl rfl ?_
          refine gx_callV 0 (As := []) (st := []) dX0_nextNumber_63 ml_X0_21 mm_X0_draw rfl rfl rfl rfl rfl rfl ⟨rfl, rfl⟩ h (fun v h2 hq => ?_)
          clear h
          obtain ⟨r28, I25, L26, c27, rfl, rfl, h⟩ := hq
          show Z_Dr_nextNumber_16 g Q 66 [(0, .ref 10), (1, .ref 16), (2, .int x2), (3, .int x3), (4, .int 1), (5, .int ((2 * (I5 18 (Int32.toNatClampNeg x2))) + 1))] [.int r28] I25 L26 c27
          refine gx_iload 5 dX0_nextNumber_66 rfl ?_
          obtain ⟨hn, h⟩ := h
          refine gx_irem dX0_nextNumber_68 hn ?_
          refine gx_aload_n 1 dX0_nextNumber_69 rfl rfl ?_
          refine gx_getr 1 7 (v := 18) dX0_nextNumber_70 fl_X0_50 rfl rfl rfl ?_
          refine gx_iload_n 2 dX0_nextNumber_73 rfl rfl ?_
          obtain ⟨hi, h⟩ := h
          refine gx_iald (v := (I25 18 (Int32.toNatClampNeg x2))) dX0_nextNumber_74 rfl rfl hi (k := (Int32.toNatClampNeg x2)) rfl rfl ?_
          refine gx_isub dX0_nextNumber_75 ?_
          refine gx_goto 80 dX0_nextNumber_76 (by decide) ?_
          refine gx_istore (lv' := [(0, .ref 10), (1, .ref 16), (2, .int x2), (3, .int x3), (4, .int 1), (5, .int ((2 * (I5 18 (Int32.toNatClampNeg x2))) + 1)), (6, .int ((r28 - r28 / ((2 * (I5 18 (Int32.toNatClampNeg x2))) + 1) * ((2 * (I5 18 (Int32.toNatClampNeg x2))) + 1)) - (I25 18 (Int32.toNatClampNeg x2))))]) dX0_nextNumber_80 rfl rfl ?_
          refine gx_aload_n 1 dX0_nextNumber_82 rfl rfl ?_
          refine gx_iload_n 2 dX0_nextNumber_83 rfl rfl ?_
          refine gx_aload_n 1 dX0_nextNumber_84 rfl rfl ?_
          refine gx_geti 1 12 (v := (I25 16 12)) dX0_nextNumber_85 fl_X0_53 rfl rfl rfl ?_
          refine gx_callV 1 (As := [.int x2, .int (I25 16 12)]) (st := []) dX0_nextNumber_88 ml_X0_56 mm_X1_sightOf rfl rfl rfl rfl rfl rfl ⟨rfl, rfl⟩ h (fun v h2 hq => ?_)
          clear h
          obtain ⟨r32, I29, L30, c31, rfl, rfl, h⟩ := hq
          show Z_Dr_nextNumber_16 g Q 91 [(0, .ref 10), (1, .ref 16), (2, .int x2), (3, .int x3), (4, .int 1), (5, .int ((2 * (I5 18 (Int32.toNatClampNeg x2))) + 1)), (6, .int ((r28 - r28 / ((2 * (I5 18 (Int32.toNatClampNeg x2))) + 1) * ((2 * (I5 18 (Int32.toNatClampNeg x2))) + 1)) - (I25 18 (Int32.toNatClampNeg x2))))] [.int r32] I29 L30 c31
          refine gx_iload 6 dX0_nextNumber_91 rfl ?_
          refine gx_iadd dX0_nextNumber_93 ?_
          refine gx_istore (lv' := [(0, .ref 10), (1, .ref 16), (2, .int x2), (3, .int x3), (4, .int 1), (5, .int ((2 * (I5 18 (Int32.toNatClampNeg x2))) + 1)), (6, .int ((r28 - r28 / ((2 * (I5 18 (Int32.toNatClampNeg x2))) + 1) * ((2 * (I5 18 (Int32.toNatClampNeg x2))) + 1)) - (I25 18 (Int32.toNatClampNeg x2)))), (7, .int (r32 + ((r28 - r28 / ((2 * (I5 18 (Int32.toNatClampNeg x2))) + 1) * ((2 * (I5 18 (Int32.toNatClampNeg x2))) + 1)) - (I25 18 (Int32.toNatClampNeg x2)))))]) dX0_nextNumber_94 rfl rfl ?_
          refine gx_iconst (v := 0) dX0_nextNumber_96 (by decide) ?_
          refine gx_sipush (v := 2000) dX0_nextNumber_97 (by decide) ?_
          refine gx_iload 7 dX0_nextNumber_100 rfl ?_
          refine gx_mmin dX0_nextNumber_102 ml_X0_60 mw_min rfl rfl rfl rfl ?_
          refine gx_mmax dX0_nextNumber_105 ml_X0_65 mw_max rfl rfl rfl rfl ?_
          exact gx_iret dX0_nextNumber_108 rfl rfl rfl ⟨_, _, _, _, rfl, rfl, h⟩
      · replace h := h.2 z
        refine gx_iload_n 3 dX0_nextNumber_43 rfl rfl ?_
        exact gx_iret dX0_nextNumber_44 rfl rfl rfl ⟨_, _, _, _, rfl, rfl, h⟩
abbrev Z_Dr_fill_16_20 (g : gm_G) (Q : mI → mL → gm_cfg → Prop) (pc : Nat) (lv : List (Nat × Value)) (st : List Value) (I : mI) (L : mL) (c : gm_cfg) : Prop := gm_X g RX0 "fill" cX0_fill 7 none 4 0 0 (qV Q) 0 0 pc lv st (SH, I, L, RR c)
abbrev C_Dr_fill_16_20 (g : gm_G) (x3 : Int32) (x4 : Int32) (I : mI) (L : mL) (c : gm_cfg) (Q : mI → mL → gm_cfg → Prop) : Prop := gm_Met g yX0_fill cX0_fill 7 none 4 0 0 [.ref 10, .ref 16, .ref 20, .int x3, .int x4] (SH, I, L, RR c) (qV Q)
set_option maxRecDepth 100000 in
theorem e_Dr_fill_16_20 {g : gm_G} {Q : mI → mL → gm_cfg → Prop} {x3 x4 : Int32} {I : mI} {L : mL} {c : gm_cfg} (h : ((0 < (I 16 5) → Z_Dr_fill_16_20 g Q 11 [(0, .ref 10), (1, .ref 16), (2, .ref 20), (3, .int x3), (4, .int x4), (5, .int 0)] [] I L c) ∧ (¬ 0 < (I 16 5) → Q I L c))) : C_Dr_fill_16_20 g x3 x4 I L c Q := by
  refine gm_enter (lv := [(0, .ref 10), (1, .ref 16), (2, .ref 20), (3, .int x3), (4, .int x4)]) (by decide) rfl rfl rfl rfl ?_
  show Z_Dr_fill_16_20 g Q 0 [(0, .ref 10), (1, .ref 16), (2, .ref 20), (3, .int x3), (4, .int x4)] [] I L c
  refine gx_aload_n 1 dX0_fill_0 rfl rfl ?_
  refine gx_geti 1 5 (v := (I 16 5)) dX0_fill_1 fl_X0_16 rfl rfl rfl ?_
  refine gx_if_gt 8 dX0_fill_4 (by decide) ⟨fun z => ?_, fun z => ?_⟩
  · replace h := h.1 z
    refine gx_iconst (v := 0) dX0_fill_8 (by decide) ?_
    refine gx_istore (lv' := [(0, .ref 10), (1, .ref 16), (2, .ref 20), (3, .int x3), (4, .int x4), (5, .int 0)]) dX0_fill_9 rfl rfl ?_
    exact h
  · replace h := h.2 z
    exact gx_vret dX0_fill_7 rfl rfl rfl ⟨_, _, _, rfl, rfl, h⟩
set_option maxRecDepth 100000 in
theorem r_Dr_fill_16_20_11 {g : gm_G} {Q : mI → mL → gm_cfg → Prop} {x3 x4 x5 : Int32} {I : mI} {L : mL} {c : gm_cfg} (h : ((x3 ≤ x5 → Q I L c) ∧ (¬ x3 ≤ x5 → (C_Dr_draw g I L c (fun r4 I1 L2 c3 => (¬ (I1 16 5) = 0 ∧ (C_Sh20_goalAt g (I1 20 2) x4 I1 L2 c3 (fun r8 I5 L6 c7 => (C_Dr_nextNumber_16 g (r4 - r4 / (I1 16 5) * (I1 16 5)) r8 I5 L6 c7 (fun r12 I9 L10 c11 => (C_Sh20_add g (r4 - r4 / (I1 16 5) * (I1 16 5)) r12 I9 L10 c11 (fun I13 L14 c15 => Z_Dr_fill_16_20 g Q 11 [(0, .ref 10), (1, .ref 16), (2, .ref 20), (3, .int x3), (4, .int x4), (5, .int (x5 + 1))] [] I13 L14 c15)))))))))))) : Z_Dr_fill_16_20 g Q 11 [(0, .ref 10), (1, .ref 16), (2, .ref 20), (3, .int x3), (4, .int x4), (5, .int x5)] [] I L c := by
  refine gx_iload 5 dX0_fill_11 rfl ?_
  refine gx_iload_n 3 dX0_fill_13 rfl rfl ?_
  refine gx_icmp_ge 57 dX0_fill_14 (by decide) ⟨fun z => ?_, fun z => ?_⟩
  · replace h := h.1 z
    exact gx_vret dX0_fill_57 rfl rfl rfl ⟨_, _, _, rfl, rfl, h⟩
  · replace h := h.2 z
    refine gx_aload_n 0 dX0_fill_17 rfl rfl ?_
    refine gx_callV 0 (As := []) (st := []) dX0_fill_18 ml_X0_21 mm_X0_draw rfl rfl rfl rfl rfl rfl ⟨rfl, rfl⟩ h (fun v h2 hq => ?_)
    clear h
    obtain ⟨r4, I1, L2, c3, rfl, rfl, h⟩ := hq
    show Z_Dr_fill_16_20 g Q 21 [(0, .ref 10), (1, .ref 16), (2, .ref 20), (3, .int x3), (4, .int x4), (5, .int x5)] [.int r4] I1 L2 c3
    refine gx_aload_n 1 dX0_fill_21 rfl rfl ?_
    refine gx_geti 1 5 (v := (I1 16 5)) dX0_fill_22 fl_X0_16 rfl rfl rfl ?_
    obtain ⟨hn, h⟩ := h
    refine gx_irem dX0_fill_25 hn ?_
    refine gx_istore (lv' := [(0, .ref 10), (1, .ref 16), (2, .ref 20), (3, .int x3), (4, .int x4), (5, .int x5), (6, .int (r4 - r4 / (I1 16 5) * (I1 16 5)))]) dX0_fill_26 rfl rfl ?_
    refine gx_aload_n 2 dX0_fill_28 rfl rfl ?_
    refine gx_iload 6 dX0_fill_29 rfl ?_
    refine gx_aload_n 0 dX0_fill_31 rfl rfl ?_
    refine gx_aload_n 1 dX0_fill_32 rfl rfl ?_
    refine gx_iload 6 dX0_fill_33 rfl ?_
    refine gx_aload_n 2 dX0_fill_35 rfl rfl ?_
    refine gx_aload_n 2 dX0_fill_36 rfl rfl ?_
    refine gx_geti 8 2 (v := (I1 20 2)) dX0_fill_37 fl_X0_25 rfl rfl rfl ?_
    refine gx_iload 4 dX0_fill_40 rfl ?_
    refine gx_callV 8 (As := [.int (I1 20 2), .int x4]) (st := [.int (r4 - r4 / (I1 16 5) * (I1 16 5)), .ref 16, .ref 10, .int (r4 - r4 / (I1 16 5) * (I1 16 5)), .ref 20]) dX0_fill_42 ml_X0_30 mm_X8_goalAt rfl rfl rfl rfl rfl rfl ⟨rfl, rfl⟩ h (fun v h2 hq => ?_)
    clear h
    obtain ⟨r8, I5, L6, c7, rfl, rfl, h⟩ := hq
    show Z_Dr_fill_16_20 g Q 45 [(0, .ref 10), (1, .ref 16), (2, .ref 20), (3, .int x3), (4, .int x4), (5, .int x5), (6, .int (r4 - r4 / (I1 16 5) * (I1 16 5)))] [.int r8, .int (r4 - r4 / (I1 16 5) * (I1 16 5)), .ref 16, .ref 10, .int (r4 - r4 / (I1 16 5) * (I1 16 5)), .ref 20] I5 L6 c7
    refine gx_callV 0 (As := [.ref 16, .int (r4 - r4 / (I1 16 5) * (I1 16 5)), .int r8]) (st := [.int (r4 - r4 / (I1 16 5) * (I1 16 5)), .ref 20]) dX0_fill_45 ml_X0_34 mm_X0_nextNumber rfl rfl rfl rfl rfl rfl ⟨rfl, rfl⟩ h (fun v h2 hq => ?_)
    clear h
    obtain ⟨r12, I9, L10, c11, rfl, rfl, h⟩ := hq
    show Z_Dr_fill_16_20 g Q 48 [(0, .ref 10), (1, .ref 16), (2, .ref 20), (3, .int x3), (4, .int x4), (5, .int x5), (6, .int (r4 - r4 / (I1 16 5) * (I1 16 5)))] [.int r12, .int (r4 - r4 / (I1 16 5) * (I1 16 5)), .ref 20] I9 L10 c11
    refine gx_callV 8 (As := [.int (r4 - r4 / (I1 16 5) * (I1 16 5)), .int r12]) (st := []) dX0_fill_48 ml_X0_38 mm_X8_add rfl rfl rfl rfl rfl rfl ⟨rfl, rfl⟩ h (fun v h2 hq => ?_)
    clear h
    obtain ⟨I13, L14, c15, rfl, rfl, h⟩ := hq
    show Z_Dr_fill_16_20 g Q 51 [(0, .ref 10), (1, .ref 16), (2, .ref 20), (3, .int x3), (4, .int x4), (5, .int x5), (6, .int (r4 - r4 / (I1 16 5) * (I1 16 5)))] [] I13 L14 c15
    refine gx_iinc (v := (x5 + 1)) (lv' := [(0, .ref 10), (1, .ref 16), (2, .ref 20), (3, .int x3), (4, .int x4), (5, .int (x5 + 1)), (6, .int (r4 - r4 / (I1 16 5) * (I1 16 5)))]) 5 dX0_fill_51 rfl rfl rfl rfl ?_
    refine gx_goto 11 dX0_fill_54 (by decide) ?_
    refine gx_sub [0, 1, 2, 3, 4, 5] (lv' := [(0, .ref 10), (1, .ref 16), (2, .ref 20), (3, .int x3), (4, .int x4), (5, .int (x5 + 1))]) rfl ?_
    exact h
abbrev Z_Sh20_nearestTo (g : gm_G) (Q : Int32 → mI → mL → gm_cfg → Prop) (pc : Nat) (lv : List (Nat × Value)) (st : List Value) (I : mI) (L : mL) (c : gm_cfg) : Prop := gm_X g RX8 "nearestTo" cX8_nearestTo 6 (some .int) 1 0 0 (qI Q) 0 0 pc lv st (SH, I, L, RR c)
abbrev C_Sh20_nearestTo (g : gm_G) (x1 : Int32) (I : mI) (L : mL) (c : gm_cfg) (Q : Int32 → mI → mL → gm_cfg → Prop) : Prop := gm_Met g yX8_nearestTo cX8_nearestTo 6 (some .int) 1 0 0 [.ref 20, .int x1] (SH, I, L, RR c) (qI Q)
set_option maxRecDepth 100000 in
theorem e_Sh20_nearestTo {g : gm_G} {Q : Int32 → mI → mL → gm_cfg → Prop} {x1 : Int32} {I : mI} {L : mL} {c : gm_cfg} (h : Z_Sh20_nearestTo g Q 7 [(0, .ref 20), (1, .int x1), (2, .int (-1)), (3, .int 0), (4, .int 0)] [] I L c) : C_Sh20_nearestTo g x1 I L c Q := by
  refine gm_enter (lv := [(0, .ref 20), (1, .int x1)]) (by decide) rfl rfl rfl rfl ?_
  show Z_Sh20_nearestTo g Q 0 [(0, .ref 20), (1, .int x1)] [] I L c
  refine gx_iconst (v := (-1)) dX8_nearestTo_0 (by decide) ?_
  refine gx_istore_n (lv' := [(0, .ref 20), (1, .int x1), (2, .int (-1))]) dX8_nearestTo_1 rfl rfl rfl ?_
  refine gx_iconst (v := 0) dX8_nearestTo_2 (by decide) ?_
  refine gx_istore_n (lv' := [(0, .ref 20), (1, .int x1), (2, .int (-1)), (3, .int 0)]) dX8_nearestTo_3 rfl rfl rfl ?_
  refine gx_iconst (v := 0) dX8_nearestTo_4 (by decide) ?_
  refine gx_istore (lv' := [(0, .ref 20), (1, .int x1), (2, .int (-1)), (3, .int 0), (4, .int 0)]) dX8_nearestTo_5 rfl rfl ?_
  exact h
set_option maxRecDepth 100000 in
theorem r_Sh20_nearestTo_7 {g : gm_G} {Q : Int32 → mI → mL → gm_cfg → Prop} {x1 x2 x3 x4 : Int32} {I : mI} {L : mL} {c : gm_cfg} (h : (((I 20 2) ≤ x4 → Q x2 I L c) ∧ (¬ (I 20 2) ≤ x4 → (vp_in x4 40 ∧ ((x2 = (-1) → Z_Sh20_nearestTo g Q 7 [(0, .ref 20), (1, .int x1), (2, .int x4), (3, .int ((if 0 ≤ ((I 21 (Int32.toNatClampNeg x4)) - x1) then ((I 21 (Int32.toNatClampNeg x4)) - x1) else 0 - ((I 21 (Int32.toNatClampNeg x4)) - x1)) : Int32)), (4, .int (x4 + 1))] [] I L c) ∧ (¬ x2 = (-1) → ((x3 ≤ ((if 0 ≤ ((I 21 (Int32.toNatClampNeg x4)) - x1) then ((I 21 (Int32.toNatClampNeg x4)) - x1) else 0 - ((I 21 (Int32.toNatClampNeg x4)) - x1)) : Int32) → Z_Sh20_nearestTo g Q 7 [(0, .ref 20), (1, .int x1), (2, .int x2), (3, .int x3), (4, .int (x4 + 1))] [] I L c) ∧ (¬ x3 ≤ ((if 0 ≤ ((I 21 (Int32.toNatClampNeg x4)) - x1) then ((I 21 (Int32.toNatClampNeg x4)) - x1) else 0 - ((I 21 (Int32.toNatClampNeg x4)) - x1)) : Int32) → Z_Sh20_nearestTo g Q 7 [(0, .ref 20), (1, .int x1), (2, .int x4), (3, .int ((if 0 ≤ ((I 21 (Int32.toNatClampNeg x4)) - x1) then ((I 21 (Int32.toNatClampNeg x4)) - x1) else 0 - ((I 21 (Int32.toNatClampNeg x4)) - x1)) : Int32)), (4, .int (x4 + 1))] [] I L c)))))))) : Z_Sh20_nearestTo g Q 7 [(0, .ref 20), (1, .int x1), (2, .int x2), (3, .int x3), (4, .int x4)] [] I L c := by
  refine gx_iload 4 dX8_nearestTo_7 rfl ?_
  refine gx_aload_n 0 dX8_nearestTo_9 rfl rfl ?_
  refine gx_geti 8 2 (v := (I 20 2)) dX8_nearestTo_10 fl_X8_24 rfl rfl rfl ?_
  refine gx_icmp_ge 53 dX8_nearestTo_13 (by decide) ⟨fun z => ?_, fun z => ?_⟩
  · replace h := h.1 z
    refine gx_iload_n 2 dX8_nearestTo_53 rfl rfl ?_
    exact gx_iret dX8_nearestTo_54 rfl rfl rfl ⟨_, _, _, _, rfl, rfl, h⟩
  · replace h := h.2 z
    refine gx_aload_n 0 dX8_nearestTo_16 rfl rfl ?_
    refine gx_getr 8 0 (v := 21) dX8_nearestTo_17 fl_X8_9 rfl rfl rfl ?_
    refine gx_iload 4 dX8_nearestTo_20 rfl ?_
    obtain ⟨hi, h⟩ := h
    refine gx_iald (v := (I 21 (Int32.toNatClampNeg x4))) dX8_nearestTo_22 rfl rfl hi (k := (Int32.toNatClampNeg x4)) rfl rfl ?_
    refine gx_iload_n 1 dX8_nearestTo_23 rfl rfl ?_
    refine gx_isub dX8_nearestTo_24 ?_
    refine gx_mabs dX8_nearestTo_25 ml_X8_32 mw_abs rfl rfl rfl rfl ?_
    refine gx_istore (lv' := [(0, .ref 20), (1, .int x1), (2, .int x2), (3, .int x3), (4, .int x4), (5, .int ((if 0 ≤ ((I 21 (Int32.toNatClampNeg x4)) - x1) then ((I 21 (Int32.toNatClampNeg x4)) - x1) else 0 - ((I 21 (Int32.toNatClampNeg x4)) - x1)) : Int32))]) dX8_nearestTo_28 rfl rfl ?_
    refine gx_iload_n 2 dX8_nearestTo_30 rfl rfl ?_
    refine gx_iconst (v := (-1)) dX8_nearestTo_31 (by decide) ?_
    refine gx_icmp_eq 41 dX8_nearestTo_32 (by decide) ⟨fun z => ?_, fun z => ?_⟩
    · replace h := h.1 z
      refine gx_iload 5 dX8_nearestTo_41 rfl ?_
      refine gx_istore_n (lv' := [(0, .ref 20), (1, .int x1), (2, .int x2), (3, .int ((if 0 ≤ ((I 21 (Int32.toNatClampNeg x4)) - x1) then ((I 21 (Int32.toNatClampNeg x4)) - x1) else 0 - ((I 21 (Int32.toNatClampNeg x4)) - x1)) : Int32)), (4, .int x4), (5, .int ((if 0 ≤ ((I 21 (Int32.toNatClampNeg x4)) - x1) then ((I 21 (Int32.toNatClampNeg x4)) - x1) else 0 - ((I 21 (Int32.toNatClampNeg x4)) - x1)) : Int32))]) dX8_nearestTo_43 rfl rfl rfl ?_
      refine gx_iload 4 dX8_nearestTo_44 rfl ?_
      refine gx_istore_n (lv' := [(0, .ref 20), (1, .int x1), (2, .int x4), (3, .int ((if 0 ≤ ((I 21 (Int32.toNatClampNeg x4)) - x1) then ((I 21 (Int32.toNatClampNeg x4)) - x1) else 0 - ((I 21 (Int32.toNatClampNeg x4)) - x1)) : Int32)), (4, .int x4), (5, .int ((if 0 ≤ ((I 21 (Int32.toNatClampNeg x4)) - x1) then ((I 21 (Int32.toNatClampNeg x4)) - x1) else 0 - ((I 21 (Int32.toNatClampNeg x4)) - x1)) : Int32))]) dX8_nearestTo_46 rfl rfl rfl ?_
      refine gx_iinc (v := (x4 + 1)) (lv' := [(0, .ref 20), (1, .int x1), (2, .int x4), (3, .int ((if 0 ≤ ((I 21 (Int32.toNatClampNeg x4)) - x1) then ((I 21 (Int32.toNatClampNeg x4)) - x1) else 0 - ((I 21 (Int32.toNatClampNeg x4)) - x1)) : Int32)), (4, .int (x4 + 1)), (5, .int ((if 0 ≤ ((I 21 (Int32.toNatClampNeg x4)) - x1) then ((I 21 (Int32.toNatClampNeg x4)) - x1) else 0 - ((I 21 (Int32.toNatClampNeg x4)) - x1)) : Int32))]) 4 dX8_nearestTo_47 rfl rfl rfl rfl ?_
      refine gx_goto 7 dX8_nearestTo_50 (by decide) ?_
      refine gx_sub [0, 1, 2, 3, 4] (lv' := [(0, .ref 20), (1, .int x1), (2, .int x4), (3, .int ((if 0 ≤ ((I 21 (Int32.toNatClampNeg x4)) - x1) then ((I 21 (Int32.toNatClampNeg x4)) - x1) else 0 - ((I 21 (Int32.toNatClampNeg x4)) - x1)) : Int32)), (4, .int (x4 + 1))]) rfl ?_
      exact h
    · replace h := h.2 z
      refine gx_iload 5 dX8_nearestTo_35 rfl ?_
      refine gx_iload_n 3 dX8_nearestTo_37 rfl rfl ?_
      refine gx_icmp_ge 47 dX8_nearestTo_38 (by decide) ⟨fun z => ?_, fun z => ?_⟩
      · replace h := h.1 z
        refine gx_iinc (v := (x4 + 1)) (lv' := [(0, .ref 20), (1, .int x1), (2, .int x2), (3, .int x3), (4, .int (x4 + 1)), (5, .int ((if 0 ≤ ((I 21 (Int32.toNatClampNeg x4)) - x1) then ((I 21 (Int32.toNatClampNeg x4)) - x1) else 0 - ((I 21 (Int32.toNatClampNeg x4)) - x1)) : Int32))]) 4 dX8_nearestTo_47 rfl rfl rfl rfl ?_
        refine gx_goto 7 dX8_nearestTo_50 (by decide) ?_
        refine gx_sub [0, 1, 2, 3, 4] (lv' := [(0, .ref 20), (1, .int x1), (2, .int x2), (3, .int x3), (4, .int (x4 + 1))]) rfl ?_
        exact h
      · replace h := h.2 z
        refine gx_iload 5 dX8_nearestTo_41 rfl ?_
        refine gx_istore_n (lv' := [(0, .ref 20), (1, .int x1), (2, .int x2), (3, .int ((if 0 ≤ ((I 21 (Int32.toNatClampNeg x4)) - x1) then ((I 21 (Int32.toNatClampNeg x4)) - x1) else 0 - ((I 21 (Int32.toNatClampNeg x4)) - x1)) : Int32)), (4, .int x4), (5, .int ((if 0 ≤ ((I 21 (Int32.toNatClampNeg x4)) - x1) then ((I 21 (Int32.toNatClampNeg x4)) - x1) else 0 - ((I 21 (Int32.toNatClampNeg x4)) - x1)) : Int32))]) dX8_nearestTo_43 rfl rfl rfl ?_
        refine gx_iload 4 dX8_nearestTo_44 rfl ?_
        refine gx_istore_n (lv' := [(0, .ref 20), (1, .int x1), (2, .int x4), (3, .int ((if 0 ≤ ((I 21 (Int32.toNatClampNeg x4)) - x1) then ((I 21 (Int32.toNatClampNeg x4)) - x1) else 0 - ((I 21 (Int32.toNatClampNeg x4)) - x1)) : Int32)), (4, .int x4), (5, .int ((if 0 ≤ ((I 21 (Int32.toNatClampNeg x4)) - x1) then ((I 21 (Int32.toNatClampNeg x4)) - x1) else 0 - ((I 21 (Int32.toNatClampNeg x4)) - x1)) : Int32))]) dX8_nearestTo_46 rfl rfl rfl ?_
        refine gx_iinc (v := (x4 + 1)) (lv' := [(0, .ref 20), (1, .int x1), (2, .int x4), (3, .int ((if 0 ≤ ((I 21 (Int32.toNatClampNeg x4)) - x1) then ((I 21 (Int32.toNatClampNeg x4)) - x1) else 0 - ((I 21 (Int32.toNatClampNeg x4)) - x1)) : Int32)), (4, .int (x4 + 1)), (5, .int ((if 0 ≤ ((I 21 (Int32.toNatClampNeg x4)) - x1) then ((I 21 (Int32.toNatClampNeg x4)) - x1) else 0 - ((I 21 (Int32.toNatClampNeg x4)) - x1)) : Int32))]) 4 dX8_nearestTo_47 rfl rfl rfl rfl ?_
        refine gx_goto 7 dX8_nearestTo_50 (by decide) ?_
        refine gx_sub [0, 1, 2, 3, 4] (lv' := [(0, .ref 20), (1, .int x1), (2, .int x4), (3, .int ((if 0 ≤ ((I 21 (Int32.toNatClampNeg x4)) - x1) then ((I 21 (Int32.toNatClampNeg x4)) - x1) else 0 - ((I 21 (Int32.toNatClampNeg x4)) - x1)) : Int32)), (4, .int (x4 + 1))]) rfl ?_
        exact h
abbrev Z_Re_open (g : gm_G) (Q : mI → mL → gm_cfg → Prop) (pc : Nat) (lv : List (Nat × Value)) (st : List Value) (I : mI) (L : mL) (c : gm_cfg) : Prop := gm_X g RX4 "open" cX4_open 4 none 1 0 0 (qV Q) 0 0 pc lv st (SH, I, L, RR c)
abbrev C_Re_open (g : gm_G) (x1 : Int32) (x2 : Int32) (x3 : Int32) (I : mI) (L : mL) (c : gm_cfg) (Q : mI → mL → gm_cfg → Prop) : Prop := gm_Met g yX4_open cX4_open 4 none 1 0 0 [.ref 24, .int x1, .int x2, .int x3] (SH, I, L, RR c) (qV Q)
set_option maxRecDepth 100000 in
theorem e_Re_open {g : gm_G} {Q : mI → mL → gm_cfg → Prop} {x1 x2 x3 : Int32} {I : mI} {L : mL} {c : gm_cfg} (h : Q (gm_u (gm_u (gm_u I 24 2 x1) 24 0 x2) 24 1 x3) L c) : C_Re_open g x1 x2 x3 I L c Q := by
  refine gm_enter (lv := [(0, .ref 24), (1, .int x1), (2, .int x2), (3, .int x3)]) (by decide) rfl rfl rfl rfl ?_
  show Z_Re_open g Q 0 [(0, .ref 24), (1, .int x1), (2, .int x2), (3, .int x3)] [] I L c
  refine gx_aload_n 0 dX4_open_0 rfl rfl ?_
  refine gx_iload_n 1 dX4_open_1 rfl rfl ?_
  refine gx_puti 4 2 dX4_open_2 fl_X4_7 rfl rfl rfl ⟨rfl, rfl⟩ ?_
  show Z_Re_open g Q 5 [(0, .ref 24), (1, .int x1), (2, .int x2), (3, .int x3)] [] (gm_u I 24 2 x1) L c
  refine gx_aload_n 0 dX4_open_5 rfl rfl ?_
  refine gx_iload_n 2 dX4_open_6 rfl rfl ?_
  refine gx_puti 4 0 dX4_open_7 fl_X4_13 rfl rfl rfl ⟨rfl, rfl⟩ ?_
  show Z_Re_open g Q 10 [(0, .ref 24), (1, .int x1), (2, .int x2), (3, .int x3)] [] (gm_u (gm_u I 24 2 x1) 24 0 x2) L c
  refine gx_aload_n 0 dX4_open_10 rfl rfl ?_
  refine gx_iload_n 3 dX4_open_11 rfl rfl ?_
  refine gx_puti 4 1 dX4_open_12 fl_X4_16 rfl rfl rfl ⟨rfl, rfl⟩ ?_
  show Z_Re_open g Q 15 [(0, .ref 24), (1, .int x1), (2, .int x2), (3, .int x3)] [] (gm_u (gm_u (gm_u I 24 2 x1) 24 0 x2) 24 1 x3) L c
  exact gx_vret dX4_open_15 rfl rfl rfl ⟨_, _, _, rfl, rfl, h⟩
abbrev Z_Re_yieldTo (g : gm_G) (Q : mI → mL → gm_cfg → Prop) (pc : Nat) (lv : List (Nat × Value)) (st : List Value) (I : mI) (L : mL) (c : gm_cfg) : Prop := gm_X g RX4 "yieldTo" cX4_yieldTo 2 none 1 0 0 (qV Q) 0 0 pc lv st (SH, I, L, RR c)
abbrev C_Re_yieldTo (g : gm_G) (x1 : Int32) (I : mI) (L : mL) (c : gm_cfg) (Q : mI → mL → gm_cfg → Prop) : Prop := gm_Met g yX4_yieldTo cX4_yieldTo 2 none 1 0 0 [.ref 24, .int x1] (SH, I, L, RR c) (qV Q)
set_option maxRecDepth 100000 in
theorem e_Re_yieldTo {g : gm_G} {Q : mI → mL → gm_cfg → Prop} {x1 : Int32} {I : mI} {L : mL} {c : gm_cfg} (h : ((x1 = (I 24 2) → Q (gm_u I 24 1 ((I 24 0) - 1)) L c) ∧ (¬ x1 = (I 24 2) → (((I 24 2) ≤ x1 → Q (gm_u I 24 1 ((if (((((I 24 2) + x1) + 1) / 2) - 1) < (I 24 1) then (((((I 24 2) + x1) + 1) / 2) - 1) else (I 24 1)) : Int32)) L c) ∧ (¬ (I 24 2) ≤ x1 → Q (gm_u I 24 0 ((if (I 24 0) < ((((I 24 2) + x1) / 2) + 1) then ((((I 24 2) + x1) / 2) + 1) else (I 24 0)) : Int32)) L c))))) : C_Re_yieldTo g x1 I L c Q := by
  refine gm_enter (lv := [(0, .ref 24), (1, .int x1)]) (by decide) rfl rfl rfl rfl ?_
  show Z_Re_yieldTo g Q 0 [(0, .ref 24), (1, .int x1)] [] I L c
  refine gx_iload_n 1 dX4_yieldTo_0 rfl rfl ?_
  refine gx_aload_n 0 dX4_yieldTo_1 rfl rfl ?_
  refine gx_geti 4 2 (v := (I 24 2)) dX4_yieldTo_2 fl_X4_7 rfl rfl rfl ?_
  refine gx_icmp_ne 21 dX4_yieldTo_5 (by decide) ⟨fun z => ?_, fun z => ?_⟩
  · replace h := h.1 z
    refine gx_aload_n 0 dX4_yieldTo_8 rfl rfl ?_
    refine gx_aload_n 0 dX4_yieldTo_9 rfl rfl ?_
    refine gx_geti 4 0 (v := (I 24 0)) dX4_yieldTo_10 fl_X4_13 rfl rfl rfl ?_
    refine gx_iconst (v := 1) dX4_yieldTo_13 (by decide) ?_
    refine gx_isub dX4_yieldTo_14 ?_
    refine gx_puti 4 1 dX4_yieldTo_15 fl_X4_16 rfl rfl rfl ⟨rfl, rfl⟩ ?_
    show Z_Re_yieldTo g Q 18 [(0, .ref 24), (1, .int x1)] [] (gm_u I 24 1 ((I 24 0) - 1)) L c
    refine gx_goto 76 dX4_yieldTo_18 (by decide) ?_
    exact gx_vret dX4_yieldTo_76 rfl rfl rfl ⟨_, _, _, rfl, rfl, h⟩
  · replace h := h.2 z
    refine gx_iload_n 1 dX4_yieldTo_21 rfl rfl ?_
    refine gx_aload_n 0 dX4_yieldTo_22 rfl rfl ?_
    refine gx_geti 4 2 (v := (I 24 2)) dX4_yieldTo_23 fl_X4_7 rfl rfl rfl ?_
    refine gx_icmp_ge 53 dX4_yieldTo_26 (by decide) ⟨fun z => ?_, fun z => ?_⟩
    · replace h := h.1 z
      refine gx_aload_n 0 dX4_yieldTo_53 rfl rfl ?_
      refine gx_aload_n 0 dX4_yieldTo_54 rfl rfl ?_
      refine gx_geti 4 1 (v := (I 24 1)) dX4_yieldTo_55 fl_X4_16 rfl rfl rfl ?_
      refine gx_aload_n 0 dX4_yieldTo_58 rfl rfl ?_
      refine gx_geti 4 2 (v := (I 24 2)) dX4_yieldTo_59 fl_X4_7 rfl rfl rfl ?_
      refine gx_iload_n 1 dX4_yieldTo_62 rfl rfl ?_
      refine gx_iadd dX4_yieldTo_63 ?_
      refine gx_iconst (v := 1) dX4_yieldTo_64 (by decide) ?_
      refine gx_iadd dX4_yieldTo_65 ?_
      refine gx_iconst (v := 2) dX4_yieldTo_66 (by decide) ?_
      refine gx_idiv dX4_yieldTo_67 (by decide) ?_
      refine gx_iconst (v := 1) dX4_yieldTo_68 (by decide) ?_
      refine gx_isub dX4_yieldTo_69 ?_
      refine gx_mmin dX4_yieldTo_70 ml_X4_25 mw_min rfl rfl rfl rfl ?_
      refine gx_puti 4 1 dX4_yieldTo_73 fl_X4_16 rfl rfl rfl ⟨rfl, rfl⟩ ?_
      show Z_Re_yieldTo g Q 76 [(0, .ref 24), (1, .int x1)] [] (gm_u I 24 1 ((if (((((I 24 2) + x1) + 1) / 2) - 1) < (I 24 1) then (((((I 24 2) + x1) + 1) / 2) - 1) else (I 24 1)) : Int32)) L c
      exact gx_vret dX4_yieldTo_76 rfl rfl rfl ⟨_, _, _, rfl, rfl, h⟩
    · replace h := h.2 z
      refine gx_aload_n 0 dX4_yieldTo_29 rfl rfl ?_
      refine gx_aload_n 0 dX4_yieldTo_30 rfl rfl ?_
      refine gx_geti 4 0 (v := (I 24 0)) dX4_yieldTo_31 fl_X4_13 rfl rfl rfl ?_
      refine gx_aload_n 0 dX4_yieldTo_34 rfl rfl ?_
      refine gx_geti 4 2 (v := (I 24 2)) dX4_yieldTo_35 fl_X4_7 rfl rfl rfl ?_
      refine gx_iload_n 1 dX4_yieldTo_38 rfl rfl ?_
      refine gx_iadd dX4_yieldTo_39 ?_
      refine gx_iconst (v := 2) dX4_yieldTo_40 (by decide) ?_
      refine gx_idiv dX4_yieldTo_41 (by decide) ?_
      refine gx_iconst (v := 1) dX4_yieldTo_42 (by decide) ?_
      refine gx_iadd dX4_yieldTo_43 ?_
      refine gx_mmax dX4_yieldTo_44 ml_X4_19 mw_max rfl rfl rfl rfl ?_
      refine gx_puti 4 0 dX4_yieldTo_47 fl_X4_13 rfl rfl rfl ⟨rfl, rfl⟩ ?_
      show Z_Re_yieldTo g Q 50 [(0, .ref 24), (1, .int x1)] [] (gm_u I 24 0 ((if (I 24 0) < ((((I 24 2) + x1) / 2) + 1) then ((((I 24 2) + x1) / 2) + 1) else (I 24 0)) : Int32)) L c
      refine gx_goto 76 dX4_yieldTo_50 (by decide) ?_
      exact gx_vret dX4_yieldTo_76 rfl rfl rfl ⟨_, _, _, rfl, rfl, h⟩
abbrev Z_Re_keepFrom (g : gm_G) (Q : mI → mL → gm_cfg → Prop) (pc : Nat) (lv : List (Nat × Value)) (st : List Value) (I : mI) (L : mL) (c : gm_cfg) : Prop := gm_X g RX4 "keepFrom" cX4_keepFrom 2 none 1 0 0 (qV Q) 0 0 pc lv st (SH, I, L, RR c)
abbrev C_Re_keepFrom (g : gm_G) (x1 : Int32) (I : mI) (L : mL) (c : gm_cfg) (Q : mI → mL → gm_cfg → Prop) : Prop := gm_Met g yX4_keepFrom cX4_keepFrom 2 none 1 0 0 [.ref 24, .int x1] (SH, I, L, RR c) (qV Q)
set_option maxRecDepth 100000 in
theorem e_Re_keepFrom {g : gm_G} {Q : mI → mL → gm_cfg → Prop} {x1 : Int32} {I : mI} {L : mL} {c : gm_cfg} (h : (((I 24 2) ≤ x1 → ((x1 ≤ (I 24 2) → Q I L c) ∧ (¬ x1 ≤ (I 24 2) → Q (gm_u I 24 1 ((if (((I 24 2) + x1) / 2) < (I 24 1) then (((I 24 2) + x1) / 2) else (I 24 1)) : Int32)) L c))) ∧ (¬ (I 24 2) ≤ x1 → Q (gm_u I 24 0 ((if (I 24 0) < ((((I 24 2) + x1) + 1) / 2) then ((((I 24 2) + x1) + 1) / 2) else (I 24 0)) : Int32)) L c))) : C_Re_keepFrom g x1 I L c Q := by
  refine gm_enter (lv := [(0, .ref 24), (1, .int x1)]) (by decide) rfl rfl rfl rfl ?_
  show Z_Re_keepFrom g Q 0 [(0, .ref 24), (1, .int x1)] [] I L c
  refine gx_iload_n 1 dX4_keepFrom_0 rfl rfl ?_
  refine gx_aload_n 0 dX4_keepFrom_1 rfl rfl ?_
  refine gx_geti 4 2 (v := (I 24 2)) dX4_keepFrom_2 fl_X4_7 rfl rfl rfl ?_
  refine gx_icmp_ge 32 dX4_keepFrom_5 (by decide) ⟨fun z => ?_, fun z => ?_⟩
  · replace h := h.1 z
    refine gx_iload_n 1 dX4_keepFrom_32 rfl rfl ?_
    refine gx_aload_n 0 dX4_keepFrom_33 rfl rfl ?_
    refine gx_geti 4 2 (v := (I 24 2)) dX4_keepFrom_34 fl_X4_7 rfl rfl rfl ?_
    refine gx_icmp_le 59 dX4_keepFrom_37 (by decide) ⟨fun z => ?_, fun z => ?_⟩
    · replace h := h.1 z
      exact gx_vret dX4_keepFrom_59 rfl rfl rfl ⟨_, _, _, rfl, rfl, h⟩
    · replace h := h.2 z
      refine gx_aload_n 0 dX4_keepFrom_40 rfl rfl ?_
      refine gx_aload_n 0 dX4_keepFrom_41 rfl rfl ?_
      refine gx_geti 4 1 (v := (I 24 1)) dX4_keepFrom_42 fl_X4_16 rfl rfl rfl ?_
      refine gx_aload_n 0 dX4_keepFrom_45 rfl rfl ?_
      refine gx_geti 4 2 (v := (I 24 2)) dX4_keepFrom_46 fl_X4_7 rfl rfl rfl ?_
      refine gx_iload_n 1 dX4_keepFrom_49 rfl rfl ?_
      refine gx_iadd dX4_keepFrom_50 ?_
      refine gx_iconst (v := 2) dX4_keepFrom_51 (by decide) ?_
      refine gx_idiv dX4_keepFrom_52 (by decide) ?_
      refine gx_mmin dX4_keepFrom_53 ml_X4_25 mw_min rfl rfl rfl rfl ?_
      refine gx_puti 4 1 dX4_keepFrom_56 fl_X4_16 rfl rfl rfl ⟨rfl, rfl⟩ ?_
      show Z_Re_keepFrom g Q 59 [(0, .ref 24), (1, .int x1)] [] (gm_u I 24 1 ((if (((I 24 2) + x1) / 2) < (I 24 1) then (((I 24 2) + x1) / 2) else (I 24 1)) : Int32)) L c
      exact gx_vret dX4_keepFrom_59 rfl rfl rfl ⟨_, _, _, rfl, rfl, h⟩
  · replace h := h.2 z
    refine gx_aload_n 0 dX4_keepFrom_8 rfl rfl ?_
    refine gx_aload_n 0 dX4_keepFrom_9 rfl rfl ?_
    refine gx_geti 4 0 (v := (I 24 0)) dX4_keepFrom_10 fl_X4_13 rfl rfl rfl ?_
    refine gx_aload_n 0 dX4_keepFrom_13 rfl rfl ?_
    refine gx_geti 4 2 (v := (I 24 2)) dX4_keepFrom_14 fl_X4_7 rfl rfl rfl ?_
    refine gx_iload_n 1 dX4_keepFrom_17 rfl rfl ?_
    refine gx_iadd dX4_keepFrom_18 ?_
    refine gx_iconst (v := 1) dX4_keepFrom_19 (by decide) ?_
    refine gx_iadd dX4_keepFrom_20 ?_
    refine gx_iconst (v := 2) dX4_keepFrom_21 (by decide) ?_
    refine gx_idiv dX4_keepFrom_22 (by decide) ?_
    refine gx_mmax dX4_keepFrom_23 ml_X4_19 mw_max rfl rfl rfl rfl ?_
    refine gx_puti 4 0 dX4_keepFrom_26 fl_X4_13 rfl rfl rfl ⟨rfl, rfl⟩ ?_
    show Z_Re_keepFrom g Q 29 [(0, .ref 24), (1, .int x1)] [] (gm_u I 24 0 ((if (I 24 0) < ((((I 24 2) + x1) + 1) / 2) then ((((I 24 2) + x1) + 1) / 2) else (I 24 0)) : Int32)) L c
    refine gx_goto 59 dX4_keepFrom_29 (by decide) ?_
    exact gx_vret dX4_keepFrom_59 rfl rfl rfl ⟨_, _, _, rfl, rfl, h⟩
abbrev Z_Re_width (g : gm_G) (Q : Int32 → mI → mL → gm_cfg → Prop) (pc : Nat) (lv : List (Nat × Value)) (st : List Value) (I : mI) (L : mL) (c : gm_cfg) : Prop := gm_X g RX4 "width" cX4_width 1 (some .int) 1 0 0 (qI Q) 0 0 pc lv st (SH, I, L, RR c)
abbrev C_Re_width (g : gm_G) (I : mI) (L : mL) (c : gm_cfg) (Q : Int32 → mI → mL → gm_cfg → Prop) : Prop := gm_Met g yX4_width cX4_width 1 (some .int) 1 0 0 [.ref 24] (SH, I, L, RR c) (qI Q)
set_option maxRecDepth 100000 in
theorem e_Re_width {g : gm_G} {Q : Int32 → mI → mL → gm_cfg → Prop} {I : mI} {L : mL} {c : gm_cfg} (h : Q ((if 0 < (((I 24 1) - (I 24 0)) + 1) then (((I 24 1) - (I 24 0)) + 1) else 0) : Int32) I L c) : C_Re_width g  I L c Q := by
  refine gm_enter (lv := [(0, .ref 24)]) (by decide) rfl rfl rfl rfl ?_
  show Z_Re_width g Q 0 [(0, .ref 24)] [] I L c
  refine gx_iconst (v := 0) dX4_width_0 (by decide) ?_
  refine gx_aload_n 0 dX4_width_1 rfl rfl ?_
  refine gx_geti 4 1 (v := (I 24 1)) dX4_width_2 fl_X4_16 rfl rfl rfl ?_
  refine gx_aload_n 0 dX4_width_5 rfl rfl ?_
  refine gx_geti 4 0 (v := (I 24 0)) dX4_width_6 fl_X4_13 rfl rfl rfl ?_
  refine gx_isub dX4_width_9 ?_
  refine gx_iconst (v := 1) dX4_width_10 (by decide) ?_
  refine gx_iadd dX4_width_11 ?_
  refine gx_mmax dX4_width_12 ml_X4_19 mw_max rfl rfl rfl rfl ?_
  exact gx_iret dX4_width_15 rfl rfl rfl ⟨_, _, _, _, rfl, rfl, h⟩
abbrev Z_Sh20_meanOf (g : gm_G) (Q : Int32 → mI → mL → gm_cfg → Prop) (pc : Nat) (lv : List (Nat × Value)) (st : List Value) (I : mI) (L : mL) (c : gm_cfg) : Prop := gm_X g RX8 "meanOf" cX8_meanOf 2 (some .int) 2 0 0 (qI Q) 0 0 pc lv st (SH, I, L, RR c)
abbrev C_Sh20_meanOf (g : gm_G) (x1 : Int32) (I : mI) (L : mL) (c : gm_cfg) (Q : Int32 → mI → mL → gm_cfg → Prop) : Prop := gm_Met g yX8_meanOf cX8_meanOf 2 (some .int) 2 0 0 [.ref 20, .int x1] (SH, I, L, RR c) (qI Q)
set_option maxRecDepth 100000 in
theorem e_Sh20_meanOf {g : gm_G} {Q : Int32 → mI → mL → gm_cfg → Prop} {x1 : Int32} {I : mI} {L : mL} {c : gm_cfg} (h : ((x1 ≤ 0 → Q (-1) I L c) ∧ (¬ x1 ≤ 0 → (C_Sh20_sumOf g x1 I L c (fun r4 I1 L2 c3 => (¬ x1 = 0 ∧ Q (r4 / x1) I1 L2 c3)))))) : C_Sh20_meanOf g x1 I L c Q := by
  refine gm_enter (lv := [(0, .ref 20), (1, .int x1)]) (by decide) rfl rfl rfl rfl ?_
  show Z_Sh20_meanOf g Q 0 [(0, .ref 20), (1, .int x1)] [] I L c
  refine gx_iload_n 1 dX8_meanOf_0 rfl rfl ?_
  refine gx_if_le 14 dX8_meanOf_1 (by decide) ⟨fun z => ?_, fun z => ?_⟩
  · replace h := h.1 z
    refine gx_iconst (v := (-1)) dX8_meanOf_14 (by decide) ?_
    exact gx_iret dX8_meanOf_15 rfl rfl rfl ⟨_, _, _, _, rfl, rfl, h⟩
  · replace h := h.2 z
    refine gx_aload_n 0 dX8_meanOf_4 rfl rfl ?_
    refine gx_iload_n 1 dX8_meanOf_5 rfl rfl ?_
    refine gx_callV 8 (As := [.int x1]) (st := []) dX8_meanOf_6 ml_X8_28 mm_X8_sumOf rfl rfl rfl rfl rfl rfl ⟨rfl, rfl⟩ h (fun v h2 hq => ?_)
    clear h
    obtain ⟨r4, I1, L2, c3, rfl, rfl, h⟩ := hq
    show Z_Sh20_meanOf g Q 9 [(0, .ref 20), (1, .int x1)] [.int r4] I1 L2 c3
    refine gx_iload_n 1 dX8_meanOf_9 rfl rfl ?_
    obtain ⟨hn, h⟩ := h
    refine gx_idiv dX8_meanOf_10 hn ?_
    refine gx_goto 15 dX8_meanOf_11 (by decide) ?_
    exact gx_iret dX8_meanOf_15 rfl rfl rfl ⟨_, _, _, _, rfl, rfl, h⟩
abbrev Z_Sh20_middle (g : gm_G) (Q : Int32 → mI → mL → gm_cfg → Prop) (pc : Nat) (lv : List (Nat × Value)) (st : List Value) (I : mI) (L : mL) (c : gm_cfg) : Prop := gm_X g RX8 "middle" cX8_middle 6 (some .int) 1 0 0 (qI Q) 0 0 pc lv st (SH, I, L, RR c)
abbrev C_Sh20_middle (g : gm_G) (I : mI) (L : mL) (c : gm_cfg) (Q : Int32 → mI → mL → gm_cfg → Prop) : Prop := gm_Met g yX8_middle cX8_middle 6 (some .int) 1 0 0 [.ref 20] (SH, I, L, RR c) (qI Q)
set_option maxRecDepth 100000 in
theorem e_Sh20_middle {g : gm_G} {Q : Int32 → mI → mL → gm_cfg → Prop} {I : mI} {L : mL} {c : gm_cfg} (h : Z_Sh20_middle g Q 11 [(0, .ref 20), (1, .int (((I 20 2) - 1) / 2)), (2, .int 0)] [] I L c) : C_Sh20_middle g  I L c Q := by
  refine gm_enter (lv := [(0, .ref 20)]) (by decide) rfl rfl rfl rfl ?_
  show Z_Sh20_middle g Q 0 [(0, .ref 20)] [] I L c
  refine gx_aload_n 0 dX8_middle_0 rfl rfl ?_
  refine gx_geti 8 2 (v := (I 20 2)) dX8_middle_1 fl_X8_24 rfl rfl rfl ?_
  refine gx_iconst (v := 1) dX8_middle_4 (by decide) ?_
  refine gx_isub dX8_middle_5 ?_
  refine gx_iconst (v := 2) dX8_middle_6 (by decide) ?_
  refine gx_idiv dX8_middle_7 (by decide) ?_
  refine gx_istore_n (lv' := [(0, .ref 20), (1, .int (((I 20 2) - 1) / 2))]) dX8_middle_8 rfl rfl rfl ?_
  refine gx_iconst (v := 0) dX8_middle_9 (by decide) ?_
  refine gx_istore_n (lv' := [(0, .ref 20), (1, .int (((I 20 2) - 1) / 2)), (2, .int 0)]) dX8_middle_10 rfl rfl rfl ?_
  exact h
set_option maxRecDepth 100000 in
theorem r_Sh20_middle_11 {g : gm_G} {Q : Int32 → mI → mL → gm_cfg → Prop} {x1 x2 : Int32} {I : mI} {L : mL} {c : gm_cfg} (h : (((I 20 2) ≤ x2 → Q (-1) I L c) ∧ (¬ (I 20 2) ≤ x2 → Z_Sh20_middle g Q 27 [(0, .ref 20), (1, .int x1), (2, .int x2), (3, .int 0), (4, .int 0), (5, .int 0)] [] I L c))) : Z_Sh20_middle g Q 11 [(0, .ref 20), (1, .int x1), (2, .int x2)] [] I L c := by
  refine gx_iload_n 2 dX8_middle_11 rfl rfl ?_
  refine gx_aload_n 0 dX8_middle_12 rfl rfl ?_
  refine gx_geti 8 2 (v := (I 20 2)) dX8_middle_13 fl_X8_24 rfl rfl rfl ?_
  refine gx_icmp_ge 109 dX8_middle_16 (by decide) ⟨fun z => ?_, fun z => ?_⟩
  · replace h := h.1 z
    refine gx_iconst (v := (-1)) dX8_middle_109 (by decide) ?_
    exact gx_iret dX8_middle_110 rfl rfl rfl ⟨_, _, _, _, rfl, rfl, h⟩
  · replace h := h.2 z
    refine gx_iconst (v := 0) dX8_middle_19 (by decide) ?_
    refine gx_istore_n (lv' := [(0, .ref 20), (1, .int x1), (2, .int x2), (3, .int 0)]) dX8_middle_20 rfl rfl rfl ?_
    refine gx_iconst (v := 0) dX8_middle_21 (by decide) ?_
    refine gx_istore (lv' := [(0, .ref 20), (1, .int x1), (2, .int x2), (3, .int 0), (4, .int 0)]) dX8_middle_22 rfl rfl ?_
    refine gx_iconst (v := 0) dX8_middle_24 (by decide) ?_
    refine gx_istore (lv' := [(0, .ref 20), (1, .int x1), (2, .int x2), (3, .int 0), (4, .int 0), (5, .int 0)]) dX8_middle_25 rfl rfl ?_
    exact h
set_option maxRecDepth 100000 in
theorem r_Sh20_middle_27 {g : gm_G} {Q : Int32 → mI → mL → gm_cfg → Prop} {x1 x2 x3 x4 x5 : Int32} {I : mI} {L : mL} {c : gm_cfg} (h : (((I 20 2) ≤ x5 → ((x1 < x3 → Z_Sh20_middle g Q 11 [(0, .ref 20), (1, .int x1), (2, .int (x2 + 1))] [] I L c) ∧ (¬ x1 < x3 → (((x3 + x4) ≤ x1 → Z_Sh20_middle g Q 11 [(0, .ref 20), (1, .int x1), (2, .int (x2 + 1))] [] I L c) ∧ (¬ (x3 + x4) ≤ x1 → (vp_in x2 40 ∧ Q (I 21 (Int32.toNatClampNeg x2)) I L c)))))) ∧ (¬ (I 20 2) ≤ x5 → (vp_in x5 40 ∧ (vp_in x2 40 ∧ (((I 21 (Int32.toNatClampNeg x2)) ≤ (I 21 (Int32.toNatClampNeg x5)) → (vp_in x5 40 ∧ (vp_in x2 40 ∧ (((I 21 (Int32.toNatClampNeg x5)) = (I 21 (Int32.toNatClampNeg x2)) → Z_Sh20_middle g Q 27 [(0, .ref 20), (1, .int x1), (2, .int x2), (3, .int x3), (4, .int (x4 + 1)), (5, .int (x5 + 1))] [] I L c) ∧ (¬ (I 21 (Int32.toNatClampNeg x5)) = (I 21 (Int32.toNatClampNeg x2)) → Z_Sh20_middle g Q 27 [(0, .ref 20), (1, .int x1), (2, .int x2), (3, .int x3), (4, .int x4), (5, .int (x5 + 1))] [] I L c))))) ∧ (¬ (I 21 (Int32.toNatClampNeg x2)) ≤ (I 21 (Int32.toNatClampNeg x5)) → Z_Sh20_middle g Q 27 [(0, .ref 20), (1, .int x1), (2, .int x2), (3, .int (x3 + 1)), (4, .int x4), (5, .int (x5 + 1))] [] I L c))))))) : Z_Sh20_middle g Q 27 [(0, .ref 20), (1, .int x1), (2, .int x2), (3, .int x3), (4, .int x4), (5, .int x5)] [] I L c := by
  refine gx_iload 5 dX8_middle_27 rfl ?_
  refine gx_aload_n 0 dX8_middle_29 rfl rfl ?_
  refine gx_geti 8 2 (v := (I 20 2)) dX8_middle_30 fl_X8_24 rfl rfl rfl ?_
  refine gx_icmp_ge 83 dX8_middle_33 (by decide) ⟨fun z => ?_, fun z => ?_⟩
  · replace h := h.1 z
    refine gx_iload_n 3 dX8_middle_83 rfl rfl ?_
    refine gx_iload_n 1 dX8_middle_84 rfl rfl ?_
    refine gx_icmp_gt 103 dX8_middle_85 (by decide) ⟨fun z => ?_, fun z => ?_⟩
    · replace h := h.1 z
      refine gx_iinc (v := (x2 + 1)) (lv' := [(0, .ref 20), (1, .int x1), (2, .int (x2 + 1)), (3, .int x3), (4, .int x4), (5, .int x5)]) 2 dX8_middle_103 rfl rfl rfl rfl ?_
      refine gx_goto 11 dX8_middle_106 (by decide) ?_
      refine gx_sub [0, 1, 2] (lv' := [(0, .ref 20), (1, .int x1), (2, .int (x2 + 1))]) rfl ?_
      exact h
    · replace h := h.2 z
      refine gx_iload_n 1 dX8_middle_88 rfl rfl ?_
      refine gx_iload_n 3 dX8_middle_89 rfl rfl ?_
      refine gx_iload 4 dX8_middle_90 rfl ?_
      refine gx_iadd dX8_middle_92 ?_
      refine gx_icmp_ge 103 dX8_middle_93 (by decide) ⟨fun z => ?_, fun z => ?_⟩
      · replace h := h.1 z
        refine gx_iinc (v := (x2 + 1)) (lv' := [(0, .ref 20), (1, .int x1), (2, .int (x2 + 1)), (3, .int x3), (4, .int x4), (5, .int x5)]) 2 dX8_middle_103 rfl rfl rfl rfl ?_
        refine gx_goto 11 dX8_middle_106 (by decide) ?_
        refine gx_sub [0, 1, 2] (lv' := [(0, .ref 20), (1, .int x1), (2, .int (x2 + 1))]) rfl ?_
        exact h
      · replace h := h.2 z
        refine gx_aload_n 0 dX8_middle_96 rfl rfl ?_
        refine gx_getr 8 0 (v := 21) dX8_middle_97 fl_X8_9 rfl rfl rfl ?_
        refine gx_iload_n 2 dX8_middle_100 rfl rfl ?_
        obtain ⟨hi, h⟩ := h
        refine gx_iald (v := (I 21 (Int32.toNatClampNeg x2))) dX8_middle_101 rfl rfl hi (k := (Int32.toNatClampNeg x2)) rfl rfl ?_
        exact gx_iret dX8_middle_102 rfl rfl rfl ⟨_, _, _, _, rfl, rfl, h⟩
  · replace h := h.2 z
    refine gx_aload_n 0 dX8_middle_36 rfl rfl ?_
    refine gx_getr 8 0 (v := 21) dX8_middle_37 fl_X8_9 rfl rfl rfl ?_
    refine gx_iload 5 dX8_middle_40 rfl ?_
    obtain ⟨hi, h⟩ := h
    refine gx_iald (v := (I 21 (Int32.toNatClampNeg x5))) dX8_middle_42 rfl rfl hi (k := (Int32.toNatClampNeg x5)) rfl rfl ?_
    refine gx_aload_n 0 dX8_middle_43 rfl rfl ?_
    refine gx_getr 8 0 (v := 21) dX8_middle_44 fl_X8_9 rfl rfl rfl ?_
    refine gx_iload_n 2 dX8_middle_47 rfl rfl ?_
    obtain ⟨hi, h⟩ := h
    refine gx_iald (v := (I 21 (Int32.toNatClampNeg x2))) dX8_middle_48 rfl rfl hi (k := (Int32.toNatClampNeg x2)) rfl rfl ?_
    refine gx_icmp_ge 58 dX8_middle_49 (by decide) ⟨fun z => ?_, fun z => ?_⟩
    · replace h := h.1 z
      refine gx_aload_n 0 dX8_middle_58 rfl rfl ?_
      refine gx_getr 8 0 (v := 21) dX8_middle_59 fl_X8_9 rfl rfl rfl ?_
      refine gx_iload 5 dX8_middle_62 rfl ?_
      obtain ⟨hi, h⟩ := h
      refine gx_iald (v := (I 21 (Int32.toNatClampNeg x5))) dX8_middle_64 rfl rfl hi (k := (Int32.toNatClampNeg x5)) rfl rfl ?_
      refine gx_aload_n 0 dX8_middle_65 rfl rfl ?_
      refine gx_getr 8 0 (v := 21) dX8_middle_66 fl_X8_9 rfl rfl rfl ?_
      refine gx_iload_n 2 dX8_middle_69 rfl rfl ?_
      obtain ⟨hi, h⟩ := h
      refine gx_iald (v := (I 21 (Int32.toNatClampNeg x2))) dX8_middle_70 rfl rfl hi (k := (Int32.toNatClampNeg x2)) rfl rfl ?_
      refine gx_icmp_ne 77 dX8_middle_71 (by decide) ⟨fun z => ?_, fun z => ?_⟩
      · replace h := h.1 z
        refine gx_iinc (v := (x4 + 1)) (lv' := [(0, .ref 20), (1, .int x1), (2, .int x2), (3, .int x3), (4, .int (x4 + 1)), (5, .int x5)]) 4 dX8_middle_74 rfl rfl rfl rfl ?_
        refine gx_iinc (v := (x5 + 1)) (lv' := [(0, .ref 20), (1, .int x1), (2, .int x2), (3, .int x3), (4, .int (x4 + 1)), (5, .int (x5 + 1))]) 5 dX8_middle_77 rfl rfl rfl rfl ?_
        refine gx_goto 27 dX8_middle_80 (by decide) ?_
        exact h
      · replace h := h.2 z
        refine gx_iinc (v := (x5 + 1)) (lv' := [(0, .ref 20), (1, .int x1), (2, .int x2), (3, .int x3), (4, .int x4), (5, .int (x5 + 1))]) 5 dX8_middle_77 rfl rfl rfl rfl ?_
        refine gx_goto 27 dX8_middle_80 (by decide) ?_
        exact h
    · replace h := h.2 z
      refine gx_iinc (v := (x3 + 1)) (lv' := [(0, .ref 20), (1, .int x1), (2, .int x2), (3, .int (x3 + 1)), (4, .int x4), (5, .int x5)]) 3 dX8_middle_52 rfl rfl rfl rfl ?_
      refine gx_goto 77 dX8_middle_55 (by decide) ?_
      refine gx_iinc (v := (x5 + 1)) (lv' := [(0, .ref 20), (1, .int x1), (2, .int x2), (3, .int (x3 + 1)), (4, .int x4), (5, .int (x5 + 1))]) 5 dX8_middle_77 rfl rfl rfl rfl ?_
      refine gx_goto 27 dX8_middle_80 (by decide) ?_
      exact h
abbrev Z_Sh20_least (g : gm_G) (Q : Int32 → mI → mL → gm_cfg → Prop) (pc : Nat) (lv : List (Nat × Value)) (st : List Value) (I : mI) (L : mL) (c : gm_cfg) : Prop := gm_X g RX8 "least" cX8_least 3 (some .int) 1 0 0 (qI Q) 0 0 pc lv st (SH, I, L, RR c)
abbrev C_Sh20_least (g : gm_G) (I : mI) (L : mL) (c : gm_cfg) (Q : Int32 → mI → mL → gm_cfg → Prop) : Prop := gm_Met g yX8_least cX8_least 3 (some .int) 1 0 0 [.ref 20] (SH, I, L, RR c) (qI Q)
set_option maxRecDepth 100000 in
theorem e_Sh20_least {g : gm_G} {Q : Int32 → mI → mL → gm_cfg → Prop} {I : mI} {L : mL} {c : gm_cfg} (h : (((I 20 2) ≤ 0 → Z_Sh20_least g Q 20 [(0, .ref 20), (1, .int (-1)), (2, .int 1)] [] I L c) ∧ (¬ (I 20 2) ≤ 0 → Z_Sh20_least g Q 20 [(0, .ref 20), (1, .int (I 21 0)), (2, .int 1)] [] I L c))) : C_Sh20_least g  I L c Q := by
  refine gm_enter (lv := [(0, .ref 20)]) (by decide) rfl rfl rfl rfl ?_
  show Z_Sh20_least g Q 0 [(0, .ref 20)] [] I L c
  refine gx_aload_n 0 dX8_least_0 rfl rfl ?_
  refine gx_geti 8 2 (v := (I 20 2)) dX8_least_1 fl_X8_24 rfl rfl rfl ?_
  refine gx_if_le 16 dX8_least_4 (by decide) ⟨fun z => ?_, fun z => ?_⟩
  · replace h := h.1 z
    refine gx_iconst (v := (-1)) dX8_least_16 (by decide) ?_
    refine gx_istore_n (lv' := [(0, .ref 20), (1, .int (-1))]) dX8_least_17 rfl rfl rfl ?_
    refine gx_iconst (v := 1) dX8_least_18 (by decide) ?_
    refine gx_istore_n (lv' := [(0, .ref 20), (1, .int (-1)), (2, .int 1)]) dX8_least_19 rfl rfl rfl ?_
    exact h
  · replace h := h.2 z
    refine gx_aload_n 0 dX8_least_7 rfl rfl ?_
    refine gx_getr 8 0 (v := 21) dX8_least_8 fl_X8_9 rfl rfl rfl ?_
    refine gx_iconst (v := 0) dX8_least_11 (by decide) ?_
    refine gx_iald (v := (I 21 0)) dX8_least_12 rfl rfl (gm_vin rfl) (k := 0) rfl rfl ?_
    refine gx_goto 17 dX8_least_13 (by decide) ?_
    refine gx_istore_n (lv' := [(0, .ref 20), (1, .int (I 21 0))]) dX8_least_17 rfl rfl rfl ?_
    refine gx_iconst (v := 1) dX8_least_18 (by decide) ?_
    refine gx_istore_n (lv' := [(0, .ref 20), (1, .int (I 21 0)), (2, .int 1)]) dX8_least_19 rfl rfl rfl ?_
    exact h
set_option maxRecDepth 100000 in
theorem r_Sh20_least_20 {g : gm_G} {Q : Int32 → mI → mL → gm_cfg → Prop} {x1 x2 : Int32} {I : mI} {L : mL} {c : gm_cfg} (h : (((I 20 2) ≤ x2 → Q x1 I L c) ∧ (¬ (I 20 2) ≤ x2 → (vp_in x2 40 ∧ Z_Sh20_least g Q 20 [(0, .ref 20), (1, .int ((if (I 21 (Int32.toNatClampNeg x2)) < x1 then (I 21 (Int32.toNatClampNeg x2)) else x1) : Int32)), (2, .int (x2 + 1))] [] I L c)))) : Z_Sh20_least g Q 20 [(0, .ref 20), (1, .int x1), (2, .int x2)] [] I L c := by
  refine gx_iload_n 2 dX8_least_20 rfl rfl ?_
  refine gx_aload_n 0 dX8_least_21 rfl rfl ?_
  refine gx_geti 8 2 (v := (I 20 2)) dX8_least_22 fl_X8_24 rfl rfl rfl ?_
  refine gx_icmp_ge 45 dX8_least_25 (by decide) ⟨fun z => ?_, fun z => ?_⟩
  · replace h := h.1 z
    refine gx_iload_n 1 dX8_least_45 rfl rfl ?_
    exact gx_iret dX8_least_46 rfl rfl rfl ⟨_, _, _, _, rfl, rfl, h⟩
  · replace h := h.2 z
    refine gx_iload_n 1 dX8_least_28 rfl rfl ?_
    refine gx_aload_n 0 dX8_least_29 rfl rfl ?_
    refine gx_getr 8 0 (v := 21) dX8_least_30 fl_X8_9 rfl rfl rfl ?_
    refine gx_iload_n 2 dX8_least_33 rfl rfl ?_
    obtain ⟨hi, h⟩ := h
    refine gx_iald (v := (I 21 (Int32.toNatClampNeg x2))) dX8_least_34 rfl rfl hi (k := (Int32.toNatClampNeg x2)) rfl rfl ?_
    refine gx_mmin dX8_least_35 ml_X8_37 mw_min rfl rfl rfl rfl ?_
    refine gx_istore_n (lv' := [(0, .ref 20), (1, .int ((if (I 21 (Int32.toNatClampNeg x2)) < x1 then (I 21 (Int32.toNatClampNeg x2)) else x1) : Int32)), (2, .int x2)]) dX8_least_38 rfl rfl rfl ?_
    refine gx_iinc (v := (x2 + 1)) (lv' := [(0, .ref 20), (1, .int ((if (I 21 (Int32.toNatClampNeg x2)) < x1 then (I 21 (Int32.toNatClampNeg x2)) else x1) : Int32)), (2, .int (x2 + 1))]) 2 dX8_least_39 rfl rfl rfl rfl ?_
    refine gx_goto 20 dX8_least_42 (by decide) ?_
    exact h
abbrev Z_Sh20_greatest (g : gm_G) (Q : Int32 → mI → mL → gm_cfg → Prop) (pc : Nat) (lv : List (Nat × Value)) (st : List Value) (I : mI) (L : mL) (c : gm_cfg) : Prop := gm_X g RX8 "greatest" cX8_greatest 3 (some .int) 1 0 0 (qI Q) 0 0 pc lv st (SH, I, L, RR c)
abbrev C_Sh20_greatest (g : gm_G) (I : mI) (L : mL) (c : gm_cfg) (Q : Int32 → mI → mL → gm_cfg → Prop) : Prop := gm_Met g yX8_greatest cX8_greatest 3 (some .int) 1 0 0 [.ref 20] (SH, I, L, RR c) (qI Q)
set_option maxRecDepth 100000 in
theorem e_Sh20_greatest {g : gm_G} {Q : Int32 → mI → mL → gm_cfg → Prop} {I : mI} {L : mL} {c : gm_cfg} (h : Z_Sh20_greatest g Q 4 [(0, .ref 20), (1, .int (-1)), (2, .int 0)] [] I L c) : C_Sh20_greatest g  I L c Q := by
  refine gm_enter (lv := [(0, .ref 20)]) (by decide) rfl rfl rfl rfl ?_
  show Z_Sh20_greatest g Q 0 [(0, .ref 20)] [] I L c
  refine gx_iconst (v := (-1)) dX8_greatest_0 (by decide) ?_
  refine gx_istore_n (lv' := [(0, .ref 20), (1, .int (-1))]) dX8_greatest_1 rfl rfl rfl ?_
  refine gx_iconst (v := 0) dX8_greatest_2 (by decide) ?_
  refine gx_istore_n (lv' := [(0, .ref 20), (1, .int (-1)), (2, .int 0)]) dX8_greatest_3 rfl rfl rfl ?_
  exact h
set_option maxRecDepth 100000 in
theorem r_Sh20_greatest_4 {g : gm_G} {Q : Int32 → mI → mL → gm_cfg → Prop} {x1 x2 : Int32} {I : mI} {L : mL} {c : gm_cfg} (h : (((I 20 2) ≤ x2 → Q x1 I L c) ∧ (¬ (I 20 2) ≤ x2 → (vp_in x2 40 ∧ Z_Sh20_greatest g Q 4 [(0, .ref 20), (1, .int ((if x1 < (I 21 (Int32.toNatClampNeg x2)) then (I 21 (Int32.toNatClampNeg x2)) else x1) : Int32)), (2, .int (x2 + 1))] [] I L c)))) : Z_Sh20_greatest g Q 4 [(0, .ref 20), (1, .int x1), (2, .int x2)] [] I L c := by
  refine gx_iload_n 2 dX8_greatest_4 rfl rfl ?_
  refine gx_aload_n 0 dX8_greatest_5 rfl rfl ?_
  refine gx_geti 8 2 (v := (I 20 2)) dX8_greatest_6 fl_X8_24 rfl rfl rfl ?_
  refine gx_icmp_ge 29 dX8_greatest_9 (by decide) ⟨fun z => ?_, fun z => ?_⟩
  · replace h := h.1 z
    refine gx_iload_n 1 dX8_greatest_29 rfl rfl ?_
    exact gx_iret dX8_greatest_30 rfl rfl rfl ⟨_, _, _, _, rfl, rfl, h⟩
  · replace h := h.2 z
    refine gx_iload_n 1 dX8_greatest_12 rfl rfl ?_
    refine gx_aload_n 0 dX8_greatest_13 rfl rfl ?_
    refine gx_getr 8 0 (v := 21) dX8_greatest_14 fl_X8_9 rfl rfl rfl ?_
    refine gx_iload_n 2 dX8_greatest_17 rfl rfl ?_
    obtain ⟨hi, h⟩ := h
    refine gx_iald (v := (I 21 (Int32.toNatClampNeg x2))) dX8_greatest_18 rfl rfl hi (k := (Int32.toNatClampNeg x2)) rfl rfl ?_
    refine gx_mmax dX8_greatest_19 ml_X8_41 mw_max rfl rfl rfl rfl ?_
    refine gx_istore_n (lv' := [(0, .ref 20), (1, .int ((if x1 < (I 21 (Int32.toNatClampNeg x2)) then (I 21 (Int32.toNatClampNeg x2)) else x1) : Int32)), (2, .int x2)]) dX8_greatest_22 rfl rfl rfl ?_
    refine gx_iinc (v := (x2 + 1)) (lv' := [(0, .ref 20), (1, .int ((if x1 < (I 21 (Int32.toNatClampNeg x2)) then (I 21 (Int32.toNatClampNeg x2)) else x1) : Int32)), (2, .int (x2 + 1))]) 2 dX8_greatest_23 rfl rfl rfl rfl ?_
    refine gx_goto 4 dX8_greatest_26 (by decide) ?_
    exact h
abbrev Z_Of_start (g : gm_G) (Q : mI → mL → gm_cfg → Prop) (pc : Nat) (lv : List (Nat × Value)) (st : List Value) (I : mI) (L : mL) (c : gm_cfg) : Prop := gm_X g RX3 "start" cX3_start 2 none 1 0 0 (qV Q) 0 0 pc lv st (SH, I, L, RR c)
abbrev C_Of_start (g : gm_G) (x1 : Int32) (I : mI) (L : mL) (c : gm_cfg) (Q : mI → mL → gm_cfg → Prop) : Prop := gm_Met g yX3_start cX3_start 2 none 1 0 0 [.ref 11, .int x1] (SH, I, L, RR c) (qV Q)
set_option maxRecDepth 100000 in
theorem e_Of_start_ab {g : gm_G} {Q : mI → mL → gm_cfg → Prop} {x1 : Int32} {I : mI} {L : mL} {t : Option Nat} (h : Q (gm_u (gm_u I 11 1 ((if 0 < ((if x1 < 20 then x1 else 20) : Int32) then ((if x1 < 20 then x1 else 20) : Int32) else 0) : Int32)) 11 2 0) (gm_u (gm_u L 11 0 1) 12 0 1) ((some 12), (some 13), t)) : C_Of_start g x1 I L ((some 12), (some 13), t) Q := by
  refine gm_enter (lv := [(0, .ref 11), (1, .int x1)]) (by decide) rfl rfl rfl rfl ?_
  show Z_Of_start g Q 0 [(0, .ref 11), (1, .int x1)] [] I L ((some 12), (some 13), t)
  refine gx_aload_n 0 dX3_start_0 rfl rfl ?_
  refine gx_iconst (v := 0) dX3_start_1 (by decide) ?_
  refine gx_bipush (v := 20) dX3_start_2 (by decide) ?_
  refine gx_iload_n 1 dX3_start_4 rfl rfl ?_
  refine gx_mmin dX3_start_5 ml_X3_18 mw_min rfl rfl rfl rfl ?_
  refine gx_mmax dX3_start_8 ml_X3_24 mw_max rfl rfl rfl rfl ?_
  refine gx_puti 3 1 dX3_start_11 fl_X3_27 rfl rfl rfl ⟨rfl, rfl⟩ ?_
  show Z_Of_start g Q 14 [(0, .ref 11), (1, .int x1)] [] (gm_u I 11 1 ((if 0 < ((if x1 < 20 then x1 else 20) : Int32) then ((if x1 < 20 then x1 else 20) : Int32) else 0) : Int32)) L ((some 12), (some 13), t)
  refine gx_aload_n 0 dX3_start_14 rfl rfl ?_
  refine gx_iconst (v := 0) dX3_start_15 (by decide) ?_
  refine gx_puti 3 2 dX3_start_16 fl_X3_31 rfl rfl rfl ⟨rfl, rfl⟩ ?_
  show Z_Of_start g Q 19 [(0, .ref 11), (1, .int x1)] [] (gm_u (gm_u I 11 1 ((if 0 < ((if x1 < 20 then x1 else 20) : Int32) then ((if x1 < 20 then x1 else 20) : Int32) else 0) : Int32)) 11 2 0) L ((some 12), (some 13), t)
  refine gx_aload_n 0 dX3_start_19 rfl rfl ?_
  refine gx_lconst (v := 1) dX3_start_20 (by decide) ?_
  refine gx_putl 3 0 dX3_start_21 fl_X3_34 rfl rfl rfl ⟨rfl, rfl⟩ ?_
  show Z_Of_start g Q 24 [(0, .ref 11), (1, .int x1)] [] (gm_u (gm_u I 11 1 ((if 0 < ((if x1 < 20 then x1 else 20) : Int32) then ((if x1 < 20 then x1 else 20) : Int32) else 0) : Int32)) 11 2 0) (gm_u L 11 0 1) ((some 12), (some 13), t)
  refine gx_aload_n 0 dX3_start_24 rfl rfl ?_
  refine gx_getr 3 3 (v := 12) dX3_start_25 fl_X3_11 rfl rfl rfl ?_
  refine gx_iconst (v := 0) dX3_start_28 (by decide) ?_
  refine gx_lconst (v := 1) dX3_start_29 (by decide) ?_
  refine gx_last dX3_start_30 rfl rfl (gm_vin rfl) (k := 0) rfl ?_
  show Z_Of_start g Q 31 [(0, .ref 11), (1, .int x1)] [] (gm_u (gm_u I 11 1 ((if 0 < ((if x1 < 20 then x1 else 20) : Int32) then ((if x1 < 20 then x1 else 20) : Int32) else 0) : Int32)) 11 2 0) (gm_u (gm_u L 11 0 1) 12 0 1) ((some 12), (some 13), t)
  exact gx_vret dX3_start_31 rfl rfl rfl ⟨_, _, _, rfl, rfl, h⟩
set_option maxRecDepth 100000 in
theorem e_Of_start_ba {g : gm_G} {Q : mI → mL → gm_cfg → Prop} {x1 : Int32} {I : mI} {L : mL} {t : Option Nat} (h : Q (gm_u (gm_u I 11 1 ((if 0 < ((if x1 < 20 then x1 else 20) : Int32) then ((if x1 < 20 then x1 else 20) : Int32) else 0) : Int32)) 11 2 0) (gm_u (gm_u L 11 0 1) 13 0 1) ((some 13), (some 12), t)) : C_Of_start g x1 I L ((some 13), (some 12), t) Q := by
  refine gm_enter (lv := [(0, .ref 11), (1, .int x1)]) (by decide) rfl rfl rfl rfl ?_
  show Z_Of_start g Q 0 [(0, .ref 11), (1, .int x1)] [] I L ((some 13), (some 12), t)
  refine gx_aload_n 0 dX3_start_0 rfl rfl ?_
  refine gx_iconst (v := 0) dX3_start_1 (by decide) ?_
  refine gx_bipush (v := 20) dX3_start_2 (by decide) ?_
  refine gx_iload_n 1 dX3_start_4 rfl rfl ?_
  refine gx_mmin dX3_start_5 ml_X3_18 mw_min rfl rfl rfl rfl ?_
  refine gx_mmax dX3_start_8 ml_X3_24 mw_max rfl rfl rfl rfl ?_
  refine gx_puti 3 1 dX3_start_11 fl_X3_27 rfl rfl rfl ⟨rfl, rfl⟩ ?_
  show Z_Of_start g Q 14 [(0, .ref 11), (1, .int x1)] [] (gm_u I 11 1 ((if 0 < ((if x1 < 20 then x1 else 20) : Int32) then ((if x1 < 20 then x1 else 20) : Int32) else 0) : Int32)) L ((some 13), (some 12), t)
  refine gx_aload_n 0 dX3_start_14 rfl rfl ?_
  refine gx_iconst (v := 0) dX3_start_15 (by decide) ?_
  refine gx_puti 3 2 dX3_start_16 fl_X3_31 rfl rfl rfl ⟨rfl, rfl⟩ ?_
  show Z_Of_start g Q 19 [(0, .ref 11), (1, .int x1)] [] (gm_u (gm_u I 11 1 ((if 0 < ((if x1 < 20 then x1 else 20) : Int32) then ((if x1 < 20 then x1 else 20) : Int32) else 0) : Int32)) 11 2 0) L ((some 13), (some 12), t)
  refine gx_aload_n 0 dX3_start_19 rfl rfl ?_
  refine gx_lconst (v := 1) dX3_start_20 (by decide) ?_
  refine gx_putl 3 0 dX3_start_21 fl_X3_34 rfl rfl rfl ⟨rfl, rfl⟩ ?_
  show Z_Of_start g Q 24 [(0, .ref 11), (1, .int x1)] [] (gm_u (gm_u I 11 1 ((if 0 < ((if x1 < 20 then x1 else 20) : Int32) then ((if x1 < 20 then x1 else 20) : Int32) else 0) : Int32)) 11 2 0) (gm_u L 11 0 1) ((some 13), (some 12), t)
  refine gx_aload_n 0 dX3_start_24 rfl rfl ?_
  refine gx_getr 3 3 (v := 13) dX3_start_25 fl_X3_11 rfl rfl rfl ?_
  refine gx_iconst (v := 0) dX3_start_28 (by decide) ?_
  refine gx_lconst (v := 1) dX3_start_29 (by decide) ?_
  refine gx_last dX3_start_30 rfl rfl (gm_vin rfl) (k := 0) rfl ?_
  show Z_Of_start g Q 31 [(0, .ref 11), (1, .int x1)] [] (gm_u (gm_u I 11 1 ((if 0 < ((if x1 < 20 then x1 else 20) : Int32) then ((if x1 < 20 then x1 else 20) : Int32) else 0) : Int32)) 11 2 0) (gm_u (gm_u L 11 0 1) 13 0 1) ((some 13), (some 12), t)
  exact gx_vret dX3_start_31 rfl rfl rfl ⟨_, _, _, rfl, rfl, h⟩
abbrev Z_Of_within (g : gm_G) (Q : Int64 → mI → mL → gm_cfg → Prop) (pc : Nat) (lv : List (Nat × Value)) (st : List Value) (I : mI) (L : mL) (c : gm_cfg) : Prop := gm_X g RX3 "within" cX3_within 6 (some .long) 1 0 0 (qL Q) 0 0 pc lv st (SH, I, L, RR c)
abbrev C_Of_within (g : gm_G) (x1 : Int32) (I : mI) (L : mL) (c : gm_cfg) (Q : Int64 → mI → mL → gm_cfg → Prop) : Prop := gm_Met g yX3_within cX3_within 6 (some .long) 1 0 0 [.ref 11, .int x1] (SH, I, L, RR c) (qL Q)
set_option maxRecDepth 100000 in
theorem e_Of_within_ab {g : gm_G} {Q : Int64 → mI → mL → gm_cfg → Prop} {x1 : Int32} {I : mI} {L : mL} {t : Option Nat} (h : Z_Of_within g Q 21 [(0, .ref 11), (1, .int x1), (2, .int ((I 11 1) * (I 11 2))), (3, .long 0), (5, .int ((if 0 < (((I 11 1) * (I 11 2)) - x1) then (((I 11 1) * (I 11 2)) - x1) else 0) : Int32))] [] I L ((some 12), (some 13), t)) : C_Of_within g x1 I L ((some 12), (some 13), t) Q := by
  refine gm_enter (lv := [(0, .ref 11), (1, .int x1)]) (by decide) rfl rfl rfl rfl ?_
  show Z_Of_within g Q 0 [(0, .ref 11), (1, .int x1)] [] I L ((some 12), (some 13), t)
  refine gx_aload_n 0 dX3_within_0 rfl rfl ?_
  refine gx_geti 3 1 (v := (I 11 1)) dX3_within_1 fl_X3_27 rfl rfl rfl ?_
  refine gx_aload_n 0 dX3_within_4 rfl rfl ?_
  refine gx_geti 3 2 (v := (I 11 2)) dX3_within_5 fl_X3_31 rfl rfl rfl ?_
  refine gx_imul dX3_within_8 ?_
  refine gx_istore_n (lv' := [(0, .ref 11), (1, .int x1), (2, .int ((I 11 1) * (I 11 2)))]) dX3_within_9 rfl rfl rfl ?_
  refine gx_lconst (v := 0) dX3_within_10 (by decide) ?_
  refine gx_lstore_n (lv' := [(0, .ref 11), (1, .int x1), (2, .int ((I 11 1) * (I 11 2))), (3, .long 0)]) dX3_within_11 rfl rfl rfl ?_
  refine gx_iconst (v := 0) dX3_within_12 (by decide) ?_
  refine gx_iload_n 2 dX3_within_13 rfl rfl ?_
  refine gx_iload_n 1 dX3_within_14 rfl rfl ?_
  refine gx_isub dX3_within_15 ?_
  refine gx_mmax dX3_within_16 ml_X3_24 mw_max rfl rfl rfl rfl ?_
  refine gx_istore (lv' := [(0, .ref 11), (1, .int x1), (2, .int ((I 11 1) * (I 11 2))), (3, .long 0), (5, .int ((if 0 < (((I 11 1) * (I 11 2)) - x1) then (((I 11 1) * (I 11 2)) - x1) else 0) : Int32))]) dX3_within_19 rfl rfl ?_
  exact h
set_option maxRecDepth 100000 in
theorem e_Of_within_ba {g : gm_G} {Q : Int64 → mI → mL → gm_cfg → Prop} {x1 : Int32} {I : mI} {L : mL} {t : Option Nat} (h : Z_Of_within g Q 21 [(0, .ref 11), (1, .int x1), (2, .int ((I 11 1) * (I 11 2))), (3, .long 0), (5, .int ((if 0 < (((I 11 1) * (I 11 2)) - x1) then (((I 11 1) * (I 11 2)) - x1) else 0) : Int32))] [] I L ((some 13), (some 12), t)) : C_Of_within g x1 I L ((some 13), (some 12), t) Q := by
  refine gm_enter (lv := [(0, .ref 11), (1, .int x1)]) (by decide) rfl rfl rfl rfl ?_
  show Z_Of_within g Q 0 [(0, .ref 11), (1, .int x1)] [] I L ((some 13), (some 12), t)
  refine gx_aload_n 0 dX3_within_0 rfl rfl ?_
  refine gx_geti 3 1 (v := (I 11 1)) dX3_within_1 fl_X3_27 rfl rfl rfl ?_
  refine gx_aload_n 0 dX3_within_4 rfl rfl ?_
  refine gx_geti 3 2 (v := (I 11 2)) dX3_within_5 fl_X3_31 rfl rfl rfl ?_
  refine gx_imul dX3_within_8 ?_
  refine gx_istore_n (lv' := [(0, .ref 11), (1, .int x1), (2, .int ((I 11 1) * (I 11 2)))]) dX3_within_9 rfl rfl rfl ?_
  refine gx_lconst (v := 0) dX3_within_10 (by decide) ?_
  refine gx_lstore_n (lv' := [(0, .ref 11), (1, .int x1), (2, .int ((I 11 1) * (I 11 2))), (3, .long 0)]) dX3_within_11 rfl rfl rfl ?_
  refine gx_iconst (v := 0) dX3_within_12 (by decide) ?_
  refine gx_iload_n 2 dX3_within_13 rfl rfl ?_
  refine gx_iload_n 1 dX3_within_14 rfl rfl ?_
  refine gx_isub dX3_within_15 ?_
  refine gx_mmax dX3_within_16 ml_X3_24 mw_max rfl rfl rfl rfl ?_
  refine gx_istore (lv' := [(0, .ref 11), (1, .int x1), (2, .int ((I 11 1) * (I 11 2))), (3, .long 0), (5, .int ((if 0 < (((I 11 1) * (I 11 2)) - x1) then (((I 11 1) * (I 11 2)) - x1) else 0) : Int32))]) dX3_within_19 rfl rfl ?_
  exact h
set_option maxRecDepth 100000 in
theorem r_Of_within_21_ab {g : gm_G} {Q : Int64 → mI → mL → gm_cfg → Prop} {x1 x2 x5 : Int32} {x3 : Int64} {I : mI} {L : mL} {t : Option Nat} (h : ((((if (x2 + x1) < (2 * x2) then (x2 + x1) else (2 * x2)) : Int32) < x5 → Q x3 I L ((some 12), (some 13), t)) ∧ (¬ ((if (x2 + x1) < (2 * x2) then (x2 + x1) else (2 * x2)) : Int32) < x5 → ((321 ≤ x5 → Q x3 I L ((some 12), (some 13), t)) ∧ (¬ 321 ≤ x5 → (vp_in x5 321 ∧ Z_Of_within g Q 21 [(0, .ref 11), (1, .int x1), (2, .int x2), (3, .long (x3 + (L 12 (Int32.toNatClampNeg x5)))), (5, .int (x5 + 1))] [] I L ((some 12), (some 13), t))))))) : Z_Of_within g Q 21 [(0, .ref 11), (1, .int x1), (2, .int x2), (3, .long x3), (5, .int x5)] [] I L ((some 12), (some 13), t) := by
  refine gx_iload 4 dX3_within_21 rfl ?_
  refine gx_iconst (v := 2) dX3_within_23 (by decide) ?_
  refine gx_iload_n 2 dX3_within_24 rfl rfl ?_
  refine gx_imul dX3_within_25 ?_
  refine gx_iload_n 2 dX3_within_26 rfl rfl ?_
  refine gx_iload_n 1 dX3_within_27 rfl rfl ?_
  refine gx_iadd dX3_within_28 ?_
  refine gx_mmin dX3_within_29 ml_X3_18 mw_min rfl rfl rfl rfl ?_
  refine gx_icmp_gt 59 dX3_within_32 (by decide) ⟨fun z => ?_, fun z => ?_⟩
  · replace h := h.1 z
    refine gx_lload_n 3 dX3_within_59 rfl rfl ?_
    exact gx_lret dX3_within_60 rfl rfl rfl ⟨_, _, _, _, rfl, rfl, h⟩
  · replace h := h.2 z
    refine gx_iload 4 dX3_within_35 rfl ?_
    refine gx_sipush (v := 321) dX3_within_37 (by decide) ?_
    refine gx_icmp_ge 59 dX3_within_40 (by decide) ⟨fun z => ?_, fun z => ?_⟩
    · replace h := h.1 z
      refine gx_lload_n 3 dX3_within_59 rfl rfl ?_
      exact gx_lret dX3_within_60 rfl rfl rfl ⟨_, _, _, _, rfl, rfl, h⟩
    · replace h := h.2 z
      refine gx_lload_n 3 dX3_within_43 rfl rfl ?_
      refine gx_aload_n 0 dX3_within_44 rfl rfl ?_
      refine gx_getr 3 3 (v := 12) dX3_within_45 fl_X3_11 rfl rfl rfl ?_
      refine gx_iload 4 dX3_within_48 rfl ?_
      obtain ⟨hi, h⟩ := h
      refine gx_lald (v := (L 12 (Int32.toNatClampNeg x5))) dX3_within_50 rfl rfl hi (k := (Int32.toNatClampNeg x5)) rfl rfl ?_
      refine gx_ladd dX3_within_51 ?_
      refine gx_lstore_n (lv' := [(0, .ref 11), (1, .int x1), (2, .int x2), (3, .long (x3 + (L 12 (Int32.toNatClampNeg x5)))), (5, .int x5)]) dX3_within_52 rfl rfl rfl ?_
      refine gx_iinc (v := (x5 + 1)) (lv' := [(0, .ref 11), (1, .int x1), (2, .int x2), (3, .long (x3 + (L 12 (Int32.toNatClampNeg x5)))), (5, .int (x5 + 1))]) 4 dX3_within_53 rfl rfl rfl rfl ?_
      refine gx_goto 21 dX3_within_56 (by decide) ?_
      exact h
set_option maxRecDepth 100000 in
theorem r_Of_within_21_ba {g : gm_G} {Q : Int64 → mI → mL → gm_cfg → Prop} {x1 x2 x5 : Int32} {x3 : Int64} {I : mI} {L : mL} {t : Option Nat} (h : ((((if (x2 + x1) < (2 * x2) then (x2 + x1) else (2 * x2)) : Int32) < x5 → Q x3 I L ((some 13), (some 12), t)) ∧ (¬ ((if (x2 + x1) < (2 * x2) then (x2 + x1) else (2 * x2)) : Int32) < x5 → ((321 ≤ x5 → Q x3 I L ((some 13), (some 12), t)) ∧ (¬ 321 ≤ x5 → (vp_in x5 321 ∧ Z_Of_within g Q 21 [(0, .ref 11), (1, .int x1), (2, .int x2), (3, .long (x3 + (L 13 (Int32.toNatClampNeg x5)))), (5, .int (x5 + 1))] [] I L ((some 13), (some 12), t))))))) : Z_Of_within g Q 21 [(0, .ref 11), (1, .int x1), (2, .int x2), (3, .long x3), (5, .int x5)] [] I L ((some 13), (some 12), t) := by
  refine gx_iload 4 dX3_within_21 rfl ?_
  refine gx_iconst (v := 2) dX3_within_23 (by decide) ?_
  refine gx_iload_n 2 dX3_within_24 rfl rfl ?_
  refine gx_imul dX3_within_25 ?_
  refine gx_iload_n 2 dX3_within_26 rfl rfl ?_
  refine gx_iload_n 1 dX3_within_27 rfl rfl ?_
  refine gx_iadd dX3_within_28 ?_
  refine gx_mmin dX3_within_29 ml_X3_18 mw_min rfl rfl rfl rfl ?_
  refine gx_icmp_gt 59 dX3_within_32 (by decide) ⟨fun z => ?_, fun z => ?_⟩
  · replace h := h.1 z
    refine gx_lload_n 3 dX3_within_59 rfl rfl ?_
    exact gx_lret dX3_within_60 rfl rfl rfl ⟨_, _, _, _, rfl, rfl, h⟩
  · replace h := h.2 z
    refine gx_iload 4 dX3_within_35 rfl ?_
    refine gx_sipush (v := 321) dX3_within_37 (by decide) ?_
    refine gx_icmp_ge 59 dX3_within_40 (by decide) ⟨fun z => ?_, fun z => ?_⟩
    · replace h := h.1 z
      refine gx_lload_n 3 dX3_within_59 rfl rfl ?_
      exact gx_lret dX3_within_60 rfl rfl rfl ⟨_, _, _, _, rfl, rfl, h⟩
    · replace h := h.2 z
      refine gx_lload_n 3 dX3_within_43 rfl rfl ?_
      refine gx_aload_n 0 dX3_within_44 rfl rfl ?_
      refine gx_getr 3 3 (v := 13) dX3_within_45 fl_X3_11 rfl rfl rfl ?_
      refine gx_iload 4 dX3_within_48 rfl ?_
      obtain ⟨hi, h⟩ := h
      refine gx_lald (v := (L 13 (Int32.toNatClampNeg x5))) dX3_within_50 rfl rfl hi (k := (Int32.toNatClampNeg x5)) rfl rfl ?_
      refine gx_ladd dX3_within_51 ?_
      refine gx_lstore_n (lv' := [(0, .ref 11), (1, .int x1), (2, .int x2), (3, .long (x3 + (L 13 (Int32.toNatClampNeg x5)))), (5, .int x5)]) dX3_within_52 rfl rfl rfl ?_
      refine gx_iinc (v := (x5 + 1)) (lv' := [(0, .ref 11), (1, .int x1), (2, .int x2), (3, .long (x3 + (L 13 (Int32.toNatClampNeg x5)))), (5, .int (x5 + 1))]) 4 dX3_within_53 rfl rfl rfl rfl ?_
      refine gx_goto 21 dX3_within_56 (by decide) ?_
      exact h
abbrev Z_Of_addOne (g : gm_G) (Q : mI → mL → gm_cfg → Prop) (pc : Nat) (lv : List (Nat × Value)) (st : List Value) (I : mI) (L : mL) (c : gm_cfg) : Prop := gm_X g RX3 "addOne" cX3_addOne 6 none 1 0 0 (qV Q) 0 0 pc lv st (SH, I, L, RR c)
abbrev C_Of_addOne (g : gm_G) (I : mI) (L : mL) (c : gm_cfg) (Q : mI → mL → gm_cfg → Prop) : Prop := gm_Met g yX3_addOne cX3_addOne 6 none 1 0 0 [.ref 11] (SH, I, L, RR c) (qV Q)
set_option maxRecDepth 100000 in
theorem e_Of_addOne_ab {g : gm_G} {Q : mI → mL → gm_cfg → Prop} {I : mI} {L : mL} {t : Option Nat} (h : (((I 11 2) < 8 → Z_Of_addOne g Q 34 [(0, .ref 11), (1, .int ((2 * (I 11 1)) * (I 11 2))), (2, .int (2 * (I 11 1))), (3, .long 0), (5, .int 0)] [] I L ((some 12), (some 13), t)) ∧ (¬ (I 11 2) < 8 → Q I L ((some 12), (some 13), t)))) : C_Of_addOne g  I L ((some 12), (some 13), t) Q := by
  refine gm_enter (lv := [(0, .ref 11)]) (by decide) rfl rfl rfl rfl ?_
  show Z_Of_addOne g Q 0 [(0, .ref 11)] [] I L ((some 12), (some 13), t)
  refine gx_aload_n 0 dX3_addOne_0 rfl rfl ?_
  refine gx_geti 3 2 (v := (I 11 2)) dX3_addOne_1 fl_X3_31 rfl rfl rfl ?_
  refine gx_bipush (v := 8) dX3_addOne_4 (by decide) ?_
  refine gx_icmp_lt 10 dX3_addOne_6 (by decide) ⟨fun z => ?_, fun z => ?_⟩
  · replace h := h.1 z
    refine gx_iconst (v := 2) dX3_addOne_10 (by decide) ?_
    refine gx_aload_n 0 dX3_addOne_11 rfl rfl ?_
    refine gx_geti 3 1 (v := (I 11 1)) dX3_addOne_12 fl_X3_27 rfl rfl rfl ?_
    refine gx_imul dX3_addOne_15 ?_
    refine gx_aload_n 0 dX3_addOne_16 rfl rfl ?_
    refine gx_geti 3 2 (v := (I 11 2)) dX3_addOne_17 fl_X3_31 rfl rfl rfl ?_
    refine gx_imul dX3_addOne_20 ?_
    refine gx_istore_n (lv' := [(0, .ref 11), (1, .int ((2 * (I 11 1)) * (I 11 2)))]) dX3_addOne_21 rfl rfl rfl ?_
    refine gx_iconst (v := 2) dX3_addOne_22 (by decide) ?_
    refine gx_aload_n 0 dX3_addOne_23 rfl rfl ?_
    refine gx_geti 3 1 (v := (I 11 1)) dX3_addOne_24 fl_X3_27 rfl rfl rfl ?_
    refine gx_imul dX3_addOne_27 ?_
    refine gx_istore_n (lv' := [(0, .ref 11), (1, .int ((2 * (I 11 1)) * (I 11 2))), (2, .int (2 * (I 11 1)))]) dX3_addOne_28 rfl rfl rfl ?_
    refine gx_lconst (v := 0) dX3_addOne_29 (by decide) ?_
    refine gx_lstore_n (lv' := [(0, .ref 11), (1, .int ((2 * (I 11 1)) * (I 11 2))), (2, .int (2 * (I 11 1))), (3, .long 0)]) dX3_addOne_30 rfl rfl rfl ?_
    refine gx_iconst (v := 0) dX3_addOne_31 (by decide) ?_
    refine gx_istore (lv' := [(0, .ref 11), (1, .int ((2 * (I 11 1)) * (I 11 2))), (2, .int (2 * (I 11 1))), (3, .long 0), (5, .int 0)]) dX3_addOne_32 rfl rfl ?_
    exact h
  · replace h := h.2 z
    exact gx_vret dX3_addOne_9 rfl rfl rfl ⟨_, _, _, rfl, rfl, h⟩
set_option maxRecDepth 100000 in
theorem e_Of_addOne_ba {g : gm_G} {Q : mI → mL → gm_cfg → Prop} {I : mI} {L : mL} {t : Option Nat} (h : (((I 11 2) < 8 → Z_Of_addOne g Q 34 [(0, .ref 11), (1, .int ((2 * (I 11 1)) * (I 11 2))), (2, .int (2 * (I 11 1))), (3, .long 0), (5, .int 0)] [] I L ((some 13), (some 12), t)) ∧ (¬ (I 11 2) < 8 → Q I L ((some 13), (some 12), t)))) : C_Of_addOne g  I L ((some 13), (some 12), t) Q := by
  refine gm_enter (lv := [(0, .ref 11)]) (by decide) rfl rfl rfl rfl ?_
  show Z_Of_addOne g Q 0 [(0, .ref 11)] [] I L ((some 13), (some 12), t)
  refine gx_aload_n 0 dX3_addOne_0 rfl rfl ?_
  refine gx_geti 3 2 (v := (I 11 2)) dX3_addOne_1 fl_X3_31 rfl rfl rfl ?_
  refine gx_bipush (v := 8) dX3_addOne_4 (by decide) ?_
  refine gx_icmp_lt 10 dX3_addOne_6 (by decide) ⟨fun z => ?_, fun z => ?_⟩
  · replace h := h.1 z
    refine gx_iconst (v := 2) dX3_addOne_10 (by decide) ?_
    refine gx_aload_n 0 dX3_addOne_11 rfl rfl ?_
    refine gx_geti 3 1 (v := (I 11 1)) dX3_addOne_12 fl_X3_27 rfl rfl rfl ?_
    refine gx_imul dX3_addOne_15 ?_
    refine gx_aload_n 0 dX3_addOne_16 rfl rfl ?_
    refine gx_geti 3 2 (v := (I 11 2)) dX3_addOne_17 fl_X3_31 rfl rfl rfl ?_
    refine gx_imul dX3_addOne_20 ?_
    refine gx_istore_n (lv' := [(0, .ref 11), (1, .int ((2 * (I 11 1)) * (I 11 2)))]) dX3_addOne_21 rfl rfl rfl ?_
    refine gx_iconst (v := 2) dX3_addOne_22 (by decide) ?_
    refine gx_aload_n 0 dX3_addOne_23 rfl rfl ?_
    refine gx_geti 3 1 (v := (I 11 1)) dX3_addOne_24 fl_X3_27 rfl rfl rfl ?_
    refine gx_imul dX3_addOne_27 ?_
    refine gx_istore_n (lv' := [(0, .ref 11), (1, .int ((2 * (I 11 1)) * (I 11 2))), (2, .int (2 * (I 11 1)))]) dX3_addOne_28 rfl rfl rfl ?_
    refine gx_lconst (v := 0) dX3_addOne_29 (by decide) ?_
    refine gx_lstore_n (lv' := [(0, .ref 11), (1, .int ((2 * (I 11 1)) * (I 11 2))), (2, .int (2 * (I 11 1))), (3, .long 0)]) dX3_addOne_30 rfl rfl rfl ?_
    refine gx_iconst (v := 0) dX3_addOne_31 (by decide) ?_
    refine gx_istore (lv' := [(0, .ref 11), (1, .int ((2 * (I 11 1)) * (I 11 2))), (2, .int (2 * (I 11 1))), (3, .long 0), (5, .int 0)]) dX3_addOne_32 rfl rfl ?_
    exact h
  · replace h := h.2 z
    exact gx_vret dX3_addOne_9 rfl rfl rfl ⟨_, _, _, rfl, rfl, h⟩
set_option maxRecDepth 100000 in
theorem r_Of_addOne_34_ab {g : gm_G} {Q : mI → mL → gm_cfg → Prop} {x1 x2 x5 : Int32} {x3 : Int64} {I : mI} {L : mL} {t : Option Nat} (h : (((x1 + x2) < x5 → Q (gm_u I 11 2 ((I 11 2) + 1)) (gm_u L 11 0 ((L 11 0) * (Int32.toInt64 (x2 + 1)))) ((some 13), (some 12), t)) ∧ (¬ (x1 + x2) < x5 → ((321 ≤ x5 → Q (gm_u I 11 2 ((I 11 2) + 1)) (gm_u L 11 0 ((L 11 0) * (Int32.toInt64 (x2 + 1)))) ((some 13), (some 12), t)) ∧ (¬ 321 ≤ x5 → ((x1 < x5 → ((x5 ≤ x2 → (vp_in x5 321 ∧ Z_Of_addOne g Q 34 [(0, .ref 11), (1, .int x1), (2, .int x2), (3, .long x3), (5, .int (x5 + 1))] [] I (gm_u L 13 (Int32.toNatClampNeg x5) x3) ((some 12), (some 13), t))) ∧ (¬ x5 ≤ x2 → (vp_in ((x5 - x2) - 1) 321 ∧ (vp_in x5 321 ∧ Z_Of_addOne g Q 34 [(0, .ref 11), (1, .int x1), (2, .int x2), (3, .long (x3 - (L 12 (Int32.toNatClampNeg ((x5 - x2) - 1))))), (5, .int (x5 + 1))] [] I (gm_u L 13 (Int32.toNatClampNeg x5) (x3 - (L 12 (Int32.toNatClampNeg ((x5 - x2) - 1))))) ((some 12), (some 13), t)))))) ∧ (¬ x1 < x5 → (vp_in x5 321 ∧ ((x5 ≤ x2 → (vp_in x5 321 ∧ Z_Of_addOne g Q 34 [(0, .ref 11), (1, .int x1), (2, .int x2), (3, .long (x3 + (L 12 (Int32.toNatClampNeg x5)))), (5, .int (x5 + 1))] [] I (gm_u L 13 (Int32.toNatClampNeg x5) (x3 + (L 12 (Int32.toNatClampNeg x5)))) ((some 12), (some 13), t))) ∧ (¬ x5 ≤ x2 → (vp_in ((x5 - x2) - 1) 321 ∧ (vp_in x5 321 ∧ Z_Of_addOne g Q 34 [(0, .ref 11), (1, .int x1), (2, .int x2), (3, .long ((x3 + (L 12 (Int32.toNatClampNeg x5))) - (L 12 (Int32.toNatClampNeg ((x5 - x2) - 1))))), (5, .int (x5 + 1))] [] I (gm_u L 13 (Int32.toNatClampNeg x5) ((x3 + (L 12 (Int32.toNatClampNeg x5))) - (L 12 (Int32.toNatClampNeg ((x5 - x2) - 1))))) ((some 12), (some 13), t))))))))))))) : Z_Of_addOne g Q 34 [(0, .ref 11), (1, .int x1), (2, .int x2), (3, .long x3), (5, .int x5)] [] I L ((some 12), (some 13), t) := by
  refine gx_iload 4 dX3_addOne_34 rfl ?_
  refine gx_iload_n 1 dX3_addOne_36 rfl rfl ?_
  refine gx_iload_n 2 dX3_addOne_37 rfl rfl ?_
  refine gx_iadd dX3_addOne_38 ?_
  refine gx_icmp_gt 100 dX3_addOne_39 (by decide) ⟨fun z => ?_, fun z => ?_⟩
  · replace h := h.1 z
    refine gx_aload_n 0 dX3_addOne_100 rfl rfl ?_
    refine gx_getr 3 3 (v := 12) dX3_addOne_101 fl_X3_11 rfl rfl rfl ?_
    refine gx_astore (lv' := [(0, .ref 11), (1, .int x1), (2, .int x2), (3, .long x3), (5, .ref 12)]) dX3_addOne_104 rfl rfl ?_
    refine gx_aload_n 0 dX3_addOne_106 rfl rfl ?_
    refine gx_aload_n 0 dX3_addOne_107 rfl rfl ?_
    refine gx_getr 3 4 (v := 13) dX3_addOne_108 fl_X3_15 rfl rfl rfl ?_
    refine gx_putr 3 3 (v := 13) dX3_addOne_111 fl_X3_11 rfl rfl rfl ⟨rfl, rfl⟩ ?_
    rw [RR_0]
    show Z_Of_addOne g Q 114 [(0, .ref 11), (1, .int x1), (2, .int x2), (3, .long x3), (5, .ref 12)] [] I L ((some 13), (some 13), t)
    refine gx_aload_n 0 dX3_addOne_114 rfl rfl ?_
    refine gx_aload 4 dX3_addOne_115 rfl ?_
    refine gx_putr 3 4 (v := 12) dX3_addOne_117 fl_X3_15 rfl rfl rfl ⟨rfl, rfl⟩ ?_
    rw [RR_1]
    show Z_Of_addOne g Q 120 [(0, .ref 11), (1, .int x1), (2, .int x2), (3, .long x3), (5, .ref 12)] [] I L ((some 13), (some 12), t)
    refine gx_aload_n 0 dX3_addOne_120 rfl rfl ?_
    refine gx_dup dX3_addOne_121 rfl ?_
    refine gx_geti 3 2 (v := (I 11 2)) dX3_addOne_122 fl_X3_31 rfl rfl rfl ?_
    refine gx_iconst (v := 1) dX3_addOne_125 (by decide) ?_
    refine gx_iadd dX3_addOne_126 ?_
    refine gx_puti 3 2 dX3_addOne_127 fl_X3_31 rfl rfl rfl ⟨rfl, rfl⟩ ?_
    show Z_Of_addOne g Q 130 [(0, .ref 11), (1, .int x1), (2, .int x2), (3, .long x3), (5, .ref 12)] [] (gm_u I 11 2 ((I 11 2) + 1)) L ((some 13), (some 12), t)
    refine gx_aload_n 0 dX3_addOne_130 rfl rfl ?_
    refine gx_dup dX3_addOne_131 rfl ?_
    refine gx_getl 3 0 (v := (L 11 0)) dX3_addOne_132 fl_X3_34 rfl rfl rfl ?_
    refine gx_iload_n 2 dX3_addOne_135 rfl rfl ?_
    refine gx_iconst (v := 1) dX3_addOne_136 (by decide) ?_
    refine gx_iadd dX3_addOne_137 ?_
    refine gx_i2l dX3_addOne_138 ?_
    refine gx_lmul dX3_addOne_139 ?_
    refine gx_putl 3 0 dX3_addOne_140 fl_X3_34 rfl rfl rfl ⟨rfl, rfl⟩ ?_
    show Z_Of_addOne g Q 143 [(0, .ref 11), (1, .int x1), (2, .int x2), (3, .long x3), (5, .ref 12)] [] (gm_u I 11 2 ((I 11 2) + 1)) (gm_u L 11 0 ((L 11 0) * (Int32.toInt64 (x2 + 1)))) ((some 13), (some 12), t)
    exact gx_vret dX3_addOne_143 rfl rfl rfl ⟨_, _, _, rfl, rfl, h⟩
  · replace h := h.2 z
    refine gx_iload 4 dX3_addOne_42 rfl ?_
    refine gx_sipush (v := 321) dX3_addOne_44 (by decide) ?_
    refine gx_icmp_ge 100 dX3_addOne_47 (by decide) ⟨fun z => ?_, fun z => ?_⟩
    · replace h := h.1 z
      refine gx_aload_n 0 dX3_addOne_100 rfl rfl ?_
      refine gx_getr 3 3 (v := 12) dX3_addOne_101 fl_X3_11 rfl rfl rfl ?_
      refine gx_astore (lv' := [(0, .ref 11), (1, .int x1), (2, .int x2), (3, .long x3), (5, .ref 12)]) dX3_addOne_104 rfl rfl ?_
      refine gx_aload_n 0 dX3_addOne_106 rfl rfl ?_
      refine gx_aload_n 0 dX3_addOne_107 rfl rfl ?_
      refine gx_getr 3 4 (v := 13) dX3_addOne_108 fl_X3_15 rfl rfl rfl ?_
      refine gx_putr 3 3 (v := 13) dX3_addOne_111 fl_X3_11 rfl rfl rfl ⟨rfl, rfl⟩ ?_
      rw [RR_0]
      show Z_Of_addOne g Q 114 [(0, .ref 11), (1, .int x1), (2, .int x2), (3, .long x3), (5, .ref 12)] [] I L ((some 13), (some 13), t)
      refine gx_aload_n 0 dX3_addOne_114 rfl rfl ?_
      refine gx_aload 4 dX3_addOne_115 rfl ?_
      refine gx_putr 3 4 (v := 12) dX3_addOne_117 fl_X3_15 rfl rfl rfl ⟨rfl, rfl⟩ ?_
      rw [RR_1]
      show Z_Of_addOne g Q 120 [(0, .ref 11), (1, .int x1), (2, .int x2), (3, .long x3), (5, .ref 12)] [] I L ((some 13), (some 12), t)
      refine gx_aload_n 0 dX3_addOne_120 rfl rfl ?_
      refine gx_dup dX3_addOne_121 rfl ?_
      refine gx_geti 3 2 (v := (I 11 2)) dX3_addOne_122 fl_X3_31 rfl rfl rfl ?_
      refine gx_iconst (v := 1) dX3_addOne_125 (by decide) ?_
      refine gx_iadd dX3_addOne_126 ?_
      refine gx_puti 3 2 dX3_addOne_127 fl_X3_31 rfl rfl rfl ⟨rfl, rfl⟩ ?_
      show Z_Of_addOne g Q 130 [(0, .ref 11), (1, .int x1), (2, .int x2), (3, .long x3), (5, .ref 12)] [] (gm_u I 11 2 ((I 11 2) + 1)) L ((some 13), (some 12), t)
      refine gx_aload_n 0 dX3_addOne_130 rfl rfl ?_
      refine gx_dup dX3_addOne_131 rfl ?_
      refine gx_getl 3 0 (v := (L 11 0)) dX3_addOne_132 fl_X3_34 rfl rfl rfl ?_
      refine gx_iload_n 2 dX3_addOne_135 rfl rfl ?_
      refine gx_iconst (v := 1) dX3_addOne_136 (by decide) ?_
      refine gx_iadd dX3_addOne_137 ?_
      refine gx_i2l dX3_addOne_138 ?_
      refine gx_lmul dX3_addOne_139 ?_
      refine gx_putl 3 0 dX3_addOne_140 fl_X3_34 rfl rfl rfl ⟨rfl, rfl⟩ ?_
      show Z_Of_addOne g Q 143 [(0, .ref 11), (1, .int x1), (2, .int x2), (3, .long x3), (5, .ref 12)] [] (gm_u I 11 2 ((I 11 2) + 1)) (gm_u L 11 0 ((L 11 0) * (Int32.toInt64 (x2 + 1)))) ((some 13), (some 12), t)
      exact gx_vret dX3_addOne_143 rfl rfl rfl ⟨_, _, _, rfl, rfl, h⟩
    · replace h := h.2 z
      refine gx_iload 4 dX3_addOne_50 rfl ?_
      refine gx_iload_n 1 dX3_addOne_52 rfl rfl ?_
      refine gx_icmp_gt 66 dX3_addOne_53 (by decide) ⟨fun z => ?_, fun z => ?_⟩
      · replace h := h.1 z
        refine gx_iload 4 dX3_addOne_66 rfl ?_
        refine gx_iload_n 2 dX3_addOne_68 rfl rfl ?_
        refine gx_icmp_le 86 dX3_addOne_69 (by decide) ⟨fun z => ?_, fun z => ?_⟩
        · replace h := h.1 z
          refine gx_aload_n 0 dX3_addOne_86 rfl rfl ?_
          refine gx_getr 3 4 (v := 13) dX3_addOne_87 fl_X3_15 rfl rfl rfl ?_
          refine gx_iload 4 dX3_addOne_90 rfl ?_
          refine gx_lload_n 3 dX3_addOne_92 rfl rfl ?_
          obtain ⟨hi, h⟩ := h
          refine gx_last dX3_addOne_93 rfl rfl hi (k := (Int32.toNatClampNeg x5)) rfl ?_
          show Z_Of_addOne g Q 94 [(0, .ref 11), (1, .int x1), (2, .int x2), (3, .long x3), (5, .int x5)] [] I (gm_u L 13 (Int32.toNatClampNeg x5) x3) ((some 12), (some 13), t)
          refine gx_iinc (v := (x5 + 1)) (lv' := [(0, .ref 11), (1, .int x1), (2, .int x2), (3, .long x3), (5, .int (x5 + 1))]) 4 dX3_addOne_94 rfl rfl rfl rfl ?_
          refine gx_goto 34 dX3_addOne_97 (by decide) ?_
          exact h
        · replace h := h.2 z
          refine gx_lload_n 3 dX3_addOne_72 rfl rfl ?_
          refine gx_aload_n 0 dX3_addOne_73 rfl rfl ?_
          refine gx_getr 3 3 (v := 12) dX3_addOne_74 fl_X3_11 rfl rfl rfl ?_
          refine gx_iload 4 dX3_addOne_77 rfl ?_
          refine gx_iload_n 2 dX3_addOne_79 rfl rfl ?_
          refine gx_isub dX3_addOne_80 ?_
          refine gx_iconst (v := 1) dX3_addOne_81 (by decide) ?_
          refine gx_isub dX3_addOne_82 ?_
          obtain ⟨hi, h⟩ := h
          refine gx_lald (v := (L 12 (Int32.toNatClampNeg ((x5 - x2) - 1)))) dX3_addOne_83 rfl rfl hi (k := (Int32.toNatClampNeg ((x5 - x2) - 1))) rfl rfl ?_
          refine gx_lsub dX3_addOne_84 ?_
          refine gx_lstore_n (lv' := [(0, .ref 11), (1, .int x1), (2, .int x2), (3, .long (x3 - (L 12 (Int32.toNatClampNeg ((x5 - x2) - 1))))), (5, .int x5)]) dX3_addOne_85 rfl rfl rfl ?_
          refine gx_aload_n 0 dX3_addOne_86 rfl rfl ?_
          refine gx_getr 3 4 (v := 13) dX3_addOne_87 fl_X3_15 rfl rfl rfl ?_
          refine gx_iload 4 dX3_addOne_90 rfl ?_
          refine gx_lload_n 3 dX3_addOne_92 rfl rfl ?_
          obtain ⟨hi, h⟩ := h
          refine gx_last dX3_addOne_93 rfl rfl hi (k := (Int32.toNatClampNeg x5)) rfl ?_
          show Z_Of_addOne g Q 94 [(0, .ref 11), (1, .int x1), (2, .int x2), (3, .long (x3 - (L 12 (Int32.toNatClampNeg ((x5 - x2) - 1))))), (5, .int x5)] [] I (gm_u L 13 (Int32.toNatClampNeg x5) (x3 - (L 12 (Int32.toNatClampNeg ((x5 - x2) - 1))))) ((some 12), (some 13), t)
          refine gx_iinc (v := (x5 + 1)) (lv' := [(0, .ref 11), (1, .int x1), (2, .int x2), (3, .long (x3 - (L 12 (Int32.toNatClampNeg ((x5 - x2) - 1))))), (5, .int (x5 + 1))]) 4 dX3_addOne_94 rfl rfl rfl rfl ?_
          refine gx_goto 34 dX3_addOne_97 (by decide) ?_
          exact h
      · replace h := h.2 z
        refine gx_lload_n 3 dX3_addOne_56 rfl rfl ?_
        refine gx_aload_n 0 dX3_addOne_57 rfl rfl ?_
        refine gx_getr 3 3 (v := 12) dX3_addOne_58 fl_X3_11 rfl rfl rfl ?_
        refine gx_iload 4 dX3_addOne_61 rfl ?_
        obtain ⟨hi, h⟩ := h
        refine gx_lald (v := (L 12 (Int32.toNatClampNeg x5))) dX3_addOne_63 rfl rfl hi (k := (Int32.toNatClampNeg x5)) rfl rfl ?_
        refine gx_ladd dX3_addOne_64 ?_
        refine gx_lstore_n (lv' := [(0, .ref 11), (1, .int x1), (2, .int x2), (3, .long (x3 + (L 12 (Int32.toNatClampNeg x5)))), (5, .int x5)]) dX3_addOne_65 rfl rfl rfl ?_
        refine gx_iload 4 dX3_addOne_66 rfl ?_
        refine gx_iload_n 2 dX3_addOne_68 rfl rfl ?_
        refine gx_icmp_le 86 dX3_addOne_69 (by decide) ⟨fun z => ?_, fun z => ?_⟩
        · replace h := h.1 z
          refine gx_aload_n 0 dX3_addOne_86 rfl rfl ?_
          refine gx_getr 3 4 (v := 13) dX3_addOne_87 fl_X3_15 rfl rfl rfl ?_
          refine gx_iload 4 dX3_addOne_90 rfl ?_
          refine gx_lload_n 3 dX3_addOne_92 rfl rfl ?_
          obtain ⟨hi, h⟩ := h
          refine gx_last dX3_addOne_93 rfl rfl hi (k := (Int32.toNatClampNeg x5)) rfl ?_
          show Z_Of_addOne g Q 94 [(0, .ref 11), (1, .int x1), (2, .int x2), (3, .long (x3 + (L 12 (Int32.toNatClampNeg x5)))), (5, .int x5)] [] I (gm_u L 13 (Int32.toNatClampNeg x5) (x3 + (L 12 (Int32.toNatClampNeg x5)))) ((some 12), (some 13), t)
          refine gx_iinc (v := (x5 + 1)) (lv' := [(0, .ref 11), (1, .int x1), (2, .int x2), (3, .long (x3 + (L 12 (Int32.toNatClampNeg x5)))), (5, .int (x5 + 1))]) 4 dX3_addOne_94 rfl rfl rfl rfl ?_
          refine gx_goto 34 dX3_addOne_97 (by decide) ?_
          exact h
        · replace h := h.2 z
          refine gx_lload_n 3 dX3_addOne_72 rfl rfl ?_
          refine gx_aload_n 0 dX3_addOne_73 rfl rfl ?_
          refine gx_getr 3 3 (v := 12) dX3_addOne_74 fl_X3_11 rfl rfl rfl ?_
          refine gx_iload 4 dX3_addOne_77 rfl ?_
          refine gx_iload_n 2 dX3_addOne_79 rfl rfl ?_
          refine gx_isub dX3_addOne_80 ?_
          refine gx_iconst (v := 1) dX3_addOne_81 (by decide) ?_
          refine gx_isub dX3_addOne_82 ?_
          obtain ⟨hi, h⟩ := h
          refine gx_lald (v := (L 12 (Int32.toNatClampNeg ((x5 - x2) - 1)))) dX3_addOne_83 rfl rfl hi (k := (Int32.toNatClampNeg ((x5 - x2) - 1))) rfl rfl ?_
          refine gx_lsub dX3_addOne_84 ?_
          refine gx_lstore_n (lv' := [(0, .ref 11), (1, .int x1), (2, .int x2), (3, .long ((x3 + (L 12 (Int32.toNatClampNeg x5))) - (L 12 (Int32.toNatClampNeg ((x5 - x2) - 1))))), (5, .int x5)]) dX3_addOne_85 rfl rfl rfl ?_
          refine gx_aload_n 0 dX3_addOne_86 rfl rfl ?_
          refine gx_getr 3 4 (v := 13) dX3_addOne_87 fl_X3_15 rfl rfl rfl ?_
          refine gx_iload 4 dX3_addOne_90 rfl ?_
          refine gx_lload_n 3 dX3_addOne_92 rfl rfl ?_
          obtain ⟨hi, h⟩ := h
          refine gx_last dX3_addOne_93 rfl rfl hi (k := (Int32.toNatClampNeg x5)) rfl ?_
          show Z_Of_addOne g Q 94 [(0, .ref 11), (1, .int x1), (2, .int x2), (3, .long ((x3 + (L 12 (Int32.toNatClampNeg x5))) - (L 12 (Int32.toNatClampNeg ((x5 - x2) - 1))))), (5, .int x5)] [] I (gm_u L 13 (Int32.toNatClampNeg x5) ((x3 + (L 12 (Int32.toNatClampNeg x5))) - (L 12 (Int32.toNatClampNeg ((x5 - x2) - 1))))) ((some 12), (some 13), t)
          refine gx_iinc (v := (x5 + 1)) (lv' := [(0, .ref 11), (1, .int x1), (2, .int x2), (3, .long ((x3 + (L 12 (Int32.toNatClampNeg x5))) - (L 12 (Int32.toNatClampNeg ((x5 - x2) - 1))))), (5, .int (x5 + 1))]) 4 dX3_addOne_94 rfl rfl rfl rfl ?_
          refine gx_goto 34 dX3_addOne_97 (by decide) ?_
          exact h
set_option maxRecDepth 100000 in
theorem r_Of_addOne_34_ba {g : gm_G} {Q : mI → mL → gm_cfg → Prop} {x1 x2 x5 : Int32} {x3 : Int64} {I : mI} {L : mL} {t : Option Nat} (h : (((x1 + x2) < x5 → Q (gm_u I 11 2 ((I 11 2) + 1)) (gm_u L 11 0 ((L 11 0) * (Int32.toInt64 (x2 + 1)))) ((some 12), (some 13), t)) ∧ (¬ (x1 + x2) < x5 → ((321 ≤ x5 → Q (gm_u I 11 2 ((I 11 2) + 1)) (gm_u L 11 0 ((L 11 0) * (Int32.toInt64 (x2 + 1)))) ((some 12), (some 13), t)) ∧ (¬ 321 ≤ x5 → ((x1 < x5 → ((x5 ≤ x2 → (vp_in x5 321 ∧ Z_Of_addOne g Q 34 [(0, .ref 11), (1, .int x1), (2, .int x2), (3, .long x3), (5, .int (x5 + 1))] [] I (gm_u L 12 (Int32.toNatClampNeg x5) x3) ((some 13), (some 12), t))) ∧ (¬ x5 ≤ x2 → (vp_in ((x5 - x2) - 1) 321 ∧ (vp_in x5 321 ∧ Z_Of_addOne g Q 34 [(0, .ref 11), (1, .int x1), (2, .int x2), (3, .long (x3 - (L 13 (Int32.toNatClampNeg ((x5 - x2) - 1))))), (5, .int (x5 + 1))] [] I (gm_u L 12 (Int32.toNatClampNeg x5) (x3 - (L 13 (Int32.toNatClampNeg ((x5 - x2) - 1))))) ((some 13), (some 12), t)))))) ∧ (¬ x1 < x5 → (vp_in x5 321 ∧ ((x5 ≤ x2 → (vp_in x5 321 ∧ Z_Of_addOne g Q 34 [(0, .ref 11), (1, .int x1), (2, .int x2), (3, .long (x3 + (L 13 (Int32.toNatClampNeg x5)))), (5, .int (x5 + 1))] [] I (gm_u L 12 (Int32.toNatClampNeg x5) (x3 + (L 13 (Int32.toNatClampNeg x5)))) ((some 13), (some 12), t))) ∧ (¬ x5 ≤ x2 → (vp_in ((x5 - x2) - 1) 321 ∧ (vp_in x5 321 ∧ Z_Of_addOne g Q 34 [(0, .ref 11), (1, .int x1), (2, .int x2), (3, .long ((x3 + (L 13 (Int32.toNatClampNeg x5))) - (L 13 (Int32.toNatClampNeg ((x5 - x2) - 1))))), (5, .int (x5 + 1))] [] I (gm_u L 12 (Int32.toNatClampNeg x5) ((x3 + (L 13 (Int32.toNatClampNeg x5))) - (L 13 (Int32.toNatClampNeg ((x5 - x2) - 1))))) ((some 13), (some 12), t))))))))))))) : Z_Of_addOne g Q 34 [(0, .ref 11), (1, .int x1), (2, .int x2), (3, .long x3), (5, .int x5)] [] I L ((some 13), (some 12), t) := by
  refine gx_iload 4 dX3_addOne_34 rfl ?_
  refine gx_iload_n 1 dX3_addOne_36 rfl rfl ?_
  refine gx_iload_n 2 dX3_addOne_37 rfl rfl ?_
  refine gx_iadd dX3_addOne_38 ?_
  refine gx_icmp_gt 100 dX3_addOne_39 (by decide) ⟨fun z => ?_, fun z => ?_⟩
  · replace h := h.1 z
    refine gx_aload_n 0 dX3_addOne_100 rfl rfl ?_
    refine gx_getr 3 3 (v := 13) dX3_addOne_101 fl_X3_11 rfl rfl rfl ?_
    refine gx_astore (lv' := [(0, .ref 11), (1, .int x1), (2, .int x2), (3, .long x3), (5, .ref 13)]) dX3_addOne_104 rfl rfl ?_
    refine gx_aload_n 0 dX3_addOne_106 rfl rfl ?_
    refine gx_aload_n 0 dX3_addOne_107 rfl rfl ?_
    refine gx_getr 3 4 (v := 12) dX3_addOne_108 fl_X3_15 rfl rfl rfl ?_
    refine gx_putr 3 3 (v := 12) dX3_addOne_111 fl_X3_11 rfl rfl rfl ⟨rfl, rfl⟩ ?_
    rw [RR_0]
    show Z_Of_addOne g Q 114 [(0, .ref 11), (1, .int x1), (2, .int x2), (3, .long x3), (5, .ref 13)] [] I L ((some 12), (some 12), t)
    refine gx_aload_n 0 dX3_addOne_114 rfl rfl ?_
    refine gx_aload 4 dX3_addOne_115 rfl ?_
    refine gx_putr 3 4 (v := 13) dX3_addOne_117 fl_X3_15 rfl rfl rfl ⟨rfl, rfl⟩ ?_
    rw [RR_1]
    show Z_Of_addOne g Q 120 [(0, .ref 11), (1, .int x1), (2, .int x2), (3, .long x3), (5, .ref 13)] [] I L ((some 12), (some 13), t)
    refine gx_aload_n 0 dX3_addOne_120 rfl rfl ?_
    refine gx_dup dX3_addOne_121 rfl ?_
    refine gx_geti 3 2 (v := (I 11 2)) dX3_addOne_122 fl_X3_31 rfl rfl rfl ?_
    refine gx_iconst (v := 1) dX3_addOne_125 (by decide) ?_
    refine gx_iadd dX3_addOne_126 ?_
    refine gx_puti 3 2 dX3_addOne_127 fl_X3_31 rfl rfl rfl ⟨rfl, rfl⟩ ?_
    show Z_Of_addOne g Q 130 [(0, .ref 11), (1, .int x1), (2, .int x2), (3, .long x3), (5, .ref 13)] [] (gm_u I 11 2 ((I 11 2) + 1)) L ((some 12), (some 13), t)
    refine gx_aload_n 0 dX3_addOne_130 rfl rfl ?_
    refine gx_dup dX3_addOne_131 rfl ?_
    refine gx_getl 3 0 (v := (L 11 0)) dX3_addOne_132 fl_X3_34 rfl rfl rfl ?_
    refine gx_iload_n 2 dX3_addOne_135 rfl rfl ?_
    refine gx_iconst (v := 1) dX3_addOne_136 (by decide) ?_
    refine gx_iadd dX3_addOne_137 ?_
    refine gx_i2l dX3_addOne_138 ?_
    refine gx_lmul dX3_addOne_139 ?_
    refine gx_putl 3 0 dX3_addOne_140 fl_X3_34 rfl rfl rfl ⟨rfl, rfl⟩ ?_
    show Z_Of_addOne g Q 143 [(0, .ref 11), (1, .int x1), (2, .int x2), (3, .long x3), (5, .ref 13)] [] (gm_u I 11 2 ((I 11 2) + 1)) (gm_u L 11 0 ((L 11 0) * (Int32.toInt64 (x2 + 1)))) ((some 12), (some 13), t)
    exact gx_vret dX3_addOne_143 rfl rfl rfl ⟨_, _, _, rfl, rfl, h⟩
  · replace h := h.2 z
    refine gx_iload 4 dX3_addOne_42 rfl ?_
    refine gx_sipush (v := 321) dX3_addOne_44 (by decide) ?_
    refine gx_icmp_ge 100 dX3_addOne_47 (by decide) ⟨fun z => ?_, fun z => ?_⟩
    · replace h := h.1 z
      refine gx_aload_n 0 dX3_addOne_100 rfl rfl ?_
      refine gx_getr 3 3 (v := 13) dX3_addOne_101 fl_X3_11 rfl rfl rfl ?_
      refine gx_astore (lv' := [(0, .ref 11), (1, .int x1), (2, .int x2), (3, .long x3), (5, .ref 13)]) dX3_addOne_104 rfl rfl ?_
      refine gx_aload_n 0 dX3_addOne_106 rfl rfl ?_
      refine gx_aload_n 0 dX3_addOne_107 rfl rfl ?_
      refine gx_getr 3 4 (v := 12) dX3_addOne_108 fl_X3_15 rfl rfl rfl ?_
      refine gx_putr 3 3 (v := 12) dX3_addOne_111 fl_X3_11 rfl rfl rfl ⟨rfl, rfl⟩ ?_
      rw [RR_0]
      show Z_Of_addOne g Q 114 [(0, .ref 11), (1, .int x1), (2, .int x2), (3, .long x3), (5, .ref 13)] [] I L ((some 12), (some 12), t)
      refine gx_aload_n 0 dX3_addOne_114 rfl rfl ?_
      refine gx_aload 4 dX3_addOne_115 rfl ?_
      refine gx_putr 3 4 (v := 13) dX3_addOne_117 fl_X3_15 rfl rfl rfl ⟨rfl, rfl⟩ ?_
      rw [RR_1]
      show Z_Of_addOne g Q 120 [(0, .ref 11), (1, .int x1), (2, .int x2), (3, .long x3), (5, .ref 13)] [] I L ((some 12), (some 13), t)
      refine gx_aload_n 0 dX3_addOne_120 rfl rfl ?_
      refine gx_dup dX3_addOne_121 rfl ?_
      refine gx_geti 3 2 (v := (I 11 2)) dX3_addOne_122 fl_X3_31 rfl rfl rfl ?_
      refine gx_iconst (v := 1) dX3_addOne_125 (by decide) ?_
      refine gx_iadd dX3_addOne_126 ?_
      refine gx_puti 3 2 dX3_addOne_127 fl_X3_31 rfl rfl rfl ⟨rfl, rfl⟩ ?_
      show Z_Of_addOne g Q 130 [(0, .ref 11), (1, .int x1), (2, .int x2), (3, .long x3), (5, .ref 13)] [] (gm_u I 11 2 ((I 11 2) + 1)) L ((some 12), (some 13), t)
      refine gx_aload_n 0 dX3_addOne_130 rfl rfl ?_
      refine gx_dup dX3_addOne_131 rfl ?_
      refine gx_getl 3 0 (v := (L 11 0)) dX3_addOne_132 fl_X3_34 rfl rfl rfl ?_
      refine gx_iload_n 2 dX3_addOne_135 rfl rfl ?_
      refine gx_iconst (v := 1) dX3_addOne_136 (by decide) ?_
      refine gx_iadd dX3_addOne_137 ?_
      refine gx_i2l dX3_addOne_138 ?_
      refine gx_lmul dX3_addOne_139 ?_
      refine gx_putl 3 0 dX3_addOne_140 fl_X3_34 rfl rfl rfl ⟨rfl, rfl⟩ ?_
      show Z_Of_addOne g Q 143 [(0, .ref 11), (1, .int x1), (2, .int x2), (3, .long x3), (5, .ref 13)] [] (gm_u I 11 2 ((I 11 2) + 1)) (gm_u L 11 0 ((L 11 0) * (Int32.toInt64 (x2 + 1)))) ((some 12), (some 13), t)
      exact gx_vret dX3_addOne_143 rfl rfl rfl ⟨_, _, _, rfl, rfl, h⟩
    · replace h := h.2 z
      refine gx_iload 4 dX3_addOne_50 rfl ?_
      refine gx_iload_n 1 dX3_addOne_52 rfl rfl ?_
      refine gx_icmp_gt 66 dX3_addOne_53 (by decide) ⟨fun z => ?_, fun z => ?_⟩
      · replace h := h.1 z
        refine gx_iload 4 dX3_addOne_66 rfl ?_
        refine gx_iload_n 2 dX3_addOne_68 rfl rfl ?_
        refine gx_icmp_le 86 dX3_addOne_69 (by decide) ⟨fun z => ?_, fun z => ?_⟩
        · replace h := h.1 z
          refine gx_aload_n 0 dX3_addOne_86 rfl rfl ?_
          refine gx_getr 3 4 (v := 12) dX3_addOne_87 fl_X3_15 rfl rfl rfl ?_
          refine gx_iload 4 dX3_addOne_90 rfl ?_
          refine gx_lload_n 3 dX3_addOne_92 rfl rfl ?_
          obtain ⟨hi, h⟩ := h
          refine gx_last dX3_addOne_93 rfl rfl hi (k := (Int32.toNatClampNeg x5)) rfl ?_
          show Z_Of_addOne g Q 94 [(0, .ref 11), (1, .int x1), (2, .int x2), (3, .long x3), (5, .int x5)] [] I (gm_u L 12 (Int32.toNatClampNeg x5) x3) ((some 13), (some 12), t)
          refine gx_iinc (v := (x5 + 1)) (lv' := [(0, .ref 11), (1, .int x1), (2, .int x2), (3, .long x3), (5, .int (x5 + 1))]) 4 dX3_addOne_94 rfl rfl rfl rfl ?_
          refine gx_goto 34 dX3_addOne_97 (by decide) ?_
          exact h
        · replace h := h.2 z
          refine gx_lload_n 3 dX3_addOne_72 rfl rfl ?_
          refine gx_aload_n 0 dX3_addOne_73 rfl rfl ?_
          refine gx_getr 3 3 (v := 13) dX3_addOne_74 fl_X3_11 rfl rfl rfl ?_
          refine gx_iload 4 dX3_addOne_77 rfl ?_
          refine gx_iload_n 2 dX3_addOne_79 rfl rfl ?_
          refine gx_isub dX3_addOne_80 ?_
          refine gx_iconst (v := 1) dX3_addOne_81 (by decide) ?_
          refine gx_isub dX3_addOne_82 ?_
          obtain ⟨hi, h⟩ := h
          refine gx_lald (v := (L 13 (Int32.toNatClampNeg ((x5 - x2) - 1)))) dX3_addOne_83 rfl rfl hi (k := (Int32.toNatClampNeg ((x5 - x2) - 1))) rfl rfl ?_
          refine gx_lsub dX3_addOne_84 ?_
          refine gx_lstore_n (lv' := [(0, .ref 11), (1, .int x1), (2, .int x2), (3, .long (x3 - (L 13 (Int32.toNatClampNeg ((x5 - x2) - 1))))), (5, .int x5)]) dX3_addOne_85 rfl rfl rfl ?_
          refine gx_aload_n 0 dX3_addOne_86 rfl rfl ?_
          refine gx_getr 3 4 (v := 12) dX3_addOne_87 fl_X3_15 rfl rfl rfl ?_
          refine gx_iload 4 dX3_addOne_90 rfl ?_
          refine gx_lload_n 3 dX3_addOne_92 rfl rfl ?_
          obtain ⟨hi, h⟩ := h
          refine gx_last dX3_addOne_93 rfl rfl hi (k := (Int32.toNatClampNeg x5)) rfl ?_
          show Z_Of_addOne g Q 94 [(0, .ref 11), (1, .int x1), (2, .int x2), (3, .long (x3 - (L 13 (Int32.toNatClampNeg ((x5 - x2) - 1))))), (5, .int x5)] [] I (gm_u L 12 (Int32.toNatClampNeg x5) (x3 - (L 13 (Int32.toNatClampNeg ((x5 - x2) - 1))))) ((some 13), (some 12), t)
          refine gx_iinc (v := (x5 + 1)) (lv' := [(0, .ref 11), (1, .int x1), (2, .int x2), (3, .long (x3 - (L 13 (Int32.toNatClampNeg ((x5 - x2) - 1))))), (5, .int (x5 + 1))]) 4 dX3_addOne_94 rfl rfl rfl rfl ?_
          refine gx_goto 34 dX3_addOne_97 (by decide) ?_
          exact h
      · replace h := h.2 z
        refine gx_lload_n 3 dX3_addOne_56 rfl rfl ?_
        refine gx_aload_n 0 dX3_addOne_57 rfl rfl ?_
        refine gx_getr 3 3 (v := 13) dX3_addOne_58 fl_X3_11 rfl rfl rfl ?_
        refine gx_iload 4 dX3_addOne_61 rfl ?_
        obtain ⟨hi, h⟩ := h
        refine gx_lald (v := (L 13 (Int32.toNatClampNeg x5))) dX3_addOne_63 rfl rfl hi (k := (Int32.toNatClampNeg x5)) rfl rfl ?_
        refine gx_ladd dX3_addOne_64 ?_
        refine gx_lstore_n (lv' := [(0, .ref 11), (1, .int x1), (2, .int x2), (3, .long (x3 + (L 13 (Int32.toNatClampNeg x5)))), (5, .int x5)]) dX3_addOne_65 rfl rfl rfl ?_
        refine gx_iload 4 dX3_addOne_66 rfl ?_
        refine gx_iload_n 2 dX3_addOne_68 rfl rfl ?_
        refine gx_icmp_le 86 dX3_addOne_69 (by decide) ⟨fun z => ?_, fun z => ?_⟩
        · replace h := h.1 z
          refine gx_aload_n 0 dX3_addOne_86 rfl rfl ?_
          refine gx_getr 3 4 (v := 12) dX3_addOne_87 fl_X3_15 rfl rfl rfl ?_
          refine gx_iload 4 dX3_addOne_90 rfl ?_
          refine gx_lload_n 3 dX3_addOne_92 rfl rfl ?_
          obtain ⟨hi, h⟩ := h
          refine gx_last dX3_addOne_93 rfl rfl hi (k := (Int32.toNatClampNeg x5)) rfl ?_
          show Z_Of_addOne g Q 94 [(0, .ref 11), (1, .int x1), (2, .int x2), (3, .long (x3 + (L 13 (Int32.toNatClampNeg x5)))), (5, .int x5)] [] I (gm_u L 12 (Int32.toNatClampNeg x5) (x3 + (L 13 (Int32.toNatClampNeg x5)))) ((some 13), (some 12), t)
          refine gx_iinc (v := (x5 + 1)) (lv' := [(0, .ref 11), (1, .int x1), (2, .int x2), (3, .long (x3 + (L 13 (Int32.toNatClampNeg x5)))), (5, .int (x5 + 1))]) 4 dX3_addOne_94 rfl rfl rfl rfl ?_
          refine gx_goto 34 dX3_addOne_97 (by decide) ?_
          exact h
        · replace h := h.2 z
          refine gx_lload_n 3 dX3_addOne_72 rfl rfl ?_
          refine gx_aload_n 0 dX3_addOne_73 rfl rfl ?_
          refine gx_getr 3 3 (v := 13) dX3_addOne_74 fl_X3_11 rfl rfl rfl ?_
          refine gx_iload 4 dX3_addOne_77 rfl ?_
          refine gx_iload_n 2 dX3_addOne_79 rfl rfl ?_
          refine gx_isub dX3_addOne_80 ?_
          refine gx_iconst (v := 1) dX3_addOne_81 (by decide) ?_
          refine gx_isub dX3_addOne_82 ?_
          obtain ⟨hi, h⟩ := h
          refine gx_lald (v := (L 13 (Int32.toNatClampNeg ((x5 - x2) - 1)))) dX3_addOne_83 rfl rfl hi (k := (Int32.toNatClampNeg ((x5 - x2) - 1))) rfl rfl ?_
          refine gx_lsub dX3_addOne_84 ?_
          refine gx_lstore_n (lv' := [(0, .ref 11), (1, .int x1), (2, .int x2), (3, .long ((x3 + (L 13 (Int32.toNatClampNeg x5))) - (L 13 (Int32.toNatClampNeg ((x5 - x2) - 1))))), (5, .int x5)]) dX3_addOne_85 rfl rfl rfl ?_
          refine gx_aload_n 0 dX3_addOne_86 rfl rfl ?_
          refine gx_getr 3 4 (v := 12) dX3_addOne_87 fl_X3_15 rfl rfl rfl ?_
          refine gx_iload 4 dX3_addOne_90 rfl ?_
          refine gx_lload_n 3 dX3_addOne_92 rfl rfl ?_
          obtain ⟨hi, h⟩ := h
          refine gx_last dX3_addOne_93 rfl rfl hi (k := (Int32.toNatClampNeg x5)) rfl ?_
          show Z_Of_addOne g Q 94 [(0, .ref 11), (1, .int x1), (2, .int x2), (3, .long ((x3 + (L 13 (Int32.toNatClampNeg x5))) - (L 13 (Int32.toNatClampNeg ((x5 - x2) - 1))))), (5, .int x5)] [] I (gm_u L 12 (Int32.toNatClampNeg x5) ((x3 + (L 13 (Int32.toNatClampNeg x5))) - (L 13 (Int32.toNatClampNeg ((x5 - x2) - 1))))) ((some 13), (some 12), t)
          refine gx_iinc (v := (x5 + 1)) (lv' := [(0, .ref 11), (1, .int x1), (2, .int x2), (3, .long ((x3 + (L 13 (Int32.toNatClampNeg x5))) - (L 13 (Int32.toNatClampNeg ((x5 - x2) - 1))))), (5, .int (x5 + 1))]) 4 dX3_addOne_94 rfl rfl rfl rfl ?_
          refine gx_goto 34 dX3_addOne_97 (by decide) ?_
          exact h
abbrev Z_Sh7_cutTo (g : gm_G) (Q : mI → mL → gm_cfg → Prop) (pc : Nat) (lv : List (Nat × Value)) (st : List Value) (I : mI) (L : mL) (c : gm_cfg) : Prop := gm_X g RX8 "cutTo" cX8_cutTo 2 none 1 0 0 (qV Q) 0 0 pc lv st (SH, I, L, RR c)
abbrev C_Sh7_cutTo (g : gm_G) (x1 : Int32) (I : mI) (L : mL) (c : gm_cfg) (Q : mI → mL → gm_cfg → Prop) : Prop := gm_Met g yX8_cutTo cX8_cutTo 2 none 1 0 0 [.ref 7, .int x1] (SH, I, L, RR c) (qV Q)
set_option maxRecDepth 100000 in
theorem e_Sh7_cutTo {g : gm_G} {Q : mI → mL → gm_cfg → Prop} {x1 : Int32} {I : mI} {L : mL} {c : gm_cfg} (h : ((x1 < 0 → Q I L c) ∧ (¬ x1 < 0 → (((I 7 2) ≤ x1 → Q I L c) ∧ (¬ (I 7 2) ≤ x1 → Q (gm_u I 7 2 x1) L c))))) : C_Sh7_cutTo g x1 I L c Q := by
  refine gm_enter (lv := [(0, .ref 7), (1, .int x1)]) (by decide) rfl rfl rfl rfl ?_
  show Z_Sh7_cutTo g Q 0 [(0, .ref 7), (1, .int x1)] [] I L c
  refine gx_iload_n 1 dX8_cutTo_0 rfl rfl ?_
  refine gx_if_lt 17 dX8_cutTo_1 (by decide) ⟨fun z => ?_, fun z => ?_⟩
  · replace h := h.1 z
    exact gx_vret dX8_cutTo_17 rfl rfl rfl ⟨_, _, _, rfl, rfl, h⟩
  · replace h := h.2 z
    refine gx_iload_n 1 dX8_cutTo_4 rfl rfl ?_
    refine gx_aload_n 0 dX8_cutTo_5 rfl rfl ?_
    refine gx_geti 8 2 (v := (I 7 2)) dX8_cutTo_6 fl_X8_24 rfl rfl rfl ?_
    refine gx_icmp_ge 17 dX8_cutTo_9 (by decide) ⟨fun z => ?_, fun z => ?_⟩
    · replace h := h.1 z
      exact gx_vret dX8_cutTo_17 rfl rfl rfl ⟨_, _, _, rfl, rfl, h⟩
    · replace h := h.2 z
      refine gx_aload_n 0 dX8_cutTo_12 rfl rfl ?_
      refine gx_iload_n 1 dX8_cutTo_13 rfl rfl ?_
      refine gx_puti 8 2 dX8_cutTo_14 fl_X8_24 rfl rfl rfl ⟨rfl, rfl⟩ ?_
      show Z_Sh7_cutTo g Q 17 [(0, .ref 7), (1, .int x1)] [] (gm_u I 7 2 x1) L c
      exact gx_vret dX8_cutTo_17 rfl rfl rfl ⟨_, _, _, rfl, rfl, h⟩
abbrev Z_Sh7_sumOf (g : gm_G) (Q : Int32 → mI → mL → gm_cfg → Prop) (pc : Nat) (lv : List (Nat × Value)) (st : List Value) (I : mI) (L : mL) (c : gm_cfg) : Prop := gm_X g RX8 "sumOf" cX8_sumOf 4 (some .int) 1 0 0 (qI Q) 0 0 pc lv st (SH, I, L, RR c)
abbrev C_Sh7_sumOf (g : gm_G) (x1 : Int32) (I : mI) (L : mL) (c : gm_cfg) (Q : Int32 → mI → mL → gm_cfg → Prop) : Prop := gm_Met g yX8_sumOf cX8_sumOf 4 (some .int) 1 0 0 [.ref 7, .int x1] (SH, I, L, RR c) (qI Q)
set_option maxRecDepth 100000 in
theorem e_Sh7_sumOf {g : gm_G} {Q : Int32 → mI → mL → gm_cfg → Prop} {x1 : Int32} {I : mI} {L : mL} {c : gm_cfg} (h : Z_Sh7_sumOf g Q 4 [(0, .ref 7), (1, .int x1), (2, .int 0), (3, .int 0)] [] I L c) : C_Sh7_sumOf g x1 I L c Q := by
  refine gm_enter (lv := [(0, .ref 7), (1, .int x1)]) (by decide) rfl rfl rfl rfl ?_
  show Z_Sh7_sumOf g Q 0 [(0, .ref 7), (1, .int x1)] [] I L c
  refine gx_iconst (v := 0) dX8_sumOf_0 (by decide) ?_
  refine gx_istore_n (lv' := [(0, .ref 7), (1, .int x1), (2, .int 0)]) dX8_sumOf_1 rfl rfl rfl ?_
  refine gx_iconst (v := 0) dX8_sumOf_2 (by decide) ?_
  refine gx_istore_n (lv' := [(0, .ref 7), (1, .int x1), (2, .int 0), (3, .int 0)]) dX8_sumOf_3 rfl rfl rfl ?_
  exact h
set_option maxRecDepth 100000 in
theorem r_Sh7_sumOf_4 {g : gm_G} {Q : Int32 → mI → mL → gm_cfg → Prop} {x1 x2 x3 : Int32} {I : mI} {L : mL} {c : gm_cfg} (h : ((x1 ≤ x3 → Q x2 I L c) ∧ (¬ x1 ≤ x3 → (((I 7 2) ≤ x3 → Q x2 I L c) ∧ (¬ (I 7 2) ≤ x3 → (vp_in x3 40 ∧ Z_Sh7_sumOf g Q 4 [(0, .ref 7), (1, .int x1), (2, .int (x2 + (I 8 (Int32.toNatClampNeg x3)))), (3, .int (x3 + 1))] [] I L c)))))) : Z_Sh7_sumOf g Q 4 [(0, .ref 7), (1, .int x1), (2, .int x2), (3, .int x3)] [] I L c := by
  refine gx_iload_n 3 dX8_sumOf_4 rfl rfl ?_
  refine gx_iload_n 1 dX8_sumOf_5 rfl rfl ?_
  refine gx_icmp_ge 32 dX8_sumOf_6 (by decide) ⟨fun z => ?_, fun z => ?_⟩
  · replace h := h.1 z
    refine gx_iload_n 2 dX8_sumOf_32 rfl rfl ?_
    exact gx_iret dX8_sumOf_33 rfl rfl rfl ⟨_, _, _, _, rfl, rfl, h⟩
  · replace h := h.2 z
    refine gx_iload_n 3 dX8_sumOf_9 rfl rfl ?_
    refine gx_aload_n 0 dX8_sumOf_10 rfl rfl ?_
    refine gx_geti 8 2 (v := (I 7 2)) dX8_sumOf_11 fl_X8_24 rfl rfl rfl ?_
    refine gx_icmp_ge 32 dX8_sumOf_14 (by decide) ⟨fun z => ?_, fun z => ?_⟩
    · replace h := h.1 z
      refine gx_iload_n 2 dX8_sumOf_32 rfl rfl ?_
      exact gx_iret dX8_sumOf_33 rfl rfl rfl ⟨_, _, _, _, rfl, rfl, h⟩
    · replace h := h.2 z
      refine gx_iload_n 2 dX8_sumOf_17 rfl rfl ?_
      refine gx_aload_n 0 dX8_sumOf_18 rfl rfl ?_
      refine gx_getr 8 0 (v := 8) dX8_sumOf_19 fl_X8_9 rfl rfl rfl ?_
      refine gx_iload_n 3 dX8_sumOf_22 rfl rfl ?_
      obtain ⟨hi, h⟩ := h
      refine gx_iald (v := (I 8 (Int32.toNatClampNeg x3))) dX8_sumOf_23 rfl rfl hi (k := (Int32.toNatClampNeg x3)) rfl rfl ?_
      refine gx_iadd dX8_sumOf_24 ?_
      refine gx_istore_n (lv' := [(0, .ref 7), (1, .int x1), (2, .int (x2 + (I 8 (Int32.toNatClampNeg x3)))), (3, .int x3)]) dX8_sumOf_25 rfl rfl rfl ?_
      refine gx_iinc (v := (x3 + 1)) (lv' := [(0, .ref 7), (1, .int x1), (2, .int (x2 + (I 8 (Int32.toNatClampNeg x3)))), (3, .int (x3 + 1))]) 3 dX8_sumOf_26 rfl rfl rfl rfl ?_
      refine gx_goto 4 dX8_sumOf_29 (by decide) ?_
      exact h
abbrev Z_Sh7_goalAt (g : gm_G) (Q : Int32 → mI → mL → gm_cfg → Prop) (pc : Nat) (lv : List (Nat × Value)) (st : List Value) (I : mI) (L : mL) (c : gm_cfg) : Prop := gm_X g RX8 "goalAt" cX8_goalAt 3 (some .int) 2 0 0 (qI Q) 0 0 pc lv st (SH, I, L, RR c)
abbrev C_Sh7_goalAt (g : gm_G) (x1 : Int32) (x2 : Int32) (I : mI) (L : mL) (c : gm_cfg) (Q : Int32 → mI → mL → gm_cfg → Prop) : Prop := gm_Met g yX8_goalAt cX8_goalAt 3 (some .int) 2 0 0 [.ref 7, .int x1, .int x2] (SH, I, L, RR c) (qI Q)
set_option maxRecDepth 100000 in
theorem e_Sh7_goalAt {g : gm_G} {Q : Int32 → mI → mL → gm_cfg → Prop} {x1 x2 : Int32} {I : mI} {L : mL} {c : gm_cfg} (h : ((x2 = 0 → ((0 < x1 → (C_Sh7_sumOf g x1 I L c (fun r4 I1 L2 c3 => (¬ x1 = 0 ∧ Q (r4 / x1) I1 L2 c3)))) ∧ (¬ 0 < x1 → Q (-1) I L c))) ∧ (¬ x2 = 0 → Q (-1) I L c))) : C_Sh7_goalAt g x1 x2 I L c Q := by
  refine gm_enter (lv := [(0, .ref 7), (1, .int x1), (2, .int x2)]) (by decide) rfl rfl rfl rfl ?_
  show Z_Sh7_goalAt g Q 0 [(0, .ref 7), (1, .int x1), (2, .int x2)] [] I L c
  refine gx_iload_n 2 dX8_goalAt_0 rfl rfl ?_
  refine gx_if_ne 8 dX8_goalAt_1 (by decide) ⟨fun z => ?_, fun z => ?_⟩
  · replace h := h.1 z
    refine gx_iload_n 1 dX8_goalAt_4 rfl rfl ?_
    refine gx_if_gt 12 dX8_goalAt_5 (by decide) ⟨fun z => ?_, fun z => ?_⟩
    · replace h := h.1 z
      refine gx_aload_n 0 dX8_goalAt_12 rfl rfl ?_
      refine gx_iload_n 1 dX8_goalAt_13 rfl rfl ?_
      refine gx_callV 8 (As := [.int x1]) (st := []) dX8_goalAt_14 ml_X8_28 mm_X8_sumOf rfl rfl rfl rfl rfl rfl ⟨rfl, rfl⟩ h (fun v h2 hq => ?_)
      clear h
      obtain ⟨r4, I1, L2, c3, rfl, rfl, h⟩ := hq
      show Z_Sh7_goalAt g Q 17 [(0, .ref 7), (1, .int x1), (2, .int x2)] [.int r4] I1 L2 c3
      refine gx_iload_n 1 dX8_goalAt_17 rfl rfl ?_
      obtain ⟨hn, h⟩ := h
      refine gx_idiv dX8_goalAt_18 hn ?_
      exact gx_iret dX8_goalAt_19 rfl rfl rfl ⟨_, _, _, _, rfl, rfl, h⟩
    · replace h := h.2 z
      refine gx_iconst (v := (-1)) dX8_goalAt_8 (by decide) ?_
      refine gx_goto 19 dX8_goalAt_9 (by decide) ?_
      exact gx_iret dX8_goalAt_19 rfl rfl rfl ⟨_, _, _, _, rfl, rfl, h⟩
  · replace h := h.2 z
    refine gx_iconst (v := (-1)) dX8_goalAt_8 (by decide) ?_
    refine gx_goto 19 dX8_goalAt_9 (by decide) ?_
    exact gx_iret dX8_goalAt_19 rfl rfl rfl ⟨_, _, _, _, rfl, rfl, h⟩
abbrev Z_Sh7_add (g : gm_G) (Q : mI → mL → gm_cfg → Prop) (pc : Nat) (lv : List (Nat × Value)) (st : List Value) (I : mI) (L : mL) (c : gm_cfg) : Prop := gm_X g RX8 "add" cX8_add 3 none 1 0 0 (qV Q) 0 0 pc lv st (SH, I, L, RR c)
abbrev C_Sh7_add (g : gm_G) (x1 : Int32) (x2 : Int32) (I : mI) (L : mL) (c : gm_cfg) (Q : mI → mL → gm_cfg → Prop) : Prop := gm_Met g yX8_add cX8_add 3 none 1 0 0 [.ref 7, .int x1, .int x2] (SH, I, L, RR c) (qV Q)
set_option maxRecDepth 100000 in
theorem e_Sh7_add {g : gm_G} {Q : mI → mL → gm_cfg → Prop} {x1 x2 : Int32} {I : mI} {L : mL} {c : gm_cfg} (h : ((40 ≤ (I 7 2) → Q I L c) ∧ (¬ 40 ≤ (I 7 2) → (vp_in (I 7 2) 40 ∧ (vp_in (I 7 2) 40 ∧ Q (gm_u (gm_u (gm_u I 8 (Int32.toNatClampNeg (I 7 2)) x2) 9 (Int32.toNatClampNeg (I 7 2)) x1) 7 2 ((I 7 2) + 1)) L c))))) : C_Sh7_add g x1 x2 I L c Q := by
  refine gm_enter (lv := [(0, .ref 7), (1, .int x1), (2, .int x2)]) (by decide) rfl rfl rfl rfl ?_
  show Z_Sh7_add g Q 0 [(0, .ref 7), (1, .int x1), (2, .int x2)] [] I L c
  refine gx_aload_n 0 dX8_add_0 rfl rfl ?_
  refine gx_geti 8 2 (v := (I 7 2)) dX8_add_1 fl_X8_24 rfl rfl rfl ?_
  refine gx_bipush (v := 40) dX8_add_4 (by decide) ?_
  refine gx_icmp_ge 39 dX8_add_6 (by decide) ⟨fun z => ?_, fun z => ?_⟩
  · replace h := h.1 z
    exact gx_vret dX8_add_39 rfl rfl rfl ⟨_, _, _, rfl, rfl, h⟩
  · replace h := h.2 z
    refine gx_aload_n 0 dX8_add_9 rfl rfl ?_
    refine gx_getr 8 0 (v := 8) dX8_add_10 fl_X8_9 rfl rfl rfl ?_
    refine gx_aload_n 0 dX8_add_13 rfl rfl ?_
    refine gx_geti 8 2 (v := (I 7 2)) dX8_add_14 fl_X8_24 rfl rfl rfl ?_
    refine gx_iload_n 2 dX8_add_17 rfl rfl ?_
    obtain ⟨hi, h⟩ := h
    refine gx_iast dX8_add_18 rfl rfl hi (k := (Int32.toNatClampNeg (I 7 2))) rfl ?_
    show Z_Sh7_add g Q 19 [(0, .ref 7), (1, .int x1), (2, .int x2)] [] (gm_u I 8 (Int32.toNatClampNeg (I 7 2)) x2) L c
    refine gx_aload_n 0 dX8_add_19 rfl rfl ?_
    refine gx_getr 8 1 (v := 9) dX8_add_20 fl_X8_15 rfl rfl rfl ?_
    refine gx_aload_n 0 dX8_add_23 rfl rfl ?_
    refine gx_geti 8 2 (v := (I 7 2)) dX8_add_24 fl_X8_24 rfl rfl rfl ?_
    refine gx_iload_n 1 dX8_add_27 rfl rfl ?_
    obtain ⟨hi, h⟩ := h
    refine gx_iast dX8_add_28 rfl rfl hi (k := (Int32.toNatClampNeg (I 7 2))) rfl ?_
    show Z_Sh7_add g Q 29 [(0, .ref 7), (1, .int x1), (2, .int x2)] [] (gm_u (gm_u I 8 (Int32.toNatClampNeg (I 7 2)) x2) 9 (Int32.toNatClampNeg (I 7 2)) x1) L c
    refine gx_aload_n 0 dX8_add_29 rfl rfl ?_
    refine gx_dup dX8_add_30 rfl ?_
    refine gx_geti 8 2 (v := (I 7 2)) dX8_add_31 fl_X8_24 rfl rfl rfl ?_
    refine gx_iconst (v := 1) dX8_add_34 (by decide) ?_
    refine gx_iadd dX8_add_35 ?_
    refine gx_puti 8 2 dX8_add_36 fl_X8_24 rfl rfl rfl ⟨rfl, rfl⟩ ?_
    show Z_Sh7_add g Q 39 [(0, .ref 7), (1, .int x1), (2, .int x2)] [] (gm_u (gm_u (gm_u I 8 (Int32.toNatClampNeg (I 7 2)) x2) 9 (Int32.toNatClampNeg (I 7 2)) x1) 7 2 ((I 7 2) + 1)) L c
    exact gx_vret dX8_add_39 rfl rfl rfl ⟨_, _, _, rfl, rfl, h⟩
abbrev Z_Dr_fill_16_7 (g : gm_G) (Q : mI → mL → gm_cfg → Prop) (pc : Nat) (lv : List (Nat × Value)) (st : List Value) (I : mI) (L : mL) (c : gm_cfg) : Prop := gm_X g RX0 "fill" cX0_fill 7 none 4 0 0 (qV Q) 0 0 pc lv st (SH, I, L, RR c)
abbrev C_Dr_fill_16_7 (g : gm_G) (x3 : Int32) (x4 : Int32) (I : mI) (L : mL) (c : gm_cfg) (Q : mI → mL → gm_cfg → Prop) : Prop := gm_Met g yX0_fill cX0_fill 7 none 4 0 0 [.ref 10, .ref 16, .ref 7, .int x3, .int x4] (SH, I, L, RR c) (qV Q)
set_option maxRecDepth 100000 in
theorem e_Dr_fill_16_7 {g : gm_G} {Q : mI → mL → gm_cfg → Prop} {x3 x4 : Int32} {I : mI} {L : mL} {c : gm_cfg} (h : ((0 < (I 16 5) → Z_Dr_fill_16_7 g Q 11 [(0, .ref 10), (1, .ref 16), (2, .ref 7), (3, .int x3), (4, .int x4), (5, .int 0)] [] I L c) ∧ (¬ 0 < (I 16 5) → Q I L c))) : C_Dr_fill_16_7 g x3 x4 I L c Q := by
  refine gm_enter (lv := [(0, .ref 10), (1, .ref 16), (2, .ref 7), (3, .int x3), (4, .int x4)]) (by decide) rfl rfl rfl rfl ?_
  show Z_Dr_fill_16_7 g Q 0 [(0, .ref 10), (1, .ref 16), (2, .ref 7), (3, .int x3), (4, .int x4)] [] I L c
  refine gx_aload_n 1 dX0_fill_0 rfl rfl ?_
  refine gx_geti 1 5 (v := (I 16 5)) dX0_fill_1 fl_X0_16 rfl rfl rfl ?_
  refine gx_if_gt 8 dX0_fill_4 (by decide) ⟨fun z => ?_, fun z => ?_⟩
  · replace h := h.1 z
    refine gx_iconst (v := 0) dX0_fill_8 (by decide) ?_
    refine gx_istore (lv' := [(0, .ref 10), (1, .ref 16), (2, .ref 7), (3, .int x3), (4, .int x4), (5, .int 0)]) dX0_fill_9 rfl rfl ?_
    exact h
  · replace h := h.2 z
    exact gx_vret dX0_fill_7 rfl rfl rfl ⟨_, _, _, rfl, rfl, h⟩
set_option maxRecDepth 100000 in
theorem r_Dr_fill_16_7_11 {g : gm_G} {Q : mI → mL → gm_cfg → Prop} {x3 x4 x5 : Int32} {I : mI} {L : mL} {c : gm_cfg} (h : ((x3 ≤ x5 → Q I L c) ∧ (¬ x3 ≤ x5 → (C_Dr_draw g I L c (fun r4 I1 L2 c3 => (¬ (I1 16 5) = 0 ∧ (C_Sh7_goalAt g (I1 7 2) x4 I1 L2 c3 (fun r8 I5 L6 c7 => (C_Dr_nextNumber_16 g (r4 - r4 / (I1 16 5) * (I1 16 5)) r8 I5 L6 c7 (fun r12 I9 L10 c11 => (C_Sh7_add g (r4 - r4 / (I1 16 5) * (I1 16 5)) r12 I9 L10 c11 (fun I13 L14 c15 => Z_Dr_fill_16_7 g Q 11 [(0, .ref 10), (1, .ref 16), (2, .ref 7), (3, .int x3), (4, .int x4), (5, .int (x5 + 1))] [] I13 L14 c15)))))))))))) : Z_Dr_fill_16_7 g Q 11 [(0, .ref 10), (1, .ref 16), (2, .ref 7), (3, .int x3), (4, .int x4), (5, .int x5)] [] I L c := by
  refine gx_iload 5 dX0_fill_11 rfl ?_
  refine gx_iload_n 3 dX0_fill_13 rfl rfl ?_
  refine gx_icmp_ge 57 dX0_fill_14 (by decide) ⟨fun z => ?_, fun z => ?_⟩
  · replace h := h.1 z
    exact gx_vret dX0_fill_57 rfl rfl rfl ⟨_, _, _, rfl, rfl, h⟩
  · replace h := h.2 z
    refine gx_aload_n 0 dX0_fill_17 rfl rfl ?_
    refine gx_callV 0 (As := []) (st := []) dX0_fill_18 ml_X0_21 mm_X0_draw rfl rfl rfl rfl rfl rfl ⟨rfl, rfl⟩ h (fun v h2 hq => ?_)
    clear h
    obtain ⟨r4, I1, L2, c3, rfl, rfl, h⟩ := hq
    show Z_Dr_fill_16_7 g Q 21 [(0, .ref 10), (1, .ref 16), (2, .ref 7), (3, .int x3), (4, .int x4), (5, .int x5)] [.int r4] I1 L2 c3
    refine gx_aload_n 1 dX0_fill_21 rfl rfl ?_
    refine gx_geti 1 5 (v := (I1 16 5)) dX0_fill_22 fl_X0_16 rfl rfl rfl ?_
    obtain ⟨hn, h⟩ := h
    refine gx_irem dX0_fill_25 hn ?_
    refine gx_istore (lv' := [(0, .ref 10), (1, .ref 16), (2, .ref 7), (3, .int x3), (4, .int x4), (5, .int x5), (6, .int (r4 - r4 / (I1 16 5) * (I1 16 5)))]) dX0_fill_26 rfl rfl ?_
    refine gx_aload_n 2 dX0_fill_28 rfl rfl ?_
    refine gx_iload 6 dX0_fill_29 rfl ?_
    refine gx_aload_n 0 dX0_fill_31 rfl rfl ?_
    refine gx_aload_n 1 dX0_fill_32 rfl rfl ?_
    refine gx_iload 6 dX0_fill_33 rfl ?_
    refine gx_aload_n 2 dX0_fill_35 rfl rfl ?_
    refine gx_aload_n 2 dX0_fill_36 rfl rfl ?_
    refine gx_geti 8 2 (v := (I1 7 2)) dX0_fill_37 fl_X0_25 rfl rfl rfl ?_
    refine gx_iload 4 dX0_fill_40 rfl ?_
    refine gx_callV 8 (As := [.int (I1 7 2), .int x4]) (st := [.int (r4 - r4 / (I1 16 5) * (I1 16 5)), .ref 16, .ref 10, .int (r4 - r4 / (I1 16 5) * (I1 16 5)), .ref 7]) dX0_fill_42 ml_X0_30 mm_X8_goalAt rfl rfl rfl rfl rfl rfl ⟨rfl, rfl⟩ h (fun v h2 hq => ?_)
    clear h
    obtain ⟨r8, I5, L6, c7, rfl, rfl, h⟩ := hq
    show Z_Dr_fill_16_7 g Q 45 [(0, .ref 10), (1, .ref 16), (2, .ref 7), (3, .int x3), (4, .int x4), (5, .int x5), (6, .int (r4 - r4 / (I1 16 5) * (I1 16 5)))] [.int r8, .int (r4 - r4 / (I1 16 5) * (I1 16 5)), .ref 16, .ref 10, .int (r4 - r4 / (I1 16 5) * (I1 16 5)), .ref 7] I5 L6 c7
    refine gx_callV 0 (As := [.ref 16, .int (r4 - r4 / (I1 16 5) * (I1 16 5)), .int r8]) (st := [.int (r4 - r4 / (I1 16 5) * (I1 16 5)), .ref 7]) dX0_fill_45 ml_X0_34 mm_X0_nextNumber rfl rfl rfl rfl rfl rfl ⟨rfl, rfl⟩ h (fun v h2 hq => ?_)
    clear h
    obtain ⟨r12, I9, L10, c11, rfl, rfl, h⟩ := hq
    show Z_Dr_fill_16_7 g Q 48 [(0, .ref 10), (1, .ref 16), (2, .ref 7), (3, .int x3), (4, .int x4), (5, .int x5), (6, .int (r4 - r4 / (I1 16 5) * (I1 16 5)))] [.int r12, .int (r4 - r4 / (I1 16 5) * (I1 16 5)), .ref 7] I9 L10 c11
    refine gx_callV 8 (As := [.int (r4 - r4 / (I1 16 5) * (I1 16 5)), .int r12]) (st := []) dX0_fill_48 ml_X0_38 mm_X8_add rfl rfl rfl rfl rfl rfl ⟨rfl, rfl⟩ h (fun v h2 hq => ?_)
    clear h
    obtain ⟨I13, L14, c15, rfl, rfl, h⟩ := hq
    show Z_Dr_fill_16_7 g Q 51 [(0, .ref 10), (1, .ref 16), (2, .ref 7), (3, .int x3), (4, .int x4), (5, .int x5), (6, .int (r4 - r4 / (I1 16 5) * (I1 16 5)))] [] I13 L14 c15
    refine gx_iinc (v := (x5 + 1)) (lv' := [(0, .ref 10), (1, .ref 16), (2, .ref 7), (3, .int x3), (4, .int x4), (5, .int (x5 + 1)), (6, .int (r4 - r4 / (I1 16 5) * (I1 16 5)))]) 5 dX0_fill_51 rfl rfl rfl rfl ?_
    refine gx_goto 11 dX0_fill_54 (by decide) ?_
    refine gx_sub [0, 1, 2, 3, 4, 5] (lv' := [(0, .ref 10), (1, .ref 16), (2, .ref 7), (3, .int x3), (4, .int x4), (5, .int (x5 + 1))]) rfl ?_
    exact h
abbrev Z_Sh7_nearestTo (g : gm_G) (Q : Int32 → mI → mL → gm_cfg → Prop) (pc : Nat) (lv : List (Nat × Value)) (st : List Value) (I : mI) (L : mL) (c : gm_cfg) : Prop := gm_X g RX8 "nearestTo" cX8_nearestTo 6 (some .int) 1 0 0 (qI Q) 0 0 pc lv st (SH, I, L, RR c)
abbrev C_Sh7_nearestTo (g : gm_G) (x1 : Int32) (I : mI) (L : mL) (c : gm_cfg) (Q : Int32 → mI → mL → gm_cfg → Prop) : Prop := gm_Met g yX8_nearestTo cX8_nearestTo 6 (some .int) 1 0 0 [.ref 7, .int x1] (SH, I, L, RR c) (qI Q)
set_option maxRecDepth 100000 in
theorem e_Sh7_nearestTo {g : gm_G} {Q : Int32 → mI → mL → gm_cfg → Prop} {x1 : Int32} {I : mI} {L : mL} {c : gm_cfg} (h : Z_Sh7_nearestTo g Q 7 [(0, .ref 7), (1, .int x1), (2, .int (-1)), (3, .int 0), (4, .int 0)] [] I L c) : C_Sh7_nearestTo g x1 I L c Q := by
  refine gm_enter (lv := [(0, .ref 7), (1, .int x1)]) (by decide) rfl rfl rfl rfl ?_
  show Z_Sh7_nearestTo g Q 0 [(0, .ref 7), (1, .int x1)] [] I L c
  refine gx_iconst (v := (-1)) dX8_nearestTo_0 (by decide) ?_
  refine gx_istore_n (lv' := [(0, .ref 7), (1, .int x1), (2, .int (-1))]) dX8_nearestTo_1 rfl rfl rfl ?_
  refine gx_iconst (v := 0) dX8_nearestTo_2 (by decide) ?_
  refine gx_istore_n (lv' := [(0, .ref 7), (1, .int x1), (2, .int (-1)), (3, .int 0)]) dX8_nearestTo_3 rfl rfl rfl ?_
  refine gx_iconst (v := 0) dX8_nearestTo_4 (by decide) ?_
  refine gx_istore (lv' := [(0, .ref 7), (1, .int x1), (2, .int (-1)), (3, .int 0), (4, .int 0)]) dX8_nearestTo_5 rfl rfl ?_
  exact h
set_option maxRecDepth 100000 in
theorem r_Sh7_nearestTo_7 {g : gm_G} {Q : Int32 → mI → mL → gm_cfg → Prop} {x1 x2 x3 x4 : Int32} {I : mI} {L : mL} {c : gm_cfg} (h : (((I 7 2) ≤ x4 → Q x2 I L c) ∧ (¬ (I 7 2) ≤ x4 → (vp_in x4 40 ∧ ((x2 = (-1) → Z_Sh7_nearestTo g Q 7 [(0, .ref 7), (1, .int x1), (2, .int x4), (3, .int ((if 0 ≤ ((I 8 (Int32.toNatClampNeg x4)) - x1) then ((I 8 (Int32.toNatClampNeg x4)) - x1) else 0 - ((I 8 (Int32.toNatClampNeg x4)) - x1)) : Int32)), (4, .int (x4 + 1))] [] I L c) ∧ (¬ x2 = (-1) → ((x3 ≤ ((if 0 ≤ ((I 8 (Int32.toNatClampNeg x4)) - x1) then ((I 8 (Int32.toNatClampNeg x4)) - x1) else 0 - ((I 8 (Int32.toNatClampNeg x4)) - x1)) : Int32) → Z_Sh7_nearestTo g Q 7 [(0, .ref 7), (1, .int x1), (2, .int x2), (3, .int x3), (4, .int (x4 + 1))] [] I L c) ∧ (¬ x3 ≤ ((if 0 ≤ ((I 8 (Int32.toNatClampNeg x4)) - x1) then ((I 8 (Int32.toNatClampNeg x4)) - x1) else 0 - ((I 8 (Int32.toNatClampNeg x4)) - x1)) : Int32) → Z_Sh7_nearestTo g Q 7 [(0, .ref 7), (1, .int x1), (2, .int x4), (3, .int ((if 0 ≤ ((I 8 (Int32.toNatClampNeg x4)) - x1) then ((I 8 (Int32.toNatClampNeg x4)) - x1) else 0 - ((I 8 (Int32.toNatClampNeg x4)) - x1)) : Int32)), (4, .int (x4 + 1))] [] I L c)))))))) : Z_Sh7_nearestTo g Q 7 [(0, .ref 7), (1, .int x1), (2, .int x2), (3, .int x3), (4, .int x4)] [] I L c := by
  refine gx_iload 4 dX8_nearestTo_7 rfl ?_
  refine gx_aload_n 0 dX8_nearestTo_9 rfl rfl ?_
  refine gx_geti 8 2 (v := (I 7 2)) dX8_nearestTo_10 fl_X8_24 rfl rfl rfl ?_
  refine gx_icmp_ge 53 dX8_nearestTo_13 (by decide) ⟨fun z => ?_, fun z => ?_⟩
  · replace h := h.1 z
    refine gx_iload_n 2 dX8_nearestTo_53 rfl rfl ?_
    exact gx_iret dX8_nearestTo_54 rfl rfl rfl ⟨_, _, _, _, rfl, rfl, h⟩
  · replace h := h.2 z
    refine gx_aload_n 0 dX8_nearestTo_16 rfl rfl ?_
    refine gx_getr 8 0 (v := 8) dX8_nearestTo_17 fl_X8_9 rfl rfl rfl ?_
    refine gx_iload 4 dX8_nearestTo_20 rfl ?_
    obtain ⟨hi, h⟩ := h
    refine gx_iald (v := (I 8 (Int32.toNatClampNeg x4))) dX8_nearestTo_22 rfl rfl hi (k := (Int32.toNatClampNeg x4)) rfl rfl ?_
    refine gx_iload_n 1 dX8_nearestTo_23 rfl rfl ?_
    refine gx_isub dX8_nearestTo_24 ?_
    refine gx_mabs dX8_nearestTo_25 ml_X8_32 mw_abs rfl rfl rfl rfl ?_
    refine gx_istore (lv' := [(0, .ref 7), (1, .int x1), (2, .int x2), (3, .int x3), (4, .int x4), (5, .int ((if 0 ≤ ((I 8 (Int32.toNatClampNeg x4)) - x1) then ((I 8 (Int32.toNatClampNeg x4)) - x1) else 0 - ((I 8 (Int32.toNatClampNeg x4)) - x1)) : Int32))]) dX8_nearestTo_28 rfl rfl ?_
    refine gx_iload_n 2 dX8_nearestTo_30 rfl rfl ?_
    refine gx_iconst (v := (-1)) dX8_nearestTo_31 (by decide) ?_
    refine gx_icmp_eq 41 dX8_nearestTo_32 (by decide) ⟨fun z => ?_, fun z => ?_⟩
    · replace h := h.1 z
      refine gx_iload 5 dX8_nearestTo_41 rfl ?_
      refine gx_istore_n (lv' := [(0, .ref 7), (1, .int x1), (2, .int x2), (3, .int ((if 0 ≤ ((I 8 (Int32.toNatClampNeg x4)) - x1) then ((I 8 (Int32.toNatClampNeg x4)) - x1) else 0 - ((I 8 (Int32.toNatClampNeg x4)) - x1)) : Int32)), (4, .int x4), (5, .int ((if 0 ≤ ((I 8 (Int32.toNatClampNeg x4)) - x1) then ((I 8 (Int32.toNatClampNeg x4)) - x1) else 0 - ((I 8 (Int32.toNatClampNeg x4)) - x1)) : Int32))]) dX8_nearestTo_43 rfl rfl rfl ?_
      refine gx_iload 4 dX8_nearestTo_44 rfl ?_
      refine gx_istore_n (lv' := [(0, .ref 7), (1, .int x1), (2, .int x4), (3, .int ((if 0 ≤ ((I 8 (Int32.toNatClampNeg x4)) - x1) then ((I 8 (Int32.toNatClampNeg x4)) - x1) else 0 - ((I 8 (Int32.toNatClampNeg x4)) - x1)) : Int32)), (4, .int x4), (5, .int ((if 0 ≤ ((I 8 (Int32.toNatClampNeg x4)) - x1) then ((I 8 (Int32.toNatClampNeg x4)) - x1) else 0 - ((I 8 (Int32.toNatClampNeg x4)) - x1)) : Int32))]) dX8_nearestTo_46 rfl rfl rfl ?_
      refine gx_iinc (v := (x4 + 1)) (lv' := [(0, .ref 7), (1, .int x1), (2, .int x4), (3, .int ((if 0 ≤ ((I 8 (Int32.toNatClampNeg x4)) - x1) then ((I 8 (Int32.toNatClampNeg x4)) - x1) else 0 - ((I 8 (Int32.toNatClampNeg x4)) - x1)) : Int32)), (4, .int (x4 + 1)), (5, .int ((if 0 ≤ ((I 8 (Int32.toNatClampNeg x4)) - x1) then ((I 8 (Int32.toNatClampNeg x4)) - x1) else 0 - ((I 8 (Int32.toNatClampNeg x4)) - x1)) : Int32))]) 4 dX8_nearestTo_47 rfl rfl rfl rfl ?_
      refine gx_goto 7 dX8_nearestTo_50 (by decide) ?_
      refine gx_sub [0, 1, 2, 3, 4] (lv' := [(0, .ref 7), (1, .int x1), (2, .int x4), (3, .int ((if 0 ≤ ((I 8 (Int32.toNatClampNeg x4)) - x1) then ((I 8 (Int32.toNatClampNeg x4)) - x1) else 0 - ((I 8 (Int32.toNatClampNeg x4)) - x1)) : Int32)), (4, .int (x4 + 1))]) rfl ?_
      exact h
    · replace h := h.2 z
      refine gx_iload 5 dX8_nearestTo_35 rfl ?_
      refine gx_iload_n 3 dX8_nearestTo_37 rfl rfl ?_
      refine gx_icmp_ge 47 dX8_nearestTo_38 (by decide) ⟨fun z => ?_, fun z => ?_⟩
      · replace h := h.1 z
        refine gx_iinc (v := (x4 + 1)) (lv' := [(0, .ref 7), (1, .int x1), (2, .int x2), (3, .int x3), (4, .int (x4 + 1)), (5, .int ((if 0 ≤ ((I 8 (Int32.toNatClampNeg x4)) - x1) then ((I 8 (Int32.toNatClampNeg x4)) - x1) else 0 - ((I 8 (Int32.toNatClampNeg x4)) - x1)) : Int32))]) 4 dX8_nearestTo_47 rfl rfl rfl rfl ?_
        refine gx_goto 7 dX8_nearestTo_50 (by decide) ?_
        refine gx_sub [0, 1, 2, 3, 4] (lv' := [(0, .ref 7), (1, .int x1), (2, .int x2), (3, .int x3), (4, .int (x4 + 1))]) rfl ?_
        exact h
      · replace h := h.2 z
        refine gx_iload 5 dX8_nearestTo_41 rfl ?_
        refine gx_istore_n (lv' := [(0, .ref 7), (1, .int x1), (2, .int x2), (3, .int ((if 0 ≤ ((I 8 (Int32.toNatClampNeg x4)) - x1) then ((I 8 (Int32.toNatClampNeg x4)) - x1) else 0 - ((I 8 (Int32.toNatClampNeg x4)) - x1)) : Int32)), (4, .int x4), (5, .int ((if 0 ≤ ((I 8 (Int32.toNatClampNeg x4)) - x1) then ((I 8 (Int32.toNatClampNeg x4)) - x1) else 0 - ((I 8 (Int32.toNatClampNeg x4)) - x1)) : Int32))]) dX8_nearestTo_43 rfl rfl rfl ?_
        refine gx_iload 4 dX8_nearestTo_44 rfl ?_
        refine gx_istore_n (lv' := [(0, .ref 7), (1, .int x1), (2, .int x4), (3, .int ((if 0 ≤ ((I 8 (Int32.toNatClampNeg x4)) - x1) then ((I 8 (Int32.toNatClampNeg x4)) - x1) else 0 - ((I 8 (Int32.toNatClampNeg x4)) - x1)) : Int32)), (4, .int x4), (5, .int ((if 0 ≤ ((I 8 (Int32.toNatClampNeg x4)) - x1) then ((I 8 (Int32.toNatClampNeg x4)) - x1) else 0 - ((I 8 (Int32.toNatClampNeg x4)) - x1)) : Int32))]) dX8_nearestTo_46 rfl rfl rfl ?_
        refine gx_iinc (v := (x4 + 1)) (lv' := [(0, .ref 7), (1, .int x1), (2, .int x4), (3, .int ((if 0 ≤ ((I 8 (Int32.toNatClampNeg x4)) - x1) then ((I 8 (Int32.toNatClampNeg x4)) - x1) else 0 - ((I 8 (Int32.toNatClampNeg x4)) - x1)) : Int32)), (4, .int (x4 + 1)), (5, .int ((if 0 ≤ ((I 8 (Int32.toNatClampNeg x4)) - x1) then ((I 8 (Int32.toNatClampNeg x4)) - x1) else 0 - ((I 8 (Int32.toNatClampNeg x4)) - x1)) : Int32))]) 4 dX8_nearestTo_47 rfl rfl rfl rfl ?_
        refine gx_goto 7 dX8_nearestTo_50 (by decide) ?_
        refine gx_sub [0, 1, 2, 3, 4] (lv' := [(0, .ref 7), (1, .int x1), (2, .int x4), (3, .int ((if 0 ≤ ((I 8 (Int32.toNatClampNeg x4)) - x1) then ((I 8 (Int32.toNatClampNeg x4)) - x1) else 0 - ((I 8 (Int32.toNatClampNeg x4)) - x1)) : Int32)), (4, .int (x4 + 1))]) rfl ?_
        exact h
abbrev Z_Sh7_meanOf (g : gm_G) (Q : Int32 → mI → mL → gm_cfg → Prop) (pc : Nat) (lv : List (Nat × Value)) (st : List Value) (I : mI) (L : mL) (c : gm_cfg) : Prop := gm_X g RX8 "meanOf" cX8_meanOf 2 (some .int) 2 0 0 (qI Q) 0 0 pc lv st (SH, I, L, RR c)
abbrev C_Sh7_meanOf (g : gm_G) (x1 : Int32) (I : mI) (L : mL) (c : gm_cfg) (Q : Int32 → mI → mL → gm_cfg → Prop) : Prop := gm_Met g yX8_meanOf cX8_meanOf 2 (some .int) 2 0 0 [.ref 7, .int x1] (SH, I, L, RR c) (qI Q)
set_option maxRecDepth 100000 in
theorem e_Sh7_meanOf {g : gm_G} {Q : Int32 → mI → mL → gm_cfg → Prop} {x1 : Int32} {I : mI} {L : mL} {c : gm_cfg} (h : ((x1 ≤ 0 → Q (-1) I L c) ∧ (¬ x1 ≤ 0 → (C_Sh7_sumOf g x1 I L c (fun r4 I1 L2 c3 => (¬ x1 = 0 ∧ Q (r4 / x1) I1 L2 c3)))))) : C_Sh7_meanOf g x1 I L c Q := by
  refine gm_enter (lv := [(0, .ref 7), (1, .int x1)]) (by decide) rfl rfl rfl rfl ?_
  show Z_Sh7_meanOf g Q 0 [(0, .ref 7), (1, .int x1)] [] I L c
  refine gx_iload_n 1 dX8_meanOf_0 rfl rfl ?_
  refine gx_if_le 14 dX8_meanOf_1 (by decide) ⟨fun z => ?_, fun z => ?_⟩
  · replace h := h.1 z
    refine gx_iconst (v := (-1)) dX8_meanOf_14 (by decide) ?_
    exact gx_iret dX8_meanOf_15 rfl rfl rfl ⟨_, _, _, _, rfl, rfl, h⟩
  · replace h := h.2 z
    refine gx_aload_n 0 dX8_meanOf_4 rfl rfl ?_
    refine gx_iload_n 1 dX8_meanOf_5 rfl rfl ?_
    refine gx_callV 8 (As := [.int x1]) (st := []) dX8_meanOf_6 ml_X8_28 mm_X8_sumOf rfl rfl rfl rfl rfl rfl ⟨rfl, rfl⟩ h (fun v h2 hq => ?_)
    clear h
    obtain ⟨r4, I1, L2, c3, rfl, rfl, h⟩ := hq
    show Z_Sh7_meanOf g Q 9 [(0, .ref 7), (1, .int x1)] [.int r4] I1 L2 c3
    refine gx_iload_n 1 dX8_meanOf_9 rfl rfl ?_
    obtain ⟨hn, h⟩ := h
    refine gx_idiv dX8_meanOf_10 hn ?_
    refine gx_goto 15 dX8_meanOf_11 (by decide) ?_
    exact gx_iret dX8_meanOf_15 rfl rfl rfl ⟨_, _, _, _, rfl, rfl, h⟩
abbrev Z_Sh7_has (g : gm_G) (Q : Bool → mI → mL → gm_cfg → Prop) (pc : Nat) (lv : List (Nat × Value)) (st : List Value) (I : mI) (L : mL) (c : gm_cfg) : Prop := gm_X g RX8 "has" cX8_has 2 (some .boolean) 1 0 0 (qZ Q) 0 0 pc lv st (SH, I, L, RR c)
abbrev C_Sh7_has (g : gm_G) (x1 : Int32) (I : mI) (L : mL) (c : gm_cfg) (Q : Bool → mI → mL → gm_cfg → Prop) : Prop := gm_Met g yX8_has cX8_has 2 (some .boolean) 1 0 0 [.ref 7, .int x1] (SH, I, L, RR c) (qZ Q)
set_option maxRecDepth 100000 in
theorem e_Sh7_has {g : gm_G} {Q : Bool → mI → mL → gm_cfg → Prop} {x1 : Int32} {I : mI} {L : mL} {c : gm_cfg} (h : ((x1 < 0 → Q false I L c) ∧ (¬ x1 < 0 → (((I 7 2) ≤ x1 → Q false I L c) ∧ (¬ (I 7 2) ≤ x1 → ((40 ≤ x1 → Q false I L c) ∧ (¬ 40 ≤ x1 → Q true I L c))))))) : C_Sh7_has g x1 I L c Q := by
  refine gm_enter (lv := [(0, .ref 7), (1, .int x1)]) (by decide) rfl rfl rfl rfl ?_
  show Z_Sh7_has g Q 0 [(0, .ref 7), (1, .int x1)] [] I L c
  refine gx_iload_n 1 dX8_has_0 rfl rfl ?_
  refine gx_if_lt 22 dX8_has_1 (by decide) ⟨fun z => ?_, fun z => ?_⟩
  · replace h := h.1 z
    refine gx_iconst (v := 0) dX8_has_22 (by decide) ?_
    exact gx_zret .boolean dX8_has_23 rfl rfl rfl rfl ⟨false, _, _, _, rfl, rfl, h⟩
  · replace h := h.2 z
    refine gx_iload_n 1 dX8_has_4 rfl rfl ?_
    refine gx_aload_n 0 dX8_has_5 rfl rfl ?_
    refine gx_geti 8 2 (v := (I 7 2)) dX8_has_6 fl_X8_24 rfl rfl rfl ?_
    refine gx_icmp_ge 22 dX8_has_9 (by decide) ⟨fun z => ?_, fun z => ?_⟩
    · replace h := h.1 z
      refine gx_iconst (v := 0) dX8_has_22 (by decide) ?_
      exact gx_zret .boolean dX8_has_23 rfl rfl rfl rfl ⟨false, _, _, _, rfl, rfl, h⟩
    · replace h := h.2 z
      refine gx_iload_n 1 dX8_has_12 rfl rfl ?_
      refine gx_bipush (v := 40) dX8_has_13 (by decide) ?_
      refine gx_icmp_ge 22 dX8_has_15 (by decide) ⟨fun z => ?_, fun z => ?_⟩
      · replace h := h.1 z
        refine gx_iconst (v := 0) dX8_has_22 (by decide) ?_
        exact gx_zret .boolean dX8_has_23 rfl rfl rfl rfl ⟨false, _, _, _, rfl, rfl, h⟩
      · replace h := h.2 z
        refine gx_iconst (v := 1) dX8_has_18 (by decide) ?_
        refine gx_goto 23 dX8_has_19 (by decide) ?_
        exact gx_zret .boolean dX8_has_23 rfl rfl rfl rfl ⟨true, _, _, _, rfl, rfl, h⟩
abbrev Z_Ro35_begin (g : gm_G) (Q : mI → mL → gm_cfg → Prop) (pc : Nat) (lv : List (Nat × Value)) (st : List Value) (I : mI) (L : mL) (c : gm_cfg) : Prop := gm_X g RX6 "begin" cX6_begin 4 none 1 0 0 (qV Q) 0 0 pc lv st (SH, I, L, RR c)
abbrev C_Ro35_begin (g : gm_G) (x1 : Int32) (x2 : Int32) (I : mI) (L : mL) (c : gm_cfg) (Q : mI → mL → gm_cfg → Prop) : Prop := gm_Met g yX6_begin cX6_begin 4 none 1 0 0 [.ref 35, .int x1, .int x2] (SH, I, L, RR c) (qV Q)
set_option maxRecDepth 100000 in
theorem e_Ro35_begin {g : gm_G} {Q : mI → mL → gm_cfg → Prop} {x1 x2 : Int32} {I : mI} {L : mL} {c : gm_cfg} (h : Z_Ro35_begin g Q 12 [(0, .ref 35), (1, .int x1), (2, .int x2), (3, .int 0)] [] (gm_u (gm_u I 35 2 x1) 35 1 x2) L c) : C_Ro35_begin g x1 x2 I L c Q := by
  refine gm_enter (lv := [(0, .ref 35), (1, .int x1), (2, .int x2)]) (by decide) rfl rfl rfl rfl ?_
  show Z_Ro35_begin g Q 0 [(0, .ref 35), (1, .int x1), (2, .int x2)] [] I L c
  refine gx_aload_n 0 dX6_begin_0 rfl rfl ?_
  refine gx_iload_n 1 dX6_begin_1 rfl rfl ?_
  refine gx_puti 6 2 dX6_begin_2 fl_X6_19 rfl rfl rfl ⟨rfl, rfl⟩ ?_
  show Z_Ro35_begin g Q 5 [(0, .ref 35), (1, .int x1), (2, .int x2)] [] (gm_u I 35 2 x1) L c
  refine gx_aload_n 0 dX6_begin_5 rfl rfl ?_
  refine gx_iload_n 2 dX6_begin_6 rfl rfl ?_
  refine gx_puti 6 1 dX6_begin_7 fl_X6_15 rfl rfl rfl ⟨rfl, rfl⟩ ?_
  show Z_Ro35_begin g Q 10 [(0, .ref 35), (1, .int x1), (2, .int x2)] [] (gm_u (gm_u I 35 2 x1) 35 1 x2) L c
  refine gx_iconst (v := 0) dX6_begin_10 (by decide) ?_
  refine gx_istore_n (lv' := [(0, .ref 35), (1, .int x1), (2, .int x2), (3, .int 0)]) dX6_begin_11 rfl rfl rfl ?_
  exact h
set_option maxRecDepth 100000 in
theorem r_Ro35_begin_12 {g : gm_G} {Q : mI → mL → gm_cfg → Prop} {x1 x2 x3 : Int32} {I : mI} {L : mL} {c : gm_cfg} (h : ((40 ≤ x3 → Q I L c) ∧ (¬ 40 ≤ x3 → (vp_in x3 40 ∧ Z_Ro35_begin g Q 12 [(0, .ref 35), (1, .int x1), (2, .int x2), (3, .int (x3 + 1))] [] I (gm_u L 36 (Int32.toNatClampNeg x3) 0) c)))) : Z_Ro35_begin g Q 12 [(0, .ref 35), (1, .int x1), (2, .int x2), (3, .int x3)] [] I L c := by
  refine gx_iload_n 3 dX6_begin_12 rfl rfl ?_
  refine gx_bipush (v := 40) dX6_begin_13 (by decide) ?_
  refine gx_icmp_ge 31 dX6_begin_15 (by decide) ⟨fun z => ?_, fun z => ?_⟩
  · replace h := h.1 z
    exact gx_vret dX6_begin_31 rfl rfl rfl ⟨_, _, _, rfl, rfl, h⟩
  · replace h := h.2 z
    refine gx_aload_n 0 dX6_begin_18 rfl rfl ?_
    refine gx_getr 6 0 (v := 36) dX6_begin_19 fl_X6_9 rfl rfl rfl ?_
    refine gx_iload_n 3 dX6_begin_22 rfl rfl ?_
    refine gx_lconst (v := 0) dX6_begin_23 (by decide) ?_
    obtain ⟨hi, h⟩ := h
    refine gx_last dX6_begin_24 rfl rfl hi (k := (Int32.toNatClampNeg x3)) rfl ?_
    show Z_Ro35_begin g Q 25 [(0, .ref 35), (1, .int x1), (2, .int x2), (3, .int x3)] [] I (gm_u L 36 (Int32.toNatClampNeg x3) 0) c
    refine gx_iinc (v := (x3 + 1)) (lv' := [(0, .ref 35), (1, .int x1), (2, .int x2), (3, .int (x3 + 1))]) 3 dX6_begin_25 rfl rfl rfl rfl ?_
    refine gx_goto 12 dX6_begin_28 (by decide) ?_
    exact h
abbrev Z_Ro37_begin (g : gm_G) (Q : mI → mL → gm_cfg → Prop) (pc : Nat) (lv : List (Nat × Value)) (st : List Value) (I : mI) (L : mL) (c : gm_cfg) : Prop := gm_X g RX6 "begin" cX6_begin 4 none 1 0 0 (qV Q) 0 0 pc lv st (SH, I, L, RR c)
abbrev C_Ro37_begin (g : gm_G) (x1 : Int32) (x2 : Int32) (I : mI) (L : mL) (c : gm_cfg) (Q : mI → mL → gm_cfg → Prop) : Prop := gm_Met g yX6_begin cX6_begin 4 none 1 0 0 [.ref 37, .int x1, .int x2] (SH, I, L, RR c) (qV Q)
set_option maxRecDepth 100000 in
theorem e_Ro37_begin {g : gm_G} {Q : mI → mL → gm_cfg → Prop} {x1 x2 : Int32} {I : mI} {L : mL} {c : gm_cfg} (h : Z_Ro37_begin g Q 12 [(0, .ref 37), (1, .int x1), (2, .int x2), (3, .int 0)] [] (gm_u (gm_u I 37 2 x1) 37 1 x2) L c) : C_Ro37_begin g x1 x2 I L c Q := by
  refine gm_enter (lv := [(0, .ref 37), (1, .int x1), (2, .int x2)]) (by decide) rfl rfl rfl rfl ?_
  show Z_Ro37_begin g Q 0 [(0, .ref 37), (1, .int x1), (2, .int x2)] [] I L c
  refine gx_aload_n 0 dX6_begin_0 rfl rfl ?_
  refine gx_iload_n 1 dX6_begin_1 rfl rfl ?_
  refine gx_puti 6 2 dX6_begin_2 fl_X6_19 rfl rfl rfl ⟨rfl, rfl⟩ ?_
  show Z_Ro37_begin g Q 5 [(0, .ref 37), (1, .int x1), (2, .int x2)] [] (gm_u I 37 2 x1) L c
  refine gx_aload_n 0 dX6_begin_5 rfl rfl ?_
  refine gx_iload_n 2 dX6_begin_6 rfl rfl ?_
  refine gx_puti 6 1 dX6_begin_7 fl_X6_15 rfl rfl rfl ⟨rfl, rfl⟩ ?_
  show Z_Ro37_begin g Q 10 [(0, .ref 37), (1, .int x1), (2, .int x2)] [] (gm_u (gm_u I 37 2 x1) 37 1 x2) L c
  refine gx_iconst (v := 0) dX6_begin_10 (by decide) ?_
  refine gx_istore_n (lv' := [(0, .ref 37), (1, .int x1), (2, .int x2), (3, .int 0)]) dX6_begin_11 rfl rfl rfl ?_
  exact h
set_option maxRecDepth 100000 in
theorem r_Ro37_begin_12 {g : gm_G} {Q : mI → mL → gm_cfg → Prop} {x1 x2 x3 : Int32} {I : mI} {L : mL} {c : gm_cfg} (h : ((40 ≤ x3 → Q I L c) ∧ (¬ 40 ≤ x3 → (vp_in x3 40 ∧ Z_Ro37_begin g Q 12 [(0, .ref 37), (1, .int x1), (2, .int x2), (3, .int (x3 + 1))] [] I (gm_u L 38 (Int32.toNatClampNeg x3) 0) c)))) : Z_Ro37_begin g Q 12 [(0, .ref 37), (1, .int x1), (2, .int x2), (3, .int x3)] [] I L c := by
  refine gx_iload_n 3 dX6_begin_12 rfl rfl ?_
  refine gx_bipush (v := 40) dX6_begin_13 (by decide) ?_
  refine gx_icmp_ge 31 dX6_begin_15 (by decide) ⟨fun z => ?_, fun z => ?_⟩
  · replace h := h.1 z
    exact gx_vret dX6_begin_31 rfl rfl rfl ⟨_, _, _, rfl, rfl, h⟩
  · replace h := h.2 z
    refine gx_aload_n 0 dX6_begin_18 rfl rfl ?_
    refine gx_getr 6 0 (v := 38) dX6_begin_19 fl_X6_9 rfl rfl rfl ?_
    refine gx_iload_n 3 dX6_begin_22 rfl rfl ?_
    refine gx_lconst (v := 0) dX6_begin_23 (by decide) ?_
    obtain ⟨hi, h⟩ := h
    refine gx_last dX6_begin_24 rfl rfl hi (k := (Int32.toNatClampNeg x3)) rfl ?_
    show Z_Ro37_begin g Q 25 [(0, .ref 37), (1, .int x1), (2, .int x2), (3, .int x3)] [] I (gm_u L 38 (Int32.toNatClampNeg x3) 0) c
    refine gx_iinc (v := (x3 + 1)) (lv' := [(0, .ref 37), (1, .int x1), (2, .int x2), (3, .int (x3 + 1))]) 3 dX6_begin_25 rfl rfl rfl rfl ?_
    refine gx_goto 12 dX6_begin_28 (by decide) ?_
    exact h
abbrev Z_Ro39_begin (g : gm_G) (Q : mI → mL → gm_cfg → Prop) (pc : Nat) (lv : List (Nat × Value)) (st : List Value) (I : mI) (L : mL) (c : gm_cfg) : Prop := gm_X g RX6 "begin" cX6_begin 4 none 1 0 0 (qV Q) 0 0 pc lv st (SH, I, L, RR c)
abbrev C_Ro39_begin (g : gm_G) (x1 : Int32) (x2 : Int32) (I : mI) (L : mL) (c : gm_cfg) (Q : mI → mL → gm_cfg → Prop) : Prop := gm_Met g yX6_begin cX6_begin 4 none 1 0 0 [.ref 39, .int x1, .int x2] (SH, I, L, RR c) (qV Q)
set_option maxRecDepth 100000 in
theorem e_Ro39_begin {g : gm_G} {Q : mI → mL → gm_cfg → Prop} {x1 x2 : Int32} {I : mI} {L : mL} {c : gm_cfg} (h : Z_Ro39_begin g Q 12 [(0, .ref 39), (1, .int x1), (2, .int x2), (3, .int 0)] [] (gm_u (gm_u I 39 2 x1) 39 1 x2) L c) : C_Ro39_begin g x1 x2 I L c Q := by
  refine gm_enter (lv := [(0, .ref 39), (1, .int x1), (2, .int x2)]) (by decide) rfl rfl rfl rfl ?_
  show Z_Ro39_begin g Q 0 [(0, .ref 39), (1, .int x1), (2, .int x2)] [] I L c
  refine gx_aload_n 0 dX6_begin_0 rfl rfl ?_
  refine gx_iload_n 1 dX6_begin_1 rfl rfl ?_
  refine gx_puti 6 2 dX6_begin_2 fl_X6_19 rfl rfl rfl ⟨rfl, rfl⟩ ?_
  show Z_Ro39_begin g Q 5 [(0, .ref 39), (1, .int x1), (2, .int x2)] [] (gm_u I 39 2 x1) L c
  refine gx_aload_n 0 dX6_begin_5 rfl rfl ?_
  refine gx_iload_n 2 dX6_begin_6 rfl rfl ?_
  refine gx_puti 6 1 dX6_begin_7 fl_X6_15 rfl rfl rfl ⟨rfl, rfl⟩ ?_
  show Z_Ro39_begin g Q 10 [(0, .ref 39), (1, .int x1), (2, .int x2)] [] (gm_u (gm_u I 39 2 x1) 39 1 x2) L c
  refine gx_iconst (v := 0) dX6_begin_10 (by decide) ?_
  refine gx_istore_n (lv' := [(0, .ref 39), (1, .int x1), (2, .int x2), (3, .int 0)]) dX6_begin_11 rfl rfl rfl ?_
  exact h
set_option maxRecDepth 100000 in
theorem r_Ro39_begin_12 {g : gm_G} {Q : mI → mL → gm_cfg → Prop} {x1 x2 x3 : Int32} {I : mI} {L : mL} {c : gm_cfg} (h : ((40 ≤ x3 → Q I L c) ∧ (¬ 40 ≤ x3 → (vp_in x3 40 ∧ Z_Ro39_begin g Q 12 [(0, .ref 39), (1, .int x1), (2, .int x2), (3, .int (x3 + 1))] [] I (gm_u L 40 (Int32.toNatClampNeg x3) 0) c)))) : Z_Ro39_begin g Q 12 [(0, .ref 39), (1, .int x1), (2, .int x2), (3, .int x3)] [] I L c := by
  refine gx_iload_n 3 dX6_begin_12 rfl rfl ?_
  refine gx_bipush (v := 40) dX6_begin_13 (by decide) ?_
  refine gx_icmp_ge 31 dX6_begin_15 (by decide) ⟨fun z => ?_, fun z => ?_⟩
  · replace h := h.1 z
    exact gx_vret dX6_begin_31 rfl rfl rfl ⟨_, _, _, rfl, rfl, h⟩
  · replace h := h.2 z
    refine gx_aload_n 0 dX6_begin_18 rfl rfl ?_
    refine gx_getr 6 0 (v := 40) dX6_begin_19 fl_X6_9 rfl rfl rfl ?_
    refine gx_iload_n 3 dX6_begin_22 rfl rfl ?_
    refine gx_lconst (v := 0) dX6_begin_23 (by decide) ?_
    obtain ⟨hi, h⟩ := h
    refine gx_last dX6_begin_24 rfl rfl hi (k := (Int32.toNatClampNeg x3)) rfl ?_
    show Z_Ro39_begin g Q 25 [(0, .ref 39), (1, .int x1), (2, .int x2), (3, .int x3)] [] I (gm_u L 40 (Int32.toNatClampNeg x3) 0) c
    refine gx_iinc (v := (x3 + 1)) (lv' := [(0, .ref 39), (1, .int x1), (2, .int x2), (3, .int (x3 + 1))]) 3 dX6_begin_25 rfl rfl rfl rfl ?_
    refine gx_goto 12 dX6_begin_28 (by decide) ?_
    exact h
abbrev Z_Ro41_begin (g : gm_G) (Q : mI → mL → gm_cfg → Prop) (pc : Nat) (lv : List (Nat × Value)) (st : List Value) (I : mI) (L : mL) (c : gm_cfg) : Prop := gm_X g RX6 "begin" cX6_begin 4 none 1 0 0 (qV Q) 0 0 pc lv st (SH, I, L, RR c)
abbrev C_Ro41_begin (g : gm_G) (x1 : Int32) (x2 : Int32) (I : mI) (L : mL) (c : gm_cfg) (Q : mI → mL → gm_cfg → Prop) : Prop := gm_Met g yX6_begin cX6_begin 4 none 1 0 0 [.ref 41, .int x1, .int x2] (SH, I, L, RR c) (qV Q)
set_option maxRecDepth 100000 in
theorem e_Ro41_begin {g : gm_G} {Q : mI → mL → gm_cfg → Prop} {x1 x2 : Int32} {I : mI} {L : mL} {c : gm_cfg} (h : Z_Ro41_begin g Q 12 [(0, .ref 41), (1, .int x1), (2, .int x2), (3, .int 0)] [] (gm_u (gm_u I 41 2 x1) 41 1 x2) L c) : C_Ro41_begin g x1 x2 I L c Q := by
  refine gm_enter (lv := [(0, .ref 41), (1, .int x1), (2, .int x2)]) (by decide) rfl rfl rfl rfl ?_
  show Z_Ro41_begin g Q 0 [(0, .ref 41), (1, .int x1), (2, .int x2)] [] I L c
  refine gx_aload_n 0 dX6_begin_0 rfl rfl ?_
  refine gx_iload_n 1 dX6_begin_1 rfl rfl ?_
  refine gx_puti 6 2 dX6_begin_2 fl_X6_19 rfl rfl rfl ⟨rfl, rfl⟩ ?_
  show Z_Ro41_begin g Q 5 [(0, .ref 41), (1, .int x1), (2, .int x2)] [] (gm_u I 41 2 x1) L c
  refine gx_aload_n 0 dX6_begin_5 rfl rfl ?_
  refine gx_iload_n 2 dX6_begin_6 rfl rfl ?_
  refine gx_puti 6 1 dX6_begin_7 fl_X6_15 rfl rfl rfl ⟨rfl, rfl⟩ ?_
  show Z_Ro41_begin g Q 10 [(0, .ref 41), (1, .int x1), (2, .int x2)] [] (gm_u (gm_u I 41 2 x1) 41 1 x2) L c
  refine gx_iconst (v := 0) dX6_begin_10 (by decide) ?_
  refine gx_istore_n (lv' := [(0, .ref 41), (1, .int x1), (2, .int x2), (3, .int 0)]) dX6_begin_11 rfl rfl rfl ?_
  exact h
set_option maxRecDepth 100000 in
theorem r_Ro41_begin_12 {g : gm_G} {Q : mI → mL → gm_cfg → Prop} {x1 x2 x3 : Int32} {I : mI} {L : mL} {c : gm_cfg} (h : ((40 ≤ x3 → Q I L c) ∧ (¬ 40 ≤ x3 → (vp_in x3 40 ∧ Z_Ro41_begin g Q 12 [(0, .ref 41), (1, .int x1), (2, .int x2), (3, .int (x3 + 1))] [] I (gm_u L 42 (Int32.toNatClampNeg x3) 0) c)))) : Z_Ro41_begin g Q 12 [(0, .ref 41), (1, .int x1), (2, .int x2), (3, .int x3)] [] I L c := by
  refine gx_iload_n 3 dX6_begin_12 rfl rfl ?_
  refine gx_bipush (v := 40) dX6_begin_13 (by decide) ?_
  refine gx_icmp_ge 31 dX6_begin_15 (by decide) ⟨fun z => ?_, fun z => ?_⟩
  · replace h := h.1 z
    exact gx_vret dX6_begin_31 rfl rfl rfl ⟨_, _, _, rfl, rfl, h⟩
  · replace h := h.2 z
    refine gx_aload_n 0 dX6_begin_18 rfl rfl ?_
    refine gx_getr 6 0 (v := 42) dX6_begin_19 fl_X6_9 rfl rfl rfl ?_
    refine gx_iload_n 3 dX6_begin_22 rfl rfl ?_
    refine gx_lconst (v := 0) dX6_begin_23 (by decide) ?_
    obtain ⟨hi, h⟩ := h
    refine gx_last dX6_begin_24 rfl rfl hi (k := (Int32.toNatClampNeg x3)) rfl ?_
    show Z_Ro41_begin g Q 25 [(0, .ref 41), (1, .int x1), (2, .int x2), (3, .int x3)] [] I (gm_u L 42 (Int32.toNatClampNeg x3) 0) c
    refine gx_iinc (v := (x3 + 1)) (lv' := [(0, .ref 41), (1, .int x1), (2, .int x2), (3, .int (x3 + 1))]) 3 dX6_begin_25 rfl rfl rfl rfl ?_
    refine gx_goto 12 dX6_begin_28 (by decide) ?_
    exact h
abbrev Z_Ro35_cut (g : gm_G) (Q : Int64 → mI → mL → gm_cfg → Prop) (pc : Nat) (lv : List (Nat × Value)) (st : List Value) (I : mI) (L : mL) (c : gm_cfg) : Prop := gm_X g RX6 "cut" cX6_cut 3 (some .long) 1 0 0 (qL Q) 0 0 pc lv st (SH, I, L, RR c)
abbrev C_Ro35_cut (g : gm_G) (x1 : Int64) (I : mI) (L : mL) (c : gm_cfg) (Q : Int64 → mI → mL → gm_cfg → Prop) : Prop := gm_Met g yX6_cut cX6_cut 3 (some .long) 1 0 0 [.ref 35, .long x1] (SH, I, L, RR c) (qL Q)
set_option maxRecDepth 100000 in
theorem e_Ro35_cut {g : gm_G} {Q : Int64 → mI → mL → gm_cfg → Prop} {x1 : Int64} {I : mI} {L : mL} {c : gm_cfg} (h : (((I 35 2) = 0 → Q (Int32.toInt64 (Int8.toInt32 (Int32.toInt8 (Int64.toInt32 x1)))) I L c) ∧ (¬ (I 35 2) = 0 → (((I 35 2) = 1 → Q (Int32.toInt64 (Int16.toInt32 (Int32.toInt16 (Int64.toInt32 x1)))) I L c) ∧ (¬ (I 35 2) = 1 → (((I 35 2) = 2 → Q (Int32.toInt64 (Int64.toInt32 x1)) I L c) ∧ (¬ (I 35 2) = 2 → Q x1 I L c))))))) : C_Ro35_cut g x1 I L c Q := by
  refine gm_enter (lv := [(0, .ref 35), (1, .long x1)]) (by decide) rfl rfl rfl rfl ?_
  show Z_Ro35_cut g Q 0 [(0, .ref 35), (1, .long x1)] [] I L c
  refine gx_aload_n 0 dX6_cut_0 rfl rfl ?_
  refine gx_geti 6 2 (v := (I 35 2)) dX6_cut_1 fl_X6_19 rfl rfl rfl ?_
  refine gx_tsw [(0, 32), (1, 37), (2, 42)] 46 dX6_cut_4 (by decide +kernel) ?_
  refine ⟨fun z => ?_, fun z => ?_⟩
  · replace h := h.1 z
    show Z_Ro35_cut g Q 32 [(0, .ref 35), (1, .long x1)] [] I L c
    refine gx_lload_n 1 dX6_cut_32 rfl rfl ?_
    refine gx_l2i dX6_cut_33 ?_
    refine gx_i2b dX6_cut_34 ?_
    refine gx_i2l dX6_cut_35 ?_
    exact gx_lret dX6_cut_36 rfl rfl rfl ⟨_, _, _, _, rfl, rfl, h⟩
  · replace h := h.2 z
    refine ⟨fun z => ?_, fun z => ?_⟩
    · replace h := h.1 z
      show Z_Ro35_cut g Q 37 [(0, .ref 35), (1, .long x1)] [] I L c
      refine gx_lload_n 1 dX6_cut_37 rfl rfl ?_
      refine gx_l2i dX6_cut_38 ?_
      refine gx_i2s dX6_cut_39 ?_
      refine gx_i2l dX6_cut_40 ?_
      exact gx_lret dX6_cut_41 rfl rfl rfl ⟨_, _, _, _, rfl, rfl, h⟩
    · replace h := h.2 z
      refine ⟨fun z => ?_, fun z => ?_⟩
      · replace h := h.1 z
        show Z_Ro35_cut g Q 42 [(0, .ref 35), (1, .long x1)] [] I L c
        refine gx_lload_n 1 dX6_cut_42 rfl rfl ?_
        refine gx_l2i dX6_cut_43 ?_
        refine gx_i2l dX6_cut_44 ?_
        exact gx_lret dX6_cut_45 rfl rfl rfl ⟨_, _, _, _, rfl, rfl, h⟩
      · replace h := h.2 z
        show Z_Ro35_cut g Q 46 [(0, .ref 35), (1, .long x1)] [] I L c
        refine gx_lload_n 1 dX6_cut_46 rfl rfl ?_
        exact gx_lret dX6_cut_47 rfl rfl rfl ⟨_, _, _, _, rfl, rfl, h⟩
abbrev Z_Ro35_set (g : gm_G) (Q : Int64 → mI → mL → gm_cfg → Prop) (pc : Nat) (lv : List (Nat × Value)) (st : List Value) (I : mI) (L : mL) (c : gm_cfg) : Prop := gm_X g RX6 "set" cX6_set 4 (some .long) 2 0 0 (qL Q) 0 0 pc lv st (SH, I, L, RR c)
abbrev C_Ro35_set (g : gm_G) (x1 : Int32) (x2 : Int64) (I : mI) (L : mL) (c : gm_cfg) (Q : Int64 → mI → mL → gm_cfg → Prop) : Prop := gm_Met g yX6_set cX6_set 4 (some .long) 2 0 0 [.ref 35, .int x1, .long x2] (SH, I, L, RR c) (qL Q)
set_option maxRecDepth 100000 in
theorem e_Ro35_set {g : gm_G} {Q : Int64 → mI → mL → gm_cfg → Prop} {x1 : Int32} {x2 : Int64} {I : mI} {L : mL} {c : gm_cfg} (h : ((x1 < 0 → Q 0 I L c) ∧ (¬ x1 < 0 → (((I 35 1) ≤ x1 → Q 0 I L c) ∧ (¬ (I 35 1) ≤ x1 → ((x1 < 40 → (C_Ro35_cut g x2 I L c (fun r4 I1 L2 c3 => (vp_in x1 40 ∧ (vp_in x1 40 ∧ Q ((gm_u L2 36 (Int32.toNatClampNeg x1) r4) 36 (Int32.toNatClampNeg x1)) I1 (gm_u L2 36 (Int32.toNatClampNeg x1) r4) c3))))) ∧ (¬ x1 < 40 → Q 0 I L c))))))) : C_Ro35_set g x1 x2 I L c Q := by
  refine gm_enter (lv := [(0, .ref 35), (1, .int x1), (2, .long x2)]) (by decide) rfl rfl rfl rfl ?_
  show Z_Ro35_set g Q 0 [(0, .ref 35), (1, .int x1), (2, .long x2)] [] I L c
  refine gx_iload_n 1 dX6_set_0 rfl rfl ?_
  refine gx_if_lt 18 dX6_set_1 (by decide) ⟨fun z => ?_, fun z => ?_⟩
  · replace h := h.1 z
    refine gx_lconst (v := 0) dX6_set_18 (by decide) ?_
    exact gx_lret dX6_set_19 rfl rfl rfl ⟨_, _, _, _, rfl, rfl, h⟩
  · replace h := h.2 z
    refine gx_iload_n 1 dX6_set_4 rfl rfl ?_
    refine gx_aload_n 0 dX6_set_5 rfl rfl ?_
    refine gx_geti 6 1 (v := (I 35 1)) dX6_set_6 fl_X6_15 rfl rfl rfl ?_
    refine gx_icmp_ge 18 dX6_set_9 (by decide) ⟨fun z => ?_, fun z => ?_⟩
    · replace h := h.1 z
      refine gx_lconst (v := 0) dX6_set_18 (by decide) ?_
      exact gx_lret dX6_set_19 rfl rfl rfl ⟨_, _, _, _, rfl, rfl, h⟩
    · replace h := h.2 z
      refine gx_iload_n 1 dX6_set_12 rfl rfl ?_
      refine gx_bipush (v := 40) dX6_set_13 (by decide) ?_
      refine gx_icmp_lt 20 dX6_set_15 (by decide) ⟨fun z => ?_, fun z => ?_⟩
      · replace h := h.1 z
        refine gx_aload_n 0 dX6_set_20 rfl rfl ?_
        refine gx_getr 6 0 (v := 36) dX6_set_21 fl_X6_9 rfl rfl rfl ?_
        refine gx_iload_n 1 dX6_set_24 rfl rfl ?_
        refine gx_aload_n 0 dX6_set_25 rfl rfl ?_
        refine gx_lload_n 2 dX6_set_26 rfl rfl ?_
        refine gx_callV 6 (As := [.long x2]) (st := [.int x1, .ref 36]) dX6_set_27 ml_X6_22 mm_X6_cut rfl rfl rfl rfl rfl rfl ⟨rfl, rfl⟩ h (fun v h2 hq => ?_)
        clear h
        obtain ⟨r4, I1, L2, c3, rfl, rfl, h⟩ := hq
        show Z_Ro35_set g Q 30 [(0, .ref 35), (1, .int x1), (2, .long x2)] [.long r4, .int x1, .ref 36] I1 L2 c3
        obtain ⟨hi, h⟩ := h
        refine gx_last dX6_set_30 rfl rfl hi (k := (Int32.toNatClampNeg x1)) rfl ?_
        show Z_Ro35_set g Q 31 [(0, .ref 35), (1, .int x1), (2, .long x2)] [] I1 (gm_u L2 36 (Int32.toNatClampNeg x1) r4) c3
        refine gx_aload_n 0 dX6_set_31 rfl rfl ?_
        refine gx_getr 6 0 (v := 36) dX6_set_32 fl_X6_9 rfl rfl rfl ?_
        refine gx_iload_n 1 dX6_set_35 rfl rfl ?_
        obtain ⟨hi, h⟩ := h
        refine gx_lald (v := ((gm_u L2 36 (Int32.toNatClampNeg x1) r4) 36 (Int32.toNatClampNeg x1))) dX6_set_36 rfl rfl hi (k := (Int32.toNatClampNeg x1)) rfl rfl ?_
        exact gx_lret dX6_set_37 rfl rfl rfl ⟨_, _, _, _, rfl, rfl, h⟩
      · replace h := h.2 z
        refine gx_lconst (v := 0) dX6_set_18 (by decide) ?_
        exact gx_lret dX6_set_19 rfl rfl rfl ⟨_, _, _, _, rfl, rfl, h⟩
abbrev Z_Ro37_cut (g : gm_G) (Q : Int64 → mI → mL → gm_cfg → Prop) (pc : Nat) (lv : List (Nat × Value)) (st : List Value) (I : mI) (L : mL) (c : gm_cfg) : Prop := gm_X g RX6 "cut" cX6_cut 3 (some .long) 1 0 0 (qL Q) 0 0 pc lv st (SH, I, L, RR c)
abbrev C_Ro37_cut (g : gm_G) (x1 : Int64) (I : mI) (L : mL) (c : gm_cfg) (Q : Int64 → mI → mL → gm_cfg → Prop) : Prop := gm_Met g yX6_cut cX6_cut 3 (some .long) 1 0 0 [.ref 37, .long x1] (SH, I, L, RR c) (qL Q)
set_option maxRecDepth 100000 in
theorem e_Ro37_cut {g : gm_G} {Q : Int64 → mI → mL → gm_cfg → Prop} {x1 : Int64} {I : mI} {L : mL} {c : gm_cfg} (h : (((I 37 2) = 0 → Q (Int32.toInt64 (Int8.toInt32 (Int32.toInt8 (Int64.toInt32 x1)))) I L c) ∧ (¬ (I 37 2) = 0 → (((I 37 2) = 1 → Q (Int32.toInt64 (Int16.toInt32 (Int32.toInt16 (Int64.toInt32 x1)))) I L c) ∧ (¬ (I 37 2) = 1 → (((I 37 2) = 2 → Q (Int32.toInt64 (Int64.toInt32 x1)) I L c) ∧ (¬ (I 37 2) = 2 → Q x1 I L c))))))) : C_Ro37_cut g x1 I L c Q := by
  refine gm_enter (lv := [(0, .ref 37), (1, .long x1)]) (by decide) rfl rfl rfl rfl ?_
  show Z_Ro37_cut g Q 0 [(0, .ref 37), (1, .long x1)] [] I L c
  refine gx_aload_n 0 dX6_cut_0 rfl rfl ?_
  refine gx_geti 6 2 (v := (I 37 2)) dX6_cut_1 fl_X6_19 rfl rfl rfl ?_
  refine gx_tsw [(0, 32), (1, 37), (2, 42)] 46 dX6_cut_4 (by decide +kernel) ?_
  refine ⟨fun z => ?_, fun z => ?_⟩
  · replace h := h.1 z
    show Z_Ro37_cut g Q 32 [(0, .ref 37), (1, .long x1)] [] I L c
    refine gx_lload_n 1 dX6_cut_32 rfl rfl ?_
    refine gx_l2i dX6_cut_33 ?_
    refine gx_i2b dX6_cut_34 ?_
    refine gx_i2l dX6_cut_35 ?_
    exact gx_lret dX6_cut_36 rfl rfl rfl ⟨_, _, _, _, rfl, rfl, h⟩
  · replace h := h.2 z
    refine ⟨fun z => ?_, fun z => ?_⟩
    · replace h := h.1 z
      show Z_Ro37_cut g Q 37 [(0, .ref 37), (1, .long x1)] [] I L c
      refine gx_lload_n 1 dX6_cut_37 rfl rfl ?_
      refine gx_l2i dX6_cut_38 ?_
      refine gx_i2s dX6_cut_39 ?_
      refine gx_i2l dX6_cut_40 ?_
      exact gx_lret dX6_cut_41 rfl rfl rfl ⟨_, _, _, _, rfl, rfl, h⟩
    · replace h := h.2 z
      refine ⟨fun z => ?_, fun z => ?_⟩
      · replace h := h.1 z
        show Z_Ro37_cut g Q 42 [(0, .ref 37), (1, .long x1)] [] I L c
        refine gx_lload_n 1 dX6_cut_42 rfl rfl ?_
        refine gx_l2i dX6_cut_43 ?_
        refine gx_i2l dX6_cut_44 ?_
        exact gx_lret dX6_cut_45 rfl rfl rfl ⟨_, _, _, _, rfl, rfl, h⟩
      · replace h := h.2 z
        show Z_Ro37_cut g Q 46 [(0, .ref 37), (1, .long x1)] [] I L c
        refine gx_lload_n 1 dX6_cut_46 rfl rfl ?_
        exact gx_lret dX6_cut_47 rfl rfl rfl ⟨_, _, _, _, rfl, rfl, h⟩
abbrev Z_Ro37_set (g : gm_G) (Q : Int64 → mI → mL → gm_cfg → Prop) (pc : Nat) (lv : List (Nat × Value)) (st : List Value) (I : mI) (L : mL) (c : gm_cfg) : Prop := gm_X g RX6 "set" cX6_set 4 (some .long) 2 0 0 (qL Q) 0 0 pc lv st (SH, I, L, RR c)
abbrev C_Ro37_set (g : gm_G) (x1 : Int32) (x2 : Int64) (I : mI) (L : mL) (c : gm_cfg) (Q : Int64 → mI → mL → gm_cfg → Prop) : Prop := gm_Met g yX6_set cX6_set 4 (some .long) 2 0 0 [.ref 37, .int x1, .long x2] (SH, I, L, RR c) (qL Q)
set_option maxRecDepth 100000 in
theorem e_Ro37_set {g : gm_G} {Q : Int64 → mI → mL → gm_cfg → Prop} {x1 : Int32} {x2 : Int64} {I : mI} {L : mL} {c : gm_cfg} (h : ((x1 < 0 → Q 0 I L c) ∧ (¬ x1 < 0 → (((I 37 1) ≤ x1 → Q 0 I L c) ∧ (¬ (I 37 1) ≤ x1 → ((x1 < 40 → (C_Ro37_cut g x2 I L c (fun r4 I1 L2 c3 => (vp_in x1 40 ∧ (vp_in x1 40 ∧ Q ((gm_u L2 38 (Int32.toNatClampNeg x1) r4) 38 (Int32.toNatClampNeg x1)) I1 (gm_u L2 38 (Int32.toNatClampNeg x1) r4) c3))))) ∧ (¬ x1 < 40 → Q 0 I L c))))))) : C_Ro37_set g x1 x2 I L c Q := by
  refine gm_enter (lv := [(0, .ref 37), (1, .int x1), (2, .long x2)]) (by decide) rfl rfl rfl rfl ?_
  show Z_Ro37_set g Q 0 [(0, .ref 37), (1, .int x1), (2, .long x2)] [] I L c
  refine gx_iload_n 1 dX6_set_0 rfl rfl ?_
  refine gx_if_lt 18 dX6_set_1 (by decide) ⟨fun z => ?_, fun z => ?_⟩
  · replace h := h.1 z
    refine gx_lconst (v := 0) dX6_set_18 (by decide) ?_
    exact gx_lret dX6_set_19 rfl rfl rfl ⟨_, _, _, _, rfl, rfl, h⟩
  · replace h := h.2 z
    refine gx_iload_n 1 dX6_set_4 rfl rfl ?_
    refine gx_aload_n 0 dX6_set_5 rfl rfl ?_
    refine gx_geti 6 1 (v := (I 37 1)) dX6_set_6 fl_X6_15 rfl rfl rfl ?_
    refine gx_icmp_ge 18 dX6_set_9 (by decide) ⟨fun z => ?_, fun z => ?_⟩
    · replace h := h.1 z
      refine gx_lconst (v := 0) dX6_set_18 (by decide) ?_
      exact gx_lret dX6_set_19 rfl rfl rfl ⟨_, _, _, _, rfl, rfl, h⟩
    · replace h := h.2 z
      refine gx_iload_n 1 dX6_set_12 rfl rfl ?_
      refine gx_bipush (v := 40) dX6_set_13 (by decide) ?_
      refine gx_icmp_lt 20 dX6_set_15 (by decide) ⟨fun z => ?_, fun z => ?_⟩
      · replace h := h.1 z
        refine gx_aload_n 0 dX6_set_20 rfl rfl ?_
        refine gx_getr 6 0 (v := 38) dX6_set_21 fl_X6_9 rfl rfl rfl ?_
        refine gx_iload_n 1 dX6_set_24 rfl rfl ?_
        refine gx_aload_n 0 dX6_set_25 rfl rfl ?_
        refine gx_lload_n 2 dX6_set_26 rfl rfl ?_
        refine gx_callV 6 (As := [.long x2]) (st := [.int x1, .ref 38]) dX6_set_27 ml_X6_22 mm_X6_cut rfl rfl rfl rfl rfl rfl ⟨rfl, rfl⟩ h (fun v h2 hq => ?_)
        clear h
        obtain ⟨r4, I1, L2, c3, rfl, rfl, h⟩ := hq
        show Z_Ro37_set g Q 30 [(0, .ref 37), (1, .int x1), (2, .long x2)] [.long r4, .int x1, .ref 38] I1 L2 c3
        obtain ⟨hi, h⟩ := h
        refine gx_last dX6_set_30 rfl rfl hi (k := (Int32.toNatClampNeg x1)) rfl ?_
        show Z_Ro37_set g Q 31 [(0, .ref 37), (1, .int x1), (2, .long x2)] [] I1 (gm_u L2 38 (Int32.toNatClampNeg x1) r4) c3
        refine gx_aload_n 0 dX6_set_31 rfl rfl ?_
        refine gx_getr 6 0 (v := 38) dX6_set_32 fl_X6_9 rfl rfl rfl ?_
        refine gx_iload_n 1 dX6_set_35 rfl rfl ?_
        obtain ⟨hi, h⟩ := h
        refine gx_lald (v := ((gm_u L2 38 (Int32.toNatClampNeg x1) r4) 38 (Int32.toNatClampNeg x1))) dX6_set_36 rfl rfl hi (k := (Int32.toNatClampNeg x1)) rfl rfl ?_
        exact gx_lret dX6_set_37 rfl rfl rfl ⟨_, _, _, _, rfl, rfl, h⟩
      · replace h := h.2 z
        refine gx_lconst (v := 0) dX6_set_18 (by decide) ?_
        exact gx_lret dX6_set_19 rfl rfl rfl ⟨_, _, _, _, rfl, rfl, h⟩
abbrev Z_Ro39_cut (g : gm_G) (Q : Int64 → mI → mL → gm_cfg → Prop) (pc : Nat) (lv : List (Nat × Value)) (st : List Value) (I : mI) (L : mL) (c : gm_cfg) : Prop := gm_X g RX6 "cut" cX6_cut 3 (some .long) 1 0 0 (qL Q) 0 0 pc lv st (SH, I, L, RR c)
abbrev C_Ro39_cut (g : gm_G) (x1 : Int64) (I : mI) (L : mL) (c : gm_cfg) (Q : Int64 → mI → mL → gm_cfg → Prop) : Prop := gm_Met g yX6_cut cX6_cut 3 (some .long) 1 0 0 [.ref 39, .long x1] (SH, I, L, RR c) (qL Q)
set_option maxRecDepth 100000 in
theorem e_Ro39_cut {g : gm_G} {Q : Int64 → mI → mL → gm_cfg → Prop} {x1 : Int64} {I : mI} {L : mL} {c : gm_cfg} (h : (((I 39 2) = 0 → Q (Int32.toInt64 (Int8.toInt32 (Int32.toInt8 (Int64.toInt32 x1)))) I L c) ∧ (¬ (I 39 2) = 0 → (((I 39 2) = 1 → Q (Int32.toInt64 (Int16.toInt32 (Int32.toInt16 (Int64.toInt32 x1)))) I L c) ∧ (¬ (I 39 2) = 1 → (((I 39 2) = 2 → Q (Int32.toInt64 (Int64.toInt32 x1)) I L c) ∧ (¬ (I 39 2) = 2 → Q x1 I L c))))))) : C_Ro39_cut g x1 I L c Q := by
  refine gm_enter (lv := [(0, .ref 39), (1, .long x1)]) (by decide) rfl rfl rfl rfl ?_
  show Z_Ro39_cut g Q 0 [(0, .ref 39), (1, .long x1)] [] I L c
  refine gx_aload_n 0 dX6_cut_0 rfl rfl ?_
  refine gx_geti 6 2 (v := (I 39 2)) dX6_cut_1 fl_X6_19 rfl rfl rfl ?_
  refine gx_tsw [(0, 32), (1, 37), (2, 42)] 46 dX6_cut_4 (by decide +kernel) ?_
  refine ⟨fun z => ?_, fun z => ?_⟩
  · replace h := h.1 z
    show Z_Ro39_cut g Q 32 [(0, .ref 39), (1, .long x1)] [] I L c
    refine gx_lload_n 1 dX6_cut_32 rfl rfl ?_
    refine gx_l2i dX6_cut_33 ?_
    refine gx_i2b dX6_cut_34 ?_
    refine gx_i2l dX6_cut_35 ?_
    exact gx_lret dX6_cut_36 rfl rfl rfl ⟨_, _, _, _, rfl, rfl, h⟩
  · replace h := h.2 z
    refine ⟨fun z => ?_, fun z => ?_⟩
    · replace h := h.1 z
      show Z_Ro39_cut g Q 37 [(0, .ref 39), (1, .long x1)] [] I L c
      refine gx_lload_n 1 dX6_cut_37 rfl rfl ?_
      refine gx_l2i dX6_cut_38 ?_
      refine gx_i2s dX6_cut_39 ?_
      refine gx_i2l dX6_cut_40 ?_
      exact gx_lret dX6_cut_41 rfl rfl rfl ⟨_, _, _, _, rfl, rfl, h⟩
    · replace h := h.2 z
      refine ⟨fun z => ?_, fun z => ?_⟩
      · replace h := h.1 z
        show Z_Ro39_cut g Q 42 [(0, .ref 39), (1, .long x1)] [] I L c
        refine gx_lload_n 1 dX6_cut_42 rfl rfl ?_
        refine gx_l2i dX6_cut_43 ?_
        refine gx_i2l dX6_cut_44 ?_
        exact gx_lret dX6_cut_45 rfl rfl rfl ⟨_, _, _, _, rfl, rfl, h⟩
      · replace h := h.2 z
        show Z_Ro39_cut g Q 46 [(0, .ref 39), (1, .long x1)] [] I L c
        refine gx_lload_n 1 dX6_cut_46 rfl rfl ?_
        exact gx_lret dX6_cut_47 rfl rfl rfl ⟨_, _, _, _, rfl, rfl, h⟩
abbrev Z_Ro39_set (g : gm_G) (Q : Int64 → mI → mL → gm_cfg → Prop) (pc : Nat) (lv : List (Nat × Value)) (st : List Value) (I : mI) (L : mL) (c : gm_cfg) : Prop := gm_X g RX6 "set" cX6_set 4 (some .long) 2 0 0 (qL Q) 0 0 pc lv st (SH, I, L, RR c)
abbrev C_Ro39_set (g : gm_G) (x1 : Int32) (x2 : Int64) (I : mI) (L : mL) (c : gm_cfg) (Q : Int64 → mI → mL → gm_cfg → Prop) : Prop := gm_Met g yX6_set cX6_set 4 (some .long) 2 0 0 [.ref 39, .int x1, .long x2] (SH, I, L, RR c) (qL Q)
set_option maxRecDepth 100000 in
theorem e_Ro39_set {g : gm_G} {Q : Int64 → mI → mL → gm_cfg → Prop} {x1 : Int32} {x2 : Int64} {I : mI} {L : mL} {c : gm_cfg} (h : ((x1 < 0 → Q 0 I L c) ∧ (¬ x1 < 0 → (((I 39 1) ≤ x1 → Q 0 I L c) ∧ (¬ (I 39 1) ≤ x1 → ((x1 < 40 → (C_Ro39_cut g x2 I L c (fun r4 I1 L2 c3 => (vp_in x1 40 ∧ (vp_in x1 40 ∧ Q ((gm_u L2 40 (Int32.toNatClampNeg x1) r4) 40 (Int32.toNatClampNeg x1)) I1 (gm_u L2 40 (Int32.toNatClampNeg x1) r4) c3))))) ∧ (¬ x1 < 40 → Q 0 I L c))))))) : C_Ro39_set g x1 x2 I L c Q := by
  refine gm_enter (lv := [(0, .ref 39), (1, .int x1), (2, .long x2)]) (by decide) rfl rfl rfl rfl ?_
  show Z_Ro39_set g Q 0 [(0, .ref 39), (1, .int x1), (2, .long x2)] [] I L c
  refine gx_iload_n 1 dX6_set_0 rfl rfl ?_
  refine gx_if_lt 18 dX6_set_1 (by decide) ⟨fun z => ?_, fun z => ?_⟩
  · replace h := h.1 z
    refine gx_lconst (v := 0) dX6_set_18 (by decide) ?_
    exact gx_lret dX6_set_19 rfl rfl rfl ⟨_, _, _, _, rfl, rfl, h⟩
  · replace h := h.2 z
    refine gx_iload_n 1 dX6_set_4 rfl rfl ?_
    refine gx_aload_n 0 dX6_set_5 rfl rfl ?_
    refine gx_geti 6 1 (v := (I 39 1)) dX6_set_6 fl_X6_15 rfl rfl rfl ?_
    refine gx_icmp_ge 18 dX6_set_9 (by decide) ⟨fun z => ?_, fun z => ?_⟩
    · replace h := h.1 z
      refine gx_lconst (v := 0) dX6_set_18 (by decide) ?_
      exact gx_lret dX6_set_19 rfl rfl rfl ⟨_, _, _, _, rfl, rfl, h⟩
    · replace h := h.2 z
      refine gx_iload_n 1 dX6_set_12 rfl rfl ?_
      refine gx_bipush (v := 40) dX6_set_13 (by decide) ?_
      refine gx_icmp_lt 20 dX6_set_15 (by decide) ⟨fun z => ?_, fun z => ?_⟩
      · replace h := h.1 z
        refine gx_aload_n 0 dX6_set_20 rfl rfl ?_
        refine gx_getr 6 0 (v := 40) dX6_set_21 fl_X6_9 rfl rfl rfl ?_
        refine gx_iload_n 1 dX6_set_24 rfl rfl ?_
        refine gx_aload_n 0 dX6_set_25 rfl rfl ?_
        refine gx_lload_n 2 dX6_set_26 rfl rfl ?_
        refine gx_callV 6 (As := [.long x2]) (st := [.int x1, .ref 40]) dX6_set_27 ml_X6_22 mm_X6_cut rfl rfl rfl rfl rfl rfl ⟨rfl, rfl⟩ h (fun v h2 hq => ?_)
        clear h
        obtain ⟨r4, I1, L2, c3, rfl, rfl, h⟩ := hq
        show Z_Ro39_set g Q 30 [(0, .ref 39), (1, .int x1), (2, .long x2)] [.long r4, .int x1, .ref 40] I1 L2 c3
        obtain ⟨hi, h⟩ := h
        refine gx_last dX6_set_30 rfl rfl hi (k := (Int32.toNatClampNeg x1)) rfl ?_
        show Z_Ro39_set g Q 31 [(0, .ref 39), (1, .int x1), (2, .long x2)] [] I1 (gm_u L2 40 (Int32.toNatClampNeg x1) r4) c3
        refine gx_aload_n 0 dX6_set_31 rfl rfl ?_
        refine gx_getr 6 0 (v := 40) dX6_set_32 fl_X6_9 rfl rfl rfl ?_
        refine gx_iload_n 1 dX6_set_35 rfl rfl ?_
        obtain ⟨hi, h⟩ := h
        refine gx_lald (v := ((gm_u L2 40 (Int32.toNatClampNeg x1) r4) 40 (Int32.toNatClampNeg x1))) dX6_set_36 rfl rfl hi (k := (Int32.toNatClampNeg x1)) rfl rfl ?_
        exact gx_lret dX6_set_37 rfl rfl rfl ⟨_, _, _, _, rfl, rfl, h⟩
      · replace h := h.2 z
        refine gx_lconst (v := 0) dX6_set_18 (by decide) ?_
        exact gx_lret dX6_set_19 rfl rfl rfl ⟨_, _, _, _, rfl, rfl, h⟩
abbrev Z_Ro41_cut (g : gm_G) (Q : Int64 → mI → mL → gm_cfg → Prop) (pc : Nat) (lv : List (Nat × Value)) (st : List Value) (I : mI) (L : mL) (c : gm_cfg) : Prop := gm_X g RX6 "cut" cX6_cut 3 (some .long) 1 0 0 (qL Q) 0 0 pc lv st (SH, I, L, RR c)
abbrev C_Ro41_cut (g : gm_G) (x1 : Int64) (I : mI) (L : mL) (c : gm_cfg) (Q : Int64 → mI → mL → gm_cfg → Prop) : Prop := gm_Met g yX6_cut cX6_cut 3 (some .long) 1 0 0 [.ref 41, .long x1] (SH, I, L, RR c) (qL Q)
set_option maxRecDepth 100000 in
theorem e_Ro41_cut {g : gm_G} {Q : Int64 → mI → mL → gm_cfg → Prop} {x1 : Int64} {I : mI} {L : mL} {c : gm_cfg} (h : (((I 41 2) = 0 → Q (Int32.toInt64 (Int8.toInt32 (Int32.toInt8 (Int64.toInt32 x1)))) I L c) ∧ (¬ (I 41 2) = 0 → (((I 41 2) = 1 → Q (Int32.toInt64 (Int16.toInt32 (Int32.toInt16 (Int64.toInt32 x1)))) I L c) ∧ (¬ (I 41 2) = 1 → (((I 41 2) = 2 → Q (Int32.toInt64 (Int64.toInt32 x1)) I L c) ∧ (¬ (I 41 2) = 2 → Q x1 I L c))))))) : C_Ro41_cut g x1 I L c Q := by
  refine gm_enter (lv := [(0, .ref 41), (1, .long x1)]) (by decide) rfl rfl rfl rfl ?_
  show Z_Ro41_cut g Q 0 [(0, .ref 41), (1, .long x1)] [] I L c
  refine gx_aload_n 0 dX6_cut_0 rfl rfl ?_
  refine gx_geti 6 2 (v := (I 41 2)) dX6_cut_1 fl_X6_19 rfl rfl rfl ?_
  refine gx_tsw [(0, 32), (1, 37), (2, 42)] 46 dX6_cut_4 (by decide +kernel) ?_
  refine ⟨fun z => ?_, fun z => ?_⟩
  · replace h := h.1 z
    show Z_Ro41_cut g Q 32 [(0, .ref 41), (1, .long x1)] [] I L c
    refine gx_lload_n 1 dX6_cut_32 rfl rfl ?_
    refine gx_l2i dX6_cut_33 ?_
    refine gx_i2b dX6_cut_34 ?_
    refine gx_i2l dX6_cut_35 ?_
    exact gx_lret dX6_cut_36 rfl rfl rfl ⟨_, _, _, _, rfl, rfl, h⟩
  · replace h := h.2 z
    refine ⟨fun z => ?_, fun z => ?_⟩
    · replace h := h.1 z
      show Z_Ro41_cut g Q 37 [(0, .ref 41), (1, .long x1)] [] I L c
      refine gx_lload_n 1 dX6_cut_37 rfl rfl ?_
      refine gx_l2i dX6_cut_38 ?_
      refine gx_i2s dX6_cut_39 ?_
      refine gx_i2l dX6_cut_40 ?_
      exact gx_lret dX6_cut_41 rfl rfl rfl ⟨_, _, _, _, rfl, rfl, h⟩
    · replace h := h.2 z
      refine ⟨fun z => ?_, fun z => ?_⟩
      · replace h := h.1 z
        show Z_Ro41_cut g Q 42 [(0, .ref 41), (1, .long x1)] [] I L c
        refine gx_lload_n 1 dX6_cut_42 rfl rfl ?_
        refine gx_l2i dX6_cut_43 ?_
        refine gx_i2l dX6_cut_44 ?_
        exact gx_lret dX6_cut_45 rfl rfl rfl ⟨_, _, _, _, rfl, rfl, h⟩
      · replace h := h.2 z
        show Z_Ro41_cut g Q 46 [(0, .ref 41), (1, .long x1)] [] I L c
        refine gx_lload_n 1 dX6_cut_46 rfl rfl ?_
        exact gx_lret dX6_cut_47 rfl rfl rfl ⟨_, _, _, _, rfl, rfl, h⟩
abbrev Z_Ro41_set (g : gm_G) (Q : Int64 → mI → mL → gm_cfg → Prop) (pc : Nat) (lv : List (Nat × Value)) (st : List Value) (I : mI) (L : mL) (c : gm_cfg) : Prop := gm_X g RX6 "set" cX6_set 4 (some .long) 2 0 0 (qL Q) 0 0 pc lv st (SH, I, L, RR c)
abbrev C_Ro41_set (g : gm_G) (x1 : Int32) (x2 : Int64) (I : mI) (L : mL) (c : gm_cfg) (Q : Int64 → mI → mL → gm_cfg → Prop) : Prop := gm_Met g yX6_set cX6_set 4 (some .long) 2 0 0 [.ref 41, .int x1, .long x2] (SH, I, L, RR c) (qL Q)
set_option maxRecDepth 100000 in
theorem e_Ro41_set {g : gm_G} {Q : Int64 → mI → mL → gm_cfg → Prop} {x1 : Int32} {x2 : Int64} {I : mI} {L : mL} {c : gm_cfg} (h : ((x1 < 0 → Q 0 I L c) ∧ (¬ x1 < 0 → (((I 41 1) ≤ x1 → Q 0 I L c) ∧ (¬ (I 41 1) ≤ x1 → ((x1 < 40 → (C_Ro41_cut g x2 I L c (fun r4 I1 L2 c3 => (vp_in x1 40 ∧ (vp_in x1 40 ∧ Q ((gm_u L2 42 (Int32.toNatClampNeg x1) r4) 42 (Int32.toNatClampNeg x1)) I1 (gm_u L2 42 (Int32.toNatClampNeg x1) r4) c3))))) ∧ (¬ x1 < 40 → Q 0 I L c))))))) : C_Ro41_set g x1 x2 I L c Q := by
  refine gm_enter (lv := [(0, .ref 41), (1, .int x1), (2, .long x2)]) (by decide) rfl rfl rfl rfl ?_
  show Z_Ro41_set g Q 0 [(0, .ref 41), (1, .int x1), (2, .long x2)] [] I L c
  refine gx_iload_n 1 dX6_set_0 rfl rfl ?_
  refine gx_if_lt 18 dX6_set_1 (by decide) ⟨fun z => ?_, fun z => ?_⟩
  · replace h := h.1 z
    refine gx_lconst (v := 0) dX6_set_18 (by decide) ?_
    exact gx_lret dX6_set_19 rfl rfl rfl ⟨_, _, _, _, rfl, rfl, h⟩
  · replace h := h.2 z
    refine gx_iload_n 1 dX6_set_4 rfl rfl ?_
    refine gx_aload_n 0 dX6_set_5 rfl rfl ?_
    refine gx_geti 6 1 (v := (I 41 1)) dX6_set_6 fl_X6_15 rfl rfl rfl ?_
    refine gx_icmp_ge 18 dX6_set_9 (by decide) ⟨fun z => ?_, fun z => ?_⟩
    · replace h := h.1 z
      refine gx_lconst (v := 0) dX6_set_18 (by decide) ?_
      exact gx_lret dX6_set_19 rfl rfl rfl ⟨_, _, _, _, rfl, rfl, h⟩
    · replace h := h.2 z
      refine gx_iload_n 1 dX6_set_12 rfl rfl ?_
      refine gx_bipush (v := 40) dX6_set_13 (by decide) ?_
      refine gx_icmp_lt 20 dX6_set_15 (by decide) ⟨fun z => ?_, fun z => ?_⟩
      · replace h := h.1 z
        refine gx_aload_n 0 dX6_set_20 rfl rfl ?_
        refine gx_getr 6 0 (v := 42) dX6_set_21 fl_X6_9 rfl rfl rfl ?_
        refine gx_iload_n 1 dX6_set_24 rfl rfl ?_
        refine gx_aload_n 0 dX6_set_25 rfl rfl ?_
        refine gx_lload_n 2 dX6_set_26 rfl rfl ?_
        refine gx_callV 6 (As := [.long x2]) (st := [.int x1, .ref 42]) dX6_set_27 ml_X6_22 mm_X6_cut rfl rfl rfl rfl rfl rfl ⟨rfl, rfl⟩ h (fun v h2 hq => ?_)
        clear h
        obtain ⟨r4, I1, L2, c3, rfl, rfl, h⟩ := hq
        show Z_Ro41_set g Q 30 [(0, .ref 41), (1, .int x1), (2, .long x2)] [.long r4, .int x1, .ref 42] I1 L2 c3
        obtain ⟨hi, h⟩ := h
        refine gx_last dX6_set_30 rfl rfl hi (k := (Int32.toNatClampNeg x1)) rfl ?_
        show Z_Ro41_set g Q 31 [(0, .ref 41), (1, .int x1), (2, .long x2)] [] I1 (gm_u L2 42 (Int32.toNatClampNeg x1) r4) c3
        refine gx_aload_n 0 dX6_set_31 rfl rfl ?_
        refine gx_getr 6 0 (v := 42) dX6_set_32 fl_X6_9 rfl rfl rfl ?_
        refine gx_iload_n 1 dX6_set_35 rfl rfl ?_
        obtain ⟨hi, h⟩ := h
        refine gx_lald (v := ((gm_u L2 42 (Int32.toNatClampNeg x1) r4) 42 (Int32.toNatClampNeg x1))) dX6_set_36 rfl rfl hi (k := (Int32.toNatClampNeg x1)) rfl rfl ?_
        exact gx_lret dX6_set_37 rfl rfl rfl ⟨_, _, _, _, rfl, rfl, h⟩
      · replace h := h.2 z
        refine gx_lconst (v := 0) dX6_set_18 (by decide) ?_
        exact gx_lret dX6_set_19 rfl rfl rfl ⟨_, _, _, _, rfl, rfl, h⟩
abbrev Z_Fe44_takeFrom_16 (g : gm_G) (Q : mI → mL → gm_cfg → Prop) (pc : Nat) (lv : List (Nat × Value)) (st : List Value) (I : mI) (L : mL) (c : gm_cfg) : Prop := gm_X g RX1 "takeFrom" cX1_takeFrom 2 none 1 0 0 (qV Q) 0 0 pc lv st (SH, I, L, RR c)
abbrev C_Fe44_takeFrom_16 (g : gm_G) (I : mI) (L : mL) (c : gm_cfg) (Q : mI → mL → gm_cfg → Prop) : Prop := gm_Met g yX1_takeFrom cX1_takeFrom 2 none 1 0 0 [.ref 44, .ref 16] (SH, I, L, RR c) (qV Q)
set_option maxRecDepth 100000 in
theorem e_Fe44_takeFrom_16 {g : gm_G} {Q : mI → mL → gm_cfg → Prop} {I : mI} {L : mL} {c : gm_cfg} (h : (gm_z (I 16 2) ∧ (gm_z (I 16 9) ∧ Q (gm_u (gm_u (gm_u (gm_u (gm_u (va_up (va_up (va_up (gm_u (gm_u (gm_u (gm_u (gm_u (gm_u I 44 0 (I 16 0)) 44 1 (I 16 1)) 44 2 (I 16 2)) 44 3 (I 16 3)) 44 4 (I 16 4)) 44 5 (I 16 5)) 45 (va_cpy (I 17) (I 45) (Int32.toNatClampNeg 0) (Int32.toNatClampNeg 0) (Int32.toNatClampNeg 6))) 46 (va_cpy (I 18) (I 46) (Int32.toNatClampNeg 0) (Int32.toNatClampNeg 0) (Int32.toNatClampNeg 6))) 47 (va_cpy (I 19) (I 47) (Int32.toNatClampNeg 0) (Int32.toNatClampNeg 0) (Int32.toNatClampNeg 6))) 44 9 (I 16 9)) 44 10 (I 16 10)) 44 11 (I 16 11)) 44 12 (I 16 12)) 44 13 (I 16 13)) L c))) : C_Fe44_takeFrom_16 g  I L c Q := by
  refine gm_enter (lv := [(0, .ref 44), (1, .ref 16)]) (by decide) rfl rfl rfl rfl ?_
  show Z_Fe44_takeFrom_16 g Q 0 [(0, .ref 44), (1, .ref 16)] [] I L c
  refine gx_aload_n 0 dX1_takeFrom_0 rfl rfl ?_
  refine gx_aload_n 1 dX1_takeFrom_1 rfl rfl ?_
  refine gx_geti 1 0 (v := (I 16 0)) dX1_takeFrom_2 fl_X1_9 rfl rfl rfl ?_
  refine gx_puti 1 0 dX1_takeFrom_5 fl_X1_9 rfl rfl rfl ⟨rfl, rfl⟩ ?_
  show Z_Fe44_takeFrom_16 g Q 8 [(0, .ref 44), (1, .ref 16)] [] (gm_u I 44 0 (I 16 0)) L c
  refine gx_aload_n 0 dX1_takeFrom_8 rfl rfl ?_
  refine gx_aload_n 1 dX1_takeFrom_9 rfl rfl ?_
  refine gx_geti 1 1 (v := (I 16 1)) dX1_takeFrom_10 fl_X1_15 rfl rfl rfl ?_
  refine gx_puti 1 1 dX1_takeFrom_13 fl_X1_15 rfl rfl rfl ⟨rfl, rfl⟩ ?_
  show Z_Fe44_takeFrom_16 g Q 16 [(0, .ref 44), (1, .ref 16)] [] (gm_u (gm_u I 44 0 (I 16 0)) 44 1 (I 16 1)) L c
  refine gx_aload_n 0 dX1_takeFrom_16 rfl rfl ?_
  refine gx_aload_n 1 dX1_takeFrom_17 rfl rfl ?_
  refine gx_geti 1 2 (v := (I 16 2)) dX1_takeFrom_18 fl_X1_34 rfl rfl rfl ?_
  obtain ⟨hn, h⟩ := h
  refine gx_puti 1 2 dX1_takeFrom_21 fl_X1_34 rfl rfl rfl hn ?_
  show Z_Fe44_takeFrom_16 g Q 24 [(0, .ref 44), (1, .ref 16)] [] (gm_u (gm_u (gm_u I 44 0 (I 16 0)) 44 1 (I 16 1)) 44 2 (I 16 2)) L c
  refine gx_aload_n 0 dX1_takeFrom_24 rfl rfl ?_
  refine gx_aload_n 1 dX1_takeFrom_25 rfl rfl ?_
  refine gx_geti 1 3 (v := (I 16 3)) dX1_takeFrom_26 fl_X1_38 rfl rfl rfl ?_
  refine gx_puti 1 3 dX1_takeFrom_29 fl_X1_38 rfl rfl rfl ⟨rfl, rfl⟩ ?_
  show Z_Fe44_takeFrom_16 g Q 32 [(0, .ref 44), (1, .ref 16)] [] (gm_u (gm_u (gm_u (gm_u I 44 0 (I 16 0)) 44 1 (I 16 1)) 44 2 (I 16 2)) 44 3 (I 16 3)) L c
  refine gx_aload_n 0 dX1_takeFrom_32 rfl rfl ?_
  refine gx_aload_n 1 dX1_takeFrom_33 rfl rfl ?_
  refine gx_geti 1 4 (v := (I 16 4)) dX1_takeFrom_34 fl_X1_41 rfl rfl rfl ?_
  refine gx_puti 1 4 dX1_takeFrom_37 fl_X1_41 rfl rfl rfl ⟨rfl, rfl⟩ ?_
  show Z_Fe44_takeFrom_16 g Q 40 [(0, .ref 44), (1, .ref 16)] [] (gm_u (gm_u (gm_u (gm_u (gm_u I 44 0 (I 16 0)) 44 1 (I 16 1)) 44 2 (I 16 2)) 44 3 (I 16 3)) 44 4 (I 16 4)) L c
  refine gx_aload_n 0 dX1_takeFrom_40 rfl rfl ?_
  refine gx_aload_n 1 dX1_takeFrom_41 rfl rfl ?_
  refine gx_geti 1 5 (v := (I 16 5)) dX1_takeFrom_42 fl_X1_44 rfl rfl rfl ?_
  refine gx_puti 1 5 dX1_takeFrom_45 fl_X1_44 rfl rfl rfl ⟨rfl, rfl⟩ ?_
  show Z_Fe44_takeFrom_16 g Q 48 [(0, .ref 44), (1, .ref 16)] [] (gm_u (gm_u (gm_u (gm_u (gm_u (gm_u I 44 0 (I 16 0)) 44 1 (I 16 1)) 44 2 (I 16 2)) 44 3 (I 16 3)) 44 4 (I 16 4)) 44 5 (I 16 5)) L c
  refine gx_aload_n 1 dX1_takeFrom_48 rfl rfl ?_
  refine gx_getr 1 6 (v := 17) dX1_takeFrom_49 fl_X1_18 rfl rfl rfl ?_
  refine gx_iconst (v := 0) dX1_takeFrom_52 (by decide) ?_
  refine gx_aload_n 0 dX1_takeFrom_53 rfl rfl ?_
  refine gx_getr 1 6 (v := 45) dX1_takeFrom_54 fl_X1_18 rfl rfl rfl ?_
  refine gx_iconst (v := 0) dX1_takeFrom_57 (by decide) ?_
  refine gx_bipush (v := 6) dX1_takeFrom_58 (by decide) ?_
  refine gx_copy dX1_takeFrom_60 ml_X1_56 mw_copy rfl rfl rfl rfl rfl rfl (by decide) (by decide) (by decide) (by decide) (by decide) ?_
  show Z_Fe44_takeFrom_16 g Q 63 [(0, .ref 44), (1, .ref 16)] [] (va_up (gm_u (gm_u (gm_u (gm_u (gm_u (gm_u I 44 0 (I 16 0)) 44 1 (I 16 1)) 44 2 (I 16 2)) 44 3 (I 16 3)) 44 4 (I 16 4)) 44 5 (I 16 5)) 45 (va_cpy (I 17) (I 45) (Int32.toNatClampNeg 0) (Int32.toNatClampNeg 0) (Int32.toNatClampNeg 6))) L c
  refine gx_aload_n 1 dX1_takeFrom_63 rfl rfl ?_
  refine gx_getr 1 7 (v := 18) dX1_takeFrom_64 fl_X1_22 rfl rfl rfl ?_
  refine gx_iconst (v := 0) dX1_takeFrom_67 (by decide) ?_
  refine gx_aload_n 0 dX1_takeFrom_68 rfl rfl ?_
  refine gx_getr 1 7 (v := 46) dX1_takeFrom_69 fl_X1_22 rfl rfl rfl ?_
  refine gx_iconst (v := 0) dX1_takeFrom_72 (by decide) ?_
  refine gx_bipush (v := 6) dX1_takeFrom_73 (by decide) ?_
  refine gx_copy dX1_takeFrom_75 ml_X1_56 mw_copy rfl rfl rfl rfl rfl rfl (by decide) (by decide) (by decide) (by decide) (by decide) ?_
  show Z_Fe44_takeFrom_16 g Q 78 [(0, .ref 44), (1, .ref 16)] [] (va_up (va_up (gm_u (gm_u (gm_u (gm_u (gm_u (gm_u I 44 0 (I 16 0)) 44 1 (I 16 1)) 44 2 (I 16 2)) 44 3 (I 16 3)) 44 4 (I 16 4)) 44 5 (I 16 5)) 45 (va_cpy (I 17) (I 45) (Int32.toNatClampNeg 0) (Int32.toNatClampNeg 0) (Int32.toNatClampNeg 6))) 46 (va_cpy (I 18) (I 46) (Int32.toNatClampNeg 0) (Int32.toNatClampNeg 0) (Int32.toNatClampNeg 6))) L c
  refine gx_aload_n 1 dX1_takeFrom_78 rfl rfl ?_
  refine gx_getr 1 8 (v := 19) dX1_takeFrom_79 fl_X1_25 rfl rfl rfl ?_
  refine gx_iconst (v := 0) dX1_takeFrom_82 (by decide) ?_
  refine gx_aload_n 0 dX1_takeFrom_83 rfl rfl ?_
  refine gx_getr 1 8 (v := 47) dX1_takeFrom_84 fl_X1_25 rfl rfl rfl ?_
  refine gx_iconst (v := 0) dX1_takeFrom_87 (by decide) ?_
  refine gx_bipush (v := 6) dX1_takeFrom_88 (by decide) ?_
  refine gx_copy dX1_takeFrom_90 ml_X1_56 mw_copy rfl rfl rfl rfl rfl rfl (by decide) (by decide) (by decide) (by decide) (by decide) ?_
  show Z_Fe44_takeFrom_16 g Q 93 [(0, .ref 44), (1, .ref 16)] [] (va_up (va_up (va_up (gm_u (gm_u (gm_u (gm_u (gm_u (gm_u I 44 0 (I 16 0)) 44 1 (I 16 1)) 44 2 (I 16 2)) 44 3 (I 16 3)) 44 4 (I 16 4)) 44 5 (I 16 5)) 45 (va_cpy (I 17) (I 45) (Int32.toNatClampNeg 0) (Int32.toNatClampNeg 0) (Int32.toNatClampNeg 6))) 46 (va_cpy (I 18) (I 46) (Int32.toNatClampNeg 0) (Int32.toNatClampNeg 0) (Int32.toNatClampNeg 6))) 47 (va_cpy (I 19) (I 47) (Int32.toNatClampNeg 0) (Int32.toNatClampNeg 0) (Int32.toNatClampNeg 6))) L c
  refine gx_aload_n 0 dX1_takeFrom_93 rfl rfl ?_
  refine gx_aload_n 1 dX1_takeFrom_94 rfl rfl ?_
  refine gx_geti 1 9 (v := (I 16 9)) dX1_takeFrom_95 fl_X1_47 rfl rfl rfl ?_
  obtain ⟨hn, h⟩ := h
  refine gx_puti 1 9 dX1_takeFrom_98 fl_X1_47 rfl rfl rfl hn ?_
  show Z_Fe44_takeFrom_16 g Q 101 [(0, .ref 44), (1, .ref 16)] [] (gm_u (va_up (va_up (va_up (gm_u (gm_u (gm_u (gm_u (gm_u (gm_u I 44 0 (I 16 0)) 44 1 (I 16 1)) 44 2 (I 16 2)) 44 3 (I 16 3)) 44 4 (I 16 4)) 44 5 (I 16 5)) 45 (va_cpy (I 17) (I 45) (Int32.toNatClampNeg 0) (Int32.toNatClampNeg 0) (Int32.toNatClampNeg 6))) 46 (va_cpy (I 18) (I 46) (Int32.toNatClampNeg 0) (Int32.toNatClampNeg 0) (Int32.toNatClampNeg 6))) 47 (va_cpy (I 19) (I 47) (Int32.toNatClampNeg 0) (Int32.toNatClampNeg 0) (Int32.toNatClampNeg 6))) 44 9 (I 16 9)) L c
  refine gx_aload_n 0 dX1_takeFrom_101 rfl rfl ?_
  refine gx_aload_n 1 dX1_takeFrom_102 rfl rfl ?_
  refine gx_geti 1 10 (v := (I 16 10)) dX1_takeFrom_103 fl_X1_28 rfl rfl rfl ?_
  refine gx_puti 1 10 dX1_takeFrom_106 fl_X1_28 rfl rfl rfl ⟨rfl, rfl⟩ ?_
  show Z_Fe44_takeFrom_16 g Q 109 [(0, .ref 44), (1, .ref 16)] [] (gm_u (gm_u (va_up (va_up (va_up (gm_u (gm_u (gm_u (gm_u (gm_u (gm_u I 44 0 (I 16 0)) 44 1 (I 16 1)) 44 2 (I 16 2)) 44 3 (I 16 3)) 44 4 (I 16 4)) 44 5 (I 16 5)) 45 (va_cpy (I 17) (I 45) (Int32.toNatClampNeg 0) (Int32.toNatClampNeg 0) (Int32.toNatClampNeg 6))) 46 (va_cpy (I 18) (I 46) (Int32.toNatClampNeg 0) (Int32.toNatClampNeg 0) (Int32.toNatClampNeg 6))) 47 (va_cpy (I 19) (I 47) (Int32.toNatClampNeg 0) (Int32.toNatClampNeg 0) (Int32.toNatClampNeg 6))) 44 9 (I 16 9)) 44 10 (I 16 10)) L c
  refine gx_aload_n 0 dX1_takeFrom_109 rfl rfl ?_
  refine gx_aload_n 1 dX1_takeFrom_110 rfl rfl ?_
  refine gx_geti 1 11 (v := (I 16 11)) dX1_takeFrom_111 fl_X1_31 rfl rfl rfl ?_
  refine gx_puti 1 11 dX1_takeFrom_114 fl_X1_31 rfl rfl rfl ⟨rfl, rfl⟩ ?_
  show Z_Fe44_takeFrom_16 g Q 117 [(0, .ref 44), (1, .ref 16)] [] (gm_u (gm_u (gm_u (va_up (va_up (va_up (gm_u (gm_u (gm_u (gm_u (gm_u (gm_u I 44 0 (I 16 0)) 44 1 (I 16 1)) 44 2 (I 16 2)) 44 3 (I 16 3)) 44 4 (I 16 4)) 44 5 (I 16 5)) 45 (va_cpy (I 17) (I 45) (Int32.toNatClampNeg 0) (Int32.toNatClampNeg 0) (Int32.toNatClampNeg 6))) 46 (va_cpy (I 18) (I 46) (Int32.toNatClampNeg 0) (Int32.toNatClampNeg 0) (Int32.toNatClampNeg 6))) 47 (va_cpy (I 19) (I 47) (Int32.toNatClampNeg 0) (Int32.toNatClampNeg 0) (Int32.toNatClampNeg 6))) 44 9 (I 16 9)) 44 10 (I 16 10)) 44 11 (I 16 11)) L c
  refine gx_aload_n 0 dX1_takeFrom_117 rfl rfl ?_
  refine gx_aload_n 1 dX1_takeFrom_118 rfl rfl ?_
  refine gx_geti 1 12 (v := (I 16 12)) dX1_takeFrom_119 fl_X1_50 rfl rfl rfl ?_
  refine gx_puti 1 12 dX1_takeFrom_122 fl_X1_50 rfl rfl rfl ⟨rfl, rfl⟩ ?_
  show Z_Fe44_takeFrom_16 g Q 125 [(0, .ref 44), (1, .ref 16)] [] (gm_u (gm_u (gm_u (gm_u (va_up (va_up (va_up (gm_u (gm_u (gm_u (gm_u (gm_u (gm_u I 44 0 (I 16 0)) 44 1 (I 16 1)) 44 2 (I 16 2)) 44 3 (I 16 3)) 44 4 (I 16 4)) 44 5 (I 16 5)) 45 (va_cpy (I 17) (I 45) (Int32.toNatClampNeg 0) (Int32.toNatClampNeg 0) (Int32.toNatClampNeg 6))) 46 (va_cpy (I 18) (I 46) (Int32.toNatClampNeg 0) (Int32.toNatClampNeg 0) (Int32.toNatClampNeg 6))) 47 (va_cpy (I 19) (I 47) (Int32.toNatClampNeg 0) (Int32.toNatClampNeg 0) (Int32.toNatClampNeg 6))) 44 9 (I 16 9)) 44 10 (I 16 10)) 44 11 (I 16 11)) 44 12 (I 16 12)) L c
  refine gx_aload_n 0 dX1_takeFrom_125 rfl rfl ?_
  refine gx_aload_n 1 dX1_takeFrom_126 rfl rfl ?_
  refine gx_geti 1 13 (v := (I 16 13)) dX1_takeFrom_127 fl_X1_53 rfl rfl rfl ?_
  refine gx_puti 1 13 dX1_takeFrom_130 fl_X1_53 rfl rfl rfl ⟨rfl, rfl⟩ ?_
  show Z_Fe44_takeFrom_16 g Q 133 [(0, .ref 44), (1, .ref 16)] [] (gm_u (gm_u (gm_u (gm_u (gm_u (va_up (va_up (va_up (gm_u (gm_u (gm_u (gm_u (gm_u (gm_u I 44 0 (I 16 0)) 44 1 (I 16 1)) 44 2 (I 16 2)) 44 3 (I 16 3)) 44 4 (I 16 4)) 44 5 (I 16 5)) 45 (va_cpy (I 17) (I 45) (Int32.toNatClampNeg 0) (Int32.toNatClampNeg 0) (Int32.toNatClampNeg 6))) 46 (va_cpy (I 18) (I 46) (Int32.toNatClampNeg 0) (Int32.toNatClampNeg 0) (Int32.toNatClampNeg 6))) 47 (va_cpy (I 19) (I 47) (Int32.toNatClampNeg 0) (Int32.toNatClampNeg 0) (Int32.toNatClampNeg 6))) 44 9 (I 16 9)) 44 10 (I 16 10)) 44 11 (I 16 11)) 44 12 (I 16 12)) 44 13 (I 16 13)) L c
  exact gx_vret dX1_takeFrom_133 rfl rfl rfl ⟨_, _, _, rfl, rfl, h⟩
abbrev Z_Sh48_takeFrom_20 (g : gm_G) (Q : mI → mL → gm_cfg → Prop) (pc : Nat) (lv : List (Nat × Value)) (st : List Value) (I : mI) (L : mL) (c : gm_cfg) : Prop := gm_X g RX8 "takeFrom" cX8_takeFrom 2 none 1 0 0 (qV Q) 0 0 pc lv st (SH, I, L, RR c)
abbrev C_Sh48_takeFrom_20 (g : gm_G) (I : mI) (L : mL) (c : gm_cfg) (Q : mI → mL → gm_cfg → Prop) : Prop := gm_Met g yX8_takeFrom cX8_takeFrom 2 none 1 0 0 [.ref 48, .ref 20] (SH, I, L, RR c) (qV Q)
set_option maxRecDepth 100000 in
theorem e_Sh48_takeFrom_20 {g : gm_G} {Q : mI → mL → gm_cfg → Prop} {I : mI} {L : mL} {c : gm_cfg} (h : Q (gm_u (va_up (va_up I 49 (va_cpy (I 21) (I 49) (Int32.toNatClampNeg 0) (Int32.toNatClampNeg 0) (Int32.toNatClampNeg 40))) 50 (va_cpy (I 22) (I 50) (Int32.toNatClampNeg 0) (Int32.toNatClampNeg 0) (Int32.toNatClampNeg 40))) 48 2 (I 20 2)) L c) : C_Sh48_takeFrom_20 g  I L c Q := by
  refine gm_enter (lv := [(0, .ref 48), (1, .ref 20)]) (by decide) rfl rfl rfl rfl ?_
  show Z_Sh48_takeFrom_20 g Q 0 [(0, .ref 48), (1, .ref 20)] [] I L c
  refine gx_aload_n 1 dX8_takeFrom_0 rfl rfl ?_
  refine gx_getr 8 0 (v := 21) dX8_takeFrom_1 fl_X8_9 rfl rfl rfl ?_
  refine gx_iconst (v := 0) dX8_takeFrom_4 (by decide) ?_
  refine gx_aload_n 0 dX8_takeFrom_5 rfl rfl ?_
  refine gx_getr 8 0 (v := 49) dX8_takeFrom_6 fl_X8_9 rfl rfl rfl ?_
  refine gx_iconst (v := 0) dX8_takeFrom_9 (by decide) ?_
  refine gx_bipush (v := 40) dX8_takeFrom_10 (by decide) ?_
  refine gx_copy dX8_takeFrom_12 ml_X8_18 mw_copy rfl rfl rfl rfl rfl rfl (by decide) (by decide) (by decide) (by decide) (by decide) ?_
  show Z_Sh48_takeFrom_20 g Q 15 [(0, .ref 48), (1, .ref 20)] [] (va_up I 49 (va_cpy (I 21) (I 49) (Int32.toNatClampNeg 0) (Int32.toNatClampNeg 0) (Int32.toNatClampNeg 40))) L c
  refine gx_aload_n 1 dX8_takeFrom_15 rfl rfl ?_
  refine gx_getr 8 1 (v := 22) dX8_takeFrom_16 fl_X8_15 rfl rfl rfl ?_
  refine gx_iconst (v := 0) dX8_takeFrom_19 (by decide) ?_
  refine gx_aload_n 0 dX8_takeFrom_20 rfl rfl ?_
  refine gx_getr 8 1 (v := 50) dX8_takeFrom_21 fl_X8_15 rfl rfl rfl ?_
  refine gx_iconst (v := 0) dX8_takeFrom_24 (by decide) ?_
  refine gx_bipush (v := 40) dX8_takeFrom_25 (by decide) ?_
  refine gx_copy dX8_takeFrom_27 ml_X8_18 mw_copy rfl rfl rfl rfl rfl rfl (by decide) (by decide) (by decide) (by decide) (by decide) ?_
  show Z_Sh48_takeFrom_20 g Q 30 [(0, .ref 48), (1, .ref 20)] [] (va_up (va_up I 49 (va_cpy (I 21) (I 49) (Int32.toNatClampNeg 0) (Int32.toNatClampNeg 0) (Int32.toNatClampNeg 40))) 50 (va_cpy (I 22) (I 50) (Int32.toNatClampNeg 0) (Int32.toNatClampNeg 0) (Int32.toNatClampNeg 40))) L c
  refine gx_aload_n 0 dX8_takeFrom_30 rfl rfl ?_
  refine gx_aload_n 1 dX8_takeFrom_31 rfl rfl ?_
  refine gx_geti 8 2 (v := (I 20 2)) dX8_takeFrom_32 fl_X8_24 rfl rfl rfl ?_
  refine gx_puti 8 2 dX8_takeFrom_35 fl_X8_24 rfl rfl rfl ⟨rfl, rfl⟩ ?_
  show Z_Sh48_takeFrom_20 g Q 38 [(0, .ref 48), (1, .ref 20)] [] (gm_u (va_up (va_up I 49 (va_cpy (I 21) (I 49) (Int32.toNatClampNeg 0) (Int32.toNatClampNeg 0) (Int32.toNatClampNeg 40))) 50 (va_cpy (I 22) (I 50) (Int32.toNatClampNeg 0) (Int32.toNatClampNeg 0) (Int32.toNatClampNeg 40))) 48 2 (I 20 2)) L c
  exact gx_vret dX8_takeFrom_38 rfl rfl rfl ⟨_, _, _, rfl, rfl, h⟩
abbrev Z_Fe52_takeFrom_16 (g : gm_G) (Q : mI → mL → gm_cfg → Prop) (pc : Nat) (lv : List (Nat × Value)) (st : List Value) (I : mI) (L : mL) (c : gm_cfg) : Prop := gm_X g RX1 "takeFrom" cX1_takeFrom 2 none 1 0 0 (qV Q) 0 0 pc lv st (SH, I, L, RR c)
abbrev C_Fe52_takeFrom_16 (g : gm_G) (I : mI) (L : mL) (c : gm_cfg) (Q : mI → mL → gm_cfg → Prop) : Prop := gm_Met g yX1_takeFrom cX1_takeFrom 2 none 1 0 0 [.ref 52, .ref 16] (SH, I, L, RR c) (qV Q)
set_option maxRecDepth 100000 in
theorem e_Fe52_takeFrom_16 {g : gm_G} {Q : mI → mL → gm_cfg → Prop} {I : mI} {L : mL} {c : gm_cfg} (h : (gm_z (I 16 2) ∧ (gm_z (I 16 9) ∧ Q (gm_u (gm_u (gm_u (gm_u (gm_u (va_up (va_up (va_up (gm_u (gm_u (gm_u (gm_u (gm_u (gm_u I 52 0 (I 16 0)) 52 1 (I 16 1)) 52 2 (I 16 2)) 52 3 (I 16 3)) 52 4 (I 16 4)) 52 5 (I 16 5)) 53 (va_cpy (I 17) (I 53) (Int32.toNatClampNeg 0) (Int32.toNatClampNeg 0) (Int32.toNatClampNeg 6))) 54 (va_cpy (I 18) (I 54) (Int32.toNatClampNeg 0) (Int32.toNatClampNeg 0) (Int32.toNatClampNeg 6))) 55 (va_cpy (I 19) (I 55) (Int32.toNatClampNeg 0) (Int32.toNatClampNeg 0) (Int32.toNatClampNeg 6))) 52 9 (I 16 9)) 52 10 (I 16 10)) 52 11 (I 16 11)) 52 12 (I 16 12)) 52 13 (I 16 13)) L c))) : C_Fe52_takeFrom_16 g  I L c Q := by
  refine gm_enter (lv := [(0, .ref 52), (1, .ref 16)]) (by decide) rfl rfl rfl rfl ?_
  show Z_Fe52_takeFrom_16 g Q 0 [(0, .ref 52), (1, .ref 16)] [] I L c
  refine gx_aload_n 0 dX1_takeFrom_0 rfl rfl ?_
  refine gx_aload_n 1 dX1_takeFrom_1 rfl rfl ?_
  refine gx_geti 1 0 (v := (I 16 0)) dX1_takeFrom_2 fl_X1_9 rfl rfl rfl ?_
  refine gx_puti 1 0 dX1_takeFrom_5 fl_X1_9 rfl rfl rfl ⟨rfl, rfl⟩ ?_
  show Z_Fe52_takeFrom_16 g Q 8 [(0, .ref 52), (1, .ref 16)] [] (gm_u I 52 0 (I 16 0)) L c
  refine gx_aload_n 0 dX1_takeFrom_8 rfl rfl ?_
  refine gx_aload_n 1 dX1_takeFrom_9 rfl rfl ?_
  refine gx_geti 1 1 (v := (I 16 1)) dX1_takeFrom_10 fl_X1_15 rfl rfl rfl ?_
  refine gx_puti 1 1 dX1_takeFrom_13 fl_X1_15 rfl rfl rfl ⟨rfl, rfl⟩ ?_
  show Z_Fe52_takeFrom_16 g Q 16 [(0, .ref 52), (1, .ref 16)] [] (gm_u (gm_u I 52 0 (I 16 0)) 52 1 (I 16 1)) L c
  refine gx_aload_n 0 dX1_takeFrom_16 rfl rfl ?_
  refine gx_aload_n 1 dX1_takeFrom_17 rfl rfl ?_
  refine gx_geti 1 2 (v := (I 16 2)) dX1_takeFrom_18 fl_X1_34 rfl rfl rfl ?_
  obtain ⟨hn, h⟩ := h
  refine gx_puti 1 2 dX1_takeFrom_21 fl_X1_34 rfl rfl rfl hn ?_
  show Z_Fe52_takeFrom_16 g Q 24 [(0, .ref 52), (1, .ref 16)] [] (gm_u (gm_u (gm_u I 52 0 (I 16 0)) 52 1 (I 16 1)) 52 2 (I 16 2)) L c
  refine gx_aload_n 0 dX1_takeFrom_24 rfl rfl ?_
  refine gx_aload_n 1 dX1_takeFrom_25 rfl rfl ?_
  refine gx_geti 1 3 (v := (I 16 3)) dX1_takeFrom_26 fl_X1_38 rfl rfl rfl ?_
  refine gx_puti 1 3 dX1_takeFrom_29 fl_X1_38 rfl rfl rfl ⟨rfl, rfl⟩ ?_
  show Z_Fe52_takeFrom_16 g Q 32 [(0, .ref 52), (1, .ref 16)] [] (gm_u (gm_u (gm_u (gm_u I 52 0 (I 16 0)) 52 1 (I 16 1)) 52 2 (I 16 2)) 52 3 (I 16 3)) L c
  refine gx_aload_n 0 dX1_takeFrom_32 rfl rfl ?_
  refine gx_aload_n 1 dX1_takeFrom_33 rfl rfl ?_
  refine gx_geti 1 4 (v := (I 16 4)) dX1_takeFrom_34 fl_X1_41 rfl rfl rfl ?_
  refine gx_puti 1 4 dX1_takeFrom_37 fl_X1_41 rfl rfl rfl ⟨rfl, rfl⟩ ?_
  show Z_Fe52_takeFrom_16 g Q 40 [(0, .ref 52), (1, .ref 16)] [] (gm_u (gm_u (gm_u (gm_u (gm_u I 52 0 (I 16 0)) 52 1 (I 16 1)) 52 2 (I 16 2)) 52 3 (I 16 3)) 52 4 (I 16 4)) L c
  refine gx_aload_n 0 dX1_takeFrom_40 rfl rfl ?_
  refine gx_aload_n 1 dX1_takeFrom_41 rfl rfl ?_
  refine gx_geti 1 5 (v := (I 16 5)) dX1_takeFrom_42 fl_X1_44 rfl rfl rfl ?_
  refine gx_puti 1 5 dX1_takeFrom_45 fl_X1_44 rfl rfl rfl ⟨rfl, rfl⟩ ?_
  show Z_Fe52_takeFrom_16 g Q 48 [(0, .ref 52), (1, .ref 16)] [] (gm_u (gm_u (gm_u (gm_u (gm_u (gm_u I 52 0 (I 16 0)) 52 1 (I 16 1)) 52 2 (I 16 2)) 52 3 (I 16 3)) 52 4 (I 16 4)) 52 5 (I 16 5)) L c
  refine gx_aload_n 1 dX1_takeFrom_48 rfl rfl ?_
  refine gx_getr 1 6 (v := 17) dX1_takeFrom_49 fl_X1_18 rfl rfl rfl ?_
  refine gx_iconst (v := 0) dX1_takeFrom_52 (by decide) ?_
  refine gx_aload_n 0 dX1_takeFrom_53 rfl rfl ?_
  refine gx_getr 1 6 (v := 53) dX1_takeFrom_54 fl_X1_18 rfl rfl rfl ?_
  refine gx_iconst (v := 0) dX1_takeFrom_57 (by decide) ?_
  refine gx_bipush (v := 6) dX1_takeFrom_58 (by decide) ?_
  refine gx_copy dX1_takeFrom_60 ml_X1_56 mw_copy rfl rfl rfl rfl rfl rfl (by decide) (by decide) (by decide) (by decide) (by decide) ?_
  show Z_Fe52_takeFrom_16 g Q 63 [(0, .ref 52), (1, .ref 16)] [] (va_up (gm_u (gm_u (gm_u (gm_u (gm_u (gm_u I 52 0 (I 16 0)) 52 1 (I 16 1)) 52 2 (I 16 2)) 52 3 (I 16 3)) 52 4 (I 16 4)) 52 5 (I 16 5)) 53 (va_cpy (I 17) (I 53) (Int32.toNatClampNeg 0) (Int32.toNatClampNeg 0) (Int32.toNatClampNeg 6))) L c
  refine gx_aload_n 1 dX1_takeFrom_63 rfl rfl ?_
  refine gx_getr 1 7 (v := 18) dX1_takeFrom_64 fl_X1_22 rfl rfl rfl ?_
  refine gx_iconst (v := 0) dX1_takeFrom_67 (by decide) ?_
  refine gx_aload_n 0 dX1_takeFrom_68 rfl rfl ?_
  refine gx_getr 1 7 (v := 54) dX1_takeFrom_69 fl_X1_22 rfl rfl rfl ?_
  refine gx_iconst (v := 0) dX1_takeFrom_72 (by decide) ?_
  refine gx_bipush (v := 6) dX1_takeFrom_73 (by decide) ?_
  refine gx_copy dX1_takeFrom_75 ml_X1_56 mw_copy rfl rfl rfl rfl rfl rfl (by decide) (by decide) (by decide) (by decide) (by decide) ?_
  show Z_Fe52_takeFrom_16 g Q 78 [(0, .ref 52), (1, .ref 16)] [] (va_up (va_up (gm_u (gm_u (gm_u (gm_u (gm_u (gm_u I 52 0 (I 16 0)) 52 1 (I 16 1)) 52 2 (I 16 2)) 52 3 (I 16 3)) 52 4 (I 16 4)) 52 5 (I 16 5)) 53 (va_cpy (I 17) (I 53) (Int32.toNatClampNeg 0) (Int32.toNatClampNeg 0) (Int32.toNatClampNeg 6))) 54 (va_cpy (I 18) (I 54) (Int32.toNatClampNeg 0) (Int32.toNatClampNeg 0) (Int32.toNatClampNeg 6))) L c
  refine gx_aload_n 1 dX1_takeFrom_78 rfl rfl ?_
  refine gx_getr 1 8 (v := 19) dX1_takeFrom_79 fl_X1_25 rfl rfl rfl ?_
  refine gx_iconst (v := 0) dX1_takeFrom_82 (by decide) ?_
  refine gx_aload_n 0 dX1_takeFrom_83 rfl rfl ?_
  refine gx_getr 1 8 (v := 55) dX1_takeFrom_84 fl_X1_25 rfl rfl rfl ?_
  refine gx_iconst (v := 0) dX1_takeFrom_87 (by decide) ?_
  refine gx_bipush (v := 6) dX1_takeFrom_88 (by decide) ?_
  refine gx_copy dX1_takeFrom_90 ml_X1_56 mw_copy rfl rfl rfl rfl rfl rfl (by decide) (by decide) (by decide) (by decide) (by decide) ?_
  show Z_Fe52_takeFrom_16 g Q 93 [(0, .ref 52), (1, .ref 16)] [] (va_up (va_up (va_up (gm_u (gm_u (gm_u (gm_u (gm_u (gm_u I 52 0 (I 16 0)) 52 1 (I 16 1)) 52 2 (I 16 2)) 52 3 (I 16 3)) 52 4 (I 16 4)) 52 5 (I 16 5)) 53 (va_cpy (I 17) (I 53) (Int32.toNatClampNeg 0) (Int32.toNatClampNeg 0) (Int32.toNatClampNeg 6))) 54 (va_cpy (I 18) (I 54) (Int32.toNatClampNeg 0) (Int32.toNatClampNeg 0) (Int32.toNatClampNeg 6))) 55 (va_cpy (I 19) (I 55) (Int32.toNatClampNeg 0) (Int32.toNatClampNeg 0) (Int32.toNatClampNeg 6))) L c
  refine gx_aload_n 0 dX1_takeFrom_93 rfl rfl ?_
  refine gx_aload_n 1 dX1_takeFrom_94 rfl rfl ?_
  refine gx_geti 1 9 (v := (I 16 9)) dX1_takeFrom_95 fl_X1_47 rfl rfl rfl ?_
  obtain ⟨hn, h⟩ := h
  refine gx_puti 1 9 dX1_takeFrom_98 fl_X1_47 rfl rfl rfl hn ?_
  show Z_Fe52_takeFrom_16 g Q 101 [(0, .ref 52), (1, .ref 16)] [] (gm_u (va_up (va_up (va_up (gm_u (gm_u (gm_u (gm_u (gm_u (gm_u I 52 0 (I 16 0)) 52 1 (I 16 1)) 52 2 (I 16 2)) 52 3 (I 16 3)) 52 4 (I 16 4)) 52 5 (I 16 5)) 53 (va_cpy (I 17) (I 53) (Int32.toNatClampNeg 0) (Int32.toNatClampNeg 0) (Int32.toNatClampNeg 6))) 54 (va_cpy (I 18) (I 54) (Int32.toNatClampNeg 0) (Int32.toNatClampNeg 0) (Int32.toNatClampNeg 6))) 55 (va_cpy (I 19) (I 55) (Int32.toNatClampNeg 0) (Int32.toNatClampNeg 0) (Int32.toNatClampNeg 6))) 52 9 (I 16 9)) L c
  refine gx_aload_n 0 dX1_takeFrom_101 rfl rfl ?_
  refine gx_aload_n 1 dX1_takeFrom_102 rfl rfl ?_
  refine gx_geti 1 10 (v := (I 16 10)) dX1_takeFrom_103 fl_X1_28 rfl rfl rfl ?_
  refine gx_puti 1 10 dX1_takeFrom_106 fl_X1_28 rfl rfl rfl ⟨rfl, rfl⟩ ?_
  show Z_Fe52_takeFrom_16 g Q 109 [(0, .ref 52), (1, .ref 16)] [] (gm_u (gm_u (va_up (va_up (va_up (gm_u (gm_u (gm_u (gm_u (gm_u (gm_u I 52 0 (I 16 0)) 52 1 (I 16 1)) 52 2 (I 16 2)) 52 3 (I 16 3)) 52 4 (I 16 4)) 52 5 (I 16 5)) 53 (va_cpy (I 17) (I 53) (Int32.toNatClampNeg 0) (Int32.toNatClampNeg 0) (Int32.toNatClampNeg 6))) 54 (va_cpy (I 18) (I 54) (Int32.toNatClampNeg 0) (Int32.toNatClampNeg 0) (Int32.toNatClampNeg 6))) 55 (va_cpy (I 19) (I 55) (Int32.toNatClampNeg 0) (Int32.toNatClampNeg 0) (Int32.toNatClampNeg 6))) 52 9 (I 16 9)) 52 10 (I 16 10)) L c
  refine gx_aload_n 0 dX1_takeFrom_109 rfl rfl ?_
  refine gx_aload_n 1 dX1_takeFrom_110 rfl rfl ?_
  refine gx_geti 1 11 (v := (I 16 11)) dX1_takeFrom_111 fl_X1_31 rfl rfl rfl ?_
  refine gx_puti 1 11 dX1_takeFrom_114 fl_X1_31 rfl rfl rfl ⟨rfl, rfl⟩ ?_
  show Z_Fe52_takeFrom_16 g Q 117 [(0, .ref 52), (1, .ref 16)] [] (gm_u (gm_u (gm_u (va_up (va_up (va_up (gm_u (gm_u (gm_u (gm_u (gm_u (gm_u I 52 0 (I 16 0)) 52 1 (I 16 1)) 52 2 (I 16 2)) 52 3 (I 16 3)) 52 4 (I 16 4)) 52 5 (I 16 5)) 53 (va_cpy (I 17) (I 53) (Int32.toNatClampNeg 0) (Int32.toNatClampNeg 0) (Int32.toNatClampNeg 6))) 54 (va_cpy (I 18) (I 54) (Int32.toNatClampNeg 0) (Int32.toNatClampNeg 0) (Int32.toNatClampNeg 6))) 55 (va_cpy (I 19) (I 55) (Int32.toNatClampNeg 0) (Int32.toNatClampNeg 0) (Int32.toNatClampNeg 6))) 52 9 (I 16 9)) 52 10 (I 16 10)) 52 11 (I 16 11)) L c
  refine gx_aload_n 0 dX1_takeFrom_117 rfl rfl ?_
  refine gx_aload_n 1 dX1_takeFrom_118 rfl rfl ?_
  refine gx_geti 1 12 (v := (I 16 12)) dX1_takeFrom_119 fl_X1_50 rfl rfl rfl ?_
  refine gx_puti 1 12 dX1_takeFrom_122 fl_X1_50 rfl rfl rfl ⟨rfl, rfl⟩ ?_
  show Z_Fe52_takeFrom_16 g Q 125 [(0, .ref 52), (1, .ref 16)] [] (gm_u (gm_u (gm_u (gm_u (va_up (va_up (va_up (gm_u (gm_u (gm_u (gm_u (gm_u (gm_u I 52 0 (I 16 0)) 52 1 (I 16 1)) 52 2 (I 16 2)) 52 3 (I 16 3)) 52 4 (I 16 4)) 52 5 (I 16 5)) 53 (va_cpy (I 17) (I 53) (Int32.toNatClampNeg 0) (Int32.toNatClampNeg 0) (Int32.toNatClampNeg 6))) 54 (va_cpy (I 18) (I 54) (Int32.toNatClampNeg 0) (Int32.toNatClampNeg 0) (Int32.toNatClampNeg 6))) 55 (va_cpy (I 19) (I 55) (Int32.toNatClampNeg 0) (Int32.toNatClampNeg 0) (Int32.toNatClampNeg 6))) 52 9 (I 16 9)) 52 10 (I 16 10)) 52 11 (I 16 11)) 52 12 (I 16 12)) L c
  refine gx_aload_n 0 dX1_takeFrom_125 rfl rfl ?_
  refine gx_aload_n 1 dX1_takeFrom_126 rfl rfl ?_
  refine gx_geti 1 13 (v := (I 16 13)) dX1_takeFrom_127 fl_X1_53 rfl rfl rfl ?_
  refine gx_puti 1 13 dX1_takeFrom_130 fl_X1_53 rfl rfl rfl ⟨rfl, rfl⟩ ?_
  show Z_Fe52_takeFrom_16 g Q 133 [(0, .ref 52), (1, .ref 16)] [] (gm_u (gm_u (gm_u (gm_u (gm_u (va_up (va_up (va_up (gm_u (gm_u (gm_u (gm_u (gm_u (gm_u I 52 0 (I 16 0)) 52 1 (I 16 1)) 52 2 (I 16 2)) 52 3 (I 16 3)) 52 4 (I 16 4)) 52 5 (I 16 5)) 53 (va_cpy (I 17) (I 53) (Int32.toNatClampNeg 0) (Int32.toNatClampNeg 0) (Int32.toNatClampNeg 6))) 54 (va_cpy (I 18) (I 54) (Int32.toNatClampNeg 0) (Int32.toNatClampNeg 0) (Int32.toNatClampNeg 6))) 55 (va_cpy (I 19) (I 55) (Int32.toNatClampNeg 0) (Int32.toNatClampNeg 0) (Int32.toNatClampNeg 6))) 52 9 (I 16 9)) 52 10 (I 16 10)) 52 11 (I 16 11)) 52 12 (I 16 12)) 52 13 (I 16 13)) L c
  exact gx_vret dX1_takeFrom_133 rfl rfl rfl ⟨_, _, _, rfl, rfl, h⟩
abbrev Z_Sh56_takeFrom_20 (g : gm_G) (Q : mI → mL → gm_cfg → Prop) (pc : Nat) (lv : List (Nat × Value)) (st : List Value) (I : mI) (L : mL) (c : gm_cfg) : Prop := gm_X g RX8 "takeFrom" cX8_takeFrom 2 none 1 0 0 (qV Q) 0 0 pc lv st (SH, I, L, RR c)
abbrev C_Sh56_takeFrom_20 (g : gm_G) (I : mI) (L : mL) (c : gm_cfg) (Q : mI → mL → gm_cfg → Prop) : Prop := gm_Met g yX8_takeFrom cX8_takeFrom 2 none 1 0 0 [.ref 56, .ref 20] (SH, I, L, RR c) (qV Q)
set_option maxRecDepth 100000 in
theorem e_Sh56_takeFrom_20 {g : gm_G} {Q : mI → mL → gm_cfg → Prop} {I : mI} {L : mL} {c : gm_cfg} (h : Q (gm_u (va_up (va_up I 57 (va_cpy (I 21) (I 57) (Int32.toNatClampNeg 0) (Int32.toNatClampNeg 0) (Int32.toNatClampNeg 40))) 58 (va_cpy (I 22) (I 58) (Int32.toNatClampNeg 0) (Int32.toNatClampNeg 0) (Int32.toNatClampNeg 40))) 56 2 (I 20 2)) L c) : C_Sh56_takeFrom_20 g  I L c Q := by
  refine gm_enter (lv := [(0, .ref 56), (1, .ref 20)]) (by decide) rfl rfl rfl rfl ?_
  show Z_Sh56_takeFrom_20 g Q 0 [(0, .ref 56), (1, .ref 20)] [] I L c
  refine gx_aload_n 1 dX8_takeFrom_0 rfl rfl ?_
  refine gx_getr 8 0 (v := 21) dX8_takeFrom_1 fl_X8_9 rfl rfl rfl ?_
  refine gx_iconst (v := 0) dX8_takeFrom_4 (by decide) ?_
  refine gx_aload_n 0 dX8_takeFrom_5 rfl rfl ?_
  refine gx_getr 8 0 (v := 57) dX8_takeFrom_6 fl_X8_9 rfl rfl rfl ?_
  refine gx_iconst (v := 0) dX8_takeFrom_9 (by decide) ?_
  refine gx_bipush (v := 40) dX8_takeFrom_10 (by decide) ?_
  refine gx_copy dX8_takeFrom_12 ml_X8_18 mw_copy rfl rfl rfl rfl rfl rfl (by decide) (by decide) (by decide) (by decide) (by decide) ?_
  show Z_Sh56_takeFrom_20 g Q 15 [(0, .ref 56), (1, .ref 20)] [] (va_up I 57 (va_cpy (I 21) (I 57) (Int32.toNatClampNeg 0) (Int32.toNatClampNeg 0) (Int32.toNatClampNeg 40))) L c
  refine gx_aload_n 1 dX8_takeFrom_15 rfl rfl ?_
  refine gx_getr 8 1 (v := 22) dX8_takeFrom_16 fl_X8_15 rfl rfl rfl ?_
  refine gx_iconst (v := 0) dX8_takeFrom_19 (by decide) ?_
  refine gx_aload_n 0 dX8_takeFrom_20 rfl rfl ?_
  refine gx_getr 8 1 (v := 58) dX8_takeFrom_21 fl_X8_15 rfl rfl rfl ?_
  refine gx_iconst (v := 0) dX8_takeFrom_24 (by decide) ?_
  refine gx_bipush (v := 40) dX8_takeFrom_25 (by decide) ?_
  refine gx_copy dX8_takeFrom_27 ml_X8_18 mw_copy rfl rfl rfl rfl rfl rfl (by decide) (by decide) (by decide) (by decide) (by decide) ?_
  show Z_Sh56_takeFrom_20 g Q 30 [(0, .ref 56), (1, .ref 20)] [] (va_up (va_up I 57 (va_cpy (I 21) (I 57) (Int32.toNatClampNeg 0) (Int32.toNatClampNeg 0) (Int32.toNatClampNeg 40))) 58 (va_cpy (I 22) (I 58) (Int32.toNatClampNeg 0) (Int32.toNatClampNeg 0) (Int32.toNatClampNeg 40))) L c
  refine gx_aload_n 0 dX8_takeFrom_30 rfl rfl ?_
  refine gx_aload_n 1 dX8_takeFrom_31 rfl rfl ?_
  refine gx_geti 8 2 (v := (I 20 2)) dX8_takeFrom_32 fl_X8_24 rfl rfl rfl ?_
  refine gx_puti 8 2 dX8_takeFrom_35 fl_X8_24 rfl rfl rfl ⟨rfl, rfl⟩ ?_
  show Z_Sh56_takeFrom_20 g Q 38 [(0, .ref 56), (1, .ref 20)] [] (gm_u (va_up (va_up I 57 (va_cpy (I 21) (I 57) (Int32.toNatClampNeg 0) (Int32.toNatClampNeg 0) (Int32.toNatClampNeg 40))) 58 (va_cpy (I 22) (I 58) (Int32.toNatClampNeg 0) (Int32.toNatClampNeg 0) (Int32.toNatClampNeg 40))) 56 2 (I 20 2)) L c
  exact gx_vret dX8_takeFrom_38 rfl rfl rfl ⟨_, _, _, rfl, rfl, h⟩
abbrev Z_Fe16_takeFrom_44 (g : gm_G) (Q : mI → mL → gm_cfg → Prop) (pc : Nat) (lv : List (Nat × Value)) (st : List Value) (I : mI) (L : mL) (c : gm_cfg) : Prop := gm_X g RX1 "takeFrom" cX1_takeFrom 2 none 1 0 0 (qV Q) 0 0 pc lv st (SH, I, L, RR c)
abbrev C_Fe16_takeFrom_44 (g : gm_G) (I : mI) (L : mL) (c : gm_cfg) (Q : mI → mL → gm_cfg → Prop) : Prop := gm_Met g yX1_takeFrom cX1_takeFrom 2 none 1 0 0 [.ref 16, .ref 44] (SH, I, L, RR c) (qV Q)
set_option maxRecDepth 100000 in
theorem e_Fe16_takeFrom_44 {g : gm_G} {Q : mI → mL → gm_cfg → Prop} {I : mI} {L : mL} {c : gm_cfg} (h : (gm_z (I 44 2) ∧ (gm_z (I 44 9) ∧ Q (gm_u (gm_u (gm_u (gm_u (gm_u (va_up (va_up (va_up (gm_u (gm_u (gm_u (gm_u (gm_u (gm_u I 16 0 (I 44 0)) 16 1 (I 44 1)) 16 2 (I 44 2)) 16 3 (I 44 3)) 16 4 (I 44 4)) 16 5 (I 44 5)) 17 (va_cpy (I 45) (I 17) (Int32.toNatClampNeg 0) (Int32.toNatClampNeg 0) (Int32.toNatClampNeg 6))) 18 (va_cpy (I 46) (I 18) (Int32.toNatClampNeg 0) (Int32.toNatClampNeg 0) (Int32.toNatClampNeg 6))) 19 (va_cpy (I 47) (I 19) (Int32.toNatClampNeg 0) (Int32.toNatClampNeg 0) (Int32.toNatClampNeg 6))) 16 9 (I 44 9)) 16 10 (I 44 10)) 16 11 (I 44 11)) 16 12 (I 44 12)) 16 13 (I 44 13)) L c))) : C_Fe16_takeFrom_44 g  I L c Q := by
  refine gm_enter (lv := [(0, .ref 16), (1, .ref 44)]) (by decide) rfl rfl rfl rfl ?_
  show Z_Fe16_takeFrom_44 g Q 0 [(0, .ref 16), (1, .ref 44)] [] I L c
  refine gx_aload_n 0 dX1_takeFrom_0 rfl rfl ?_
  refine gx_aload_n 1 dX1_takeFrom_1 rfl rfl ?_
  refine gx_geti 1 0 (v := (I 44 0)) dX1_takeFrom_2 fl_X1_9 rfl rfl rfl ?_
  refine gx_puti 1 0 dX1_takeFrom_5 fl_X1_9 rfl rfl rfl ⟨rfl, rfl⟩ ?_
  show Z_Fe16_takeFrom_44 g Q 8 [(0, .ref 16), (1, .ref 44)] [] (gm_u I 16 0 (I 44 0)) L c
  refine gx_aload_n 0 dX1_takeFrom_8 rfl rfl ?_
  refine gx_aload_n 1 dX1_takeFrom_9 rfl rfl ?_
  refine gx_geti 1 1 (v := (I 44 1)) dX1_takeFrom_10 fl_X1_15 rfl rfl rfl ?_
  refine gx_puti 1 1 dX1_takeFrom_13 fl_X1_15 rfl rfl rfl ⟨rfl, rfl⟩ ?_
  show Z_Fe16_takeFrom_44 g Q 16 [(0, .ref 16), (1, .ref 44)] [] (gm_u (gm_u I 16 0 (I 44 0)) 16 1 (I 44 1)) L c
  refine gx_aload_n 0 dX1_takeFrom_16 rfl rfl ?_
  refine gx_aload_n 1 dX1_takeFrom_17 rfl rfl ?_
  refine gx_geti 1 2 (v := (I 44 2)) dX1_takeFrom_18 fl_X1_34 rfl rfl rfl ?_
  obtain ⟨hn, h⟩ := h
  refine gx_puti 1 2 dX1_takeFrom_21 fl_X1_34 rfl rfl rfl hn ?_
  show Z_Fe16_takeFrom_44 g Q 24 [(0, .ref 16), (1, .ref 44)] [] (gm_u (gm_u (gm_u I 16 0 (I 44 0)) 16 1 (I 44 1)) 16 2 (I 44 2)) L c
  refine gx_aload_n 0 dX1_takeFrom_24 rfl rfl ?_
  refine gx_aload_n 1 dX1_takeFrom_25 rfl rfl ?_
  refine gx_geti 1 3 (v := (I 44 3)) dX1_takeFrom_26 fl_X1_38 rfl rfl rfl ?_
  refine gx_puti 1 3 dX1_takeFrom_29 fl_X1_38 rfl rfl rfl ⟨rfl, rfl⟩ ?_
  show Z_Fe16_takeFrom_44 g Q 32 [(0, .ref 16), (1, .ref 44)] [] (gm_u (gm_u (gm_u (gm_u I 16 0 (I 44 0)) 16 1 (I 44 1)) 16 2 (I 44 2)) 16 3 (I 44 3)) L c
  refine gx_aload_n 0 dX1_takeFrom_32 rfl rfl ?_
  refine gx_aload_n 1 dX1_takeFrom_33 rfl rfl ?_
  refine gx_geti 1 4 (v := (I 44 4)) dX1_takeFrom_34 fl_X1_41 rfl rfl rfl ?_
  refine gx_puti 1 4 dX1_takeFrom_37 fl_X1_41 rfl rfl rfl ⟨rfl, rfl⟩ ?_
  show Z_Fe16_takeFrom_44 g Q 40 [(0, .ref 16), (1, .ref 44)] [] (gm_u (gm_u (gm_u (gm_u (gm_u I 16 0 (I 44 0)) 16 1 (I 44 1)) 16 2 (I 44 2)) 16 3 (I 44 3)) 16 4 (I 44 4)) L c
  refine gx_aload_n 0 dX1_takeFrom_40 rfl rfl ?_
  refine gx_aload_n 1 dX1_takeFrom_41 rfl rfl ?_
  refine gx_geti 1 5 (v := (I 44 5)) dX1_takeFrom_42 fl_X1_44 rfl rfl rfl ?_
  refine gx_puti 1 5 dX1_takeFrom_45 fl_X1_44 rfl rfl rfl ⟨rfl, rfl⟩ ?_
  show Z_Fe16_takeFrom_44 g Q 48 [(0, .ref 16), (1, .ref 44)] [] (gm_u (gm_u (gm_u (gm_u (gm_u (gm_u I 16 0 (I 44 0)) 16 1 (I 44 1)) 16 2 (I 44 2)) 16 3 (I 44 3)) 16 4 (I 44 4)) 16 5 (I 44 5)) L c
  refine gx_aload_n 1 dX1_takeFrom_48 rfl rfl ?_
  refine gx_getr 1 6 (v := 45) dX1_takeFrom_49 fl_X1_18 rfl rfl rfl ?_
  refine gx_iconst (v := 0) dX1_takeFrom_52 (by decide) ?_
  refine gx_aload_n 0 dX1_takeFrom_53 rfl rfl ?_
  refine gx_getr 1 6 (v := 17) dX1_takeFrom_54 fl_X1_18 rfl rfl rfl ?_
  refine gx_iconst (v := 0) dX1_takeFrom_57 (by decide) ?_
  refine gx_bipush (v := 6) dX1_takeFrom_58 (by decide) ?_
  refine gx_copy dX1_takeFrom_60 ml_X1_56 mw_copy rfl rfl rfl rfl rfl rfl (by decide) (by decide) (by decide) (by decide) (by decide) ?_
  show Z_Fe16_takeFrom_44 g Q 63 [(0, .ref 16), (1, .ref 44)] [] (va_up (gm_u (gm_u (gm_u (gm_u (gm_u (gm_u I 16 0 (I 44 0)) 16 1 (I 44 1)) 16 2 (I 44 2)) 16 3 (I 44 3)) 16 4 (I 44 4)) 16 5 (I 44 5)) 17 (va_cpy (I 45) (I 17) (Int32.toNatClampNeg 0) (Int32.toNatClampNeg 0) (Int32.toNatClampNeg 6))) L c
  refine gx_aload_n 1 dX1_takeFrom_63 rfl rfl ?_
  refine gx_getr 1 7 (v := 46) dX1_takeFrom_64 fl_X1_22 rfl rfl rfl ?_
  refine gx_iconst (v := 0) dX1_takeFrom_67 (by decide) ?_
  refine gx_aload_n 0 dX1_takeFrom_68 rfl rfl ?_
  refine gx_getr 1 7 (v := 18) dX1_takeFrom_69 fl_X1_22 rfl rfl rfl ?_
  refine gx_iconst (v := 0) dX1_takeFrom_72 (by decide) ?_
  refine gx_bipush (v := 6) dX1_takeFrom_73 (by decide) ?_
  refine gx_copy dX1_takeFrom_75 ml_X1_56 mw_copy rfl rfl rfl rfl rfl rfl (by decide) (by decide) (by decide) (by decide) (by decide) ?_
  show Z_Fe16_takeFrom_44 g Q 78 [(0, .ref 16), (1, .ref 44)] [] (va_up (va_up (gm_u (gm_u (gm_u (gm_u (gm_u (gm_u I 16 0 (I 44 0)) 16 1 (I 44 1)) 16 2 (I 44 2)) 16 3 (I 44 3)) 16 4 (I 44 4)) 16 5 (I 44 5)) 17 (va_cpy (I 45) (I 17) (Int32.toNatClampNeg 0) (Int32.toNatClampNeg 0) (Int32.toNatClampNeg 6))) 18 (va_cpy (I 46) (I 18) (Int32.toNatClampNeg 0) (Int32.toNatClampNeg 0) (Int32.toNatClampNeg 6))) L c
  refine gx_aload_n 1 dX1_takeFrom_78 rfl rfl ?_
  refine gx_getr 1 8 (v := 47) dX1_takeFrom_79 fl_X1_25 rfl rfl rfl ?_
  refine gx_iconst (v := 0) dX1_takeFrom_82 (by decide) ?_
  refine gx_aload_n 0 dX1_takeFrom_83 rfl rfl ?_
  refine gx_getr 1 8 (v := 19) dX1_takeFrom_84 fl_X1_25 rfl rfl rfl ?_
  refine gx_iconst (v := 0) dX1_takeFrom_87 (by decide) ?_
  refine gx_bipush (v := 6) dX1_takeFrom_88 (by decide) ?_
  refine gx_copy dX1_takeFrom_90 ml_X1_56 mw_copy rfl rfl rfl rfl rfl rfl (by decide) (by decide) (by decide) (by decide) (by decide) ?_
  show Z_Fe16_takeFrom_44 g Q 93 [(0, .ref 16), (1, .ref 44)] [] (va_up (va_up (va_up (gm_u (gm_u (gm_u (gm_u (gm_u (gm_u I 16 0 (I 44 0)) 16 1 (I 44 1)) 16 2 (I 44 2)) 16 3 (I 44 3)) 16 4 (I 44 4)) 16 5 (I 44 5)) 17 (va_cpy (I 45) (I 17) (Int32.toNatClampNeg 0) (Int32.toNatClampNeg 0) (Int32.toNatClampNeg 6))) 18 (va_cpy (I 46) (I 18) (Int32.toNatClampNeg 0) (Int32.toNatClampNeg 0) (Int32.toNatClampNeg 6))) 19 (va_cpy (I 47) (I 19) (Int32.toNatClampNeg 0) (Int32.toNatClampNeg 0) (Int32.toNatClampNeg 6))) L c
  refine gx_aload_n 0 dX1_takeFrom_93 rfl rfl ?_
  refine gx_aload_n 1 dX1_takeFrom_94 rfl rfl ?_
  refine gx_geti 1 9 (v := (I 44 9)) dX1_takeFrom_95 fl_X1_47 rfl rfl rfl ?_
  obtain ⟨hn, h⟩ := h
  refine gx_puti 1 9 dX1_takeFrom_98 fl_X1_47 rfl rfl rfl hn ?_
  show Z_Fe16_takeFrom_44 g Q 101 [(0, .ref 16), (1, .ref 44)] [] (gm_u (va_up (va_up (va_up (gm_u (gm_u (gm_u (gm_u (gm_u (gm_u I 16 0 (I 44 0)) 16 1 (I 44 1)) 16 2 (I 44 2)) 16 3 (I 44 3)) 16 4 (I 44 4)) 16 5 (I 44 5)) 17 (va_cpy (I 45) (I 17) (Int32.toNatClampNeg 0) (Int32.toNatClampNeg 0) (Int32.toNatClampNeg 6))) 18 (va_cpy (I 46) (I 18) (Int32.toNatClampNeg 0) (Int32.toNatClampNeg 0) (Int32.toNatClampNeg 6))) 19 (va_cpy (I 47) (I 19) (Int32.toNatClampNeg 0) (Int32.toNatClampNeg 0) (Int32.toNatClampNeg 6))) 16 9 (I 44 9)) L c
  refine gx_aload_n 0 dX1_takeFrom_101 rfl rfl ?_
  refine gx_aload_n 1 dX1_takeFrom_102 rfl rfl ?_
  refine gx_geti 1 10 (v := (I 44 10)) dX1_takeFrom_103 fl_X1_28 rfl rfl rfl ?_
  refine gx_puti 1 10 dX1_takeFrom_106 fl_X1_28 rfl rfl rfl ⟨rfl, rfl⟩ ?_
  show Z_Fe16_takeFrom_44 g Q 109 [(0, .ref 16), (1, .ref 44)] [] (gm_u (gm_u (va_up (va_up (va_up (gm_u (gm_u (gm_u (gm_u (gm_u (gm_u I 16 0 (I 44 0)) 16 1 (I 44 1)) 16 2 (I 44 2)) 16 3 (I 44 3)) 16 4 (I 44 4)) 16 5 (I 44 5)) 17 (va_cpy (I 45) (I 17) (Int32.toNatClampNeg 0) (Int32.toNatClampNeg 0) (Int32.toNatClampNeg 6))) 18 (va_cpy (I 46) (I 18) (Int32.toNatClampNeg 0) (Int32.toNatClampNeg 0) (Int32.toNatClampNeg 6))) 19 (va_cpy (I 47) (I 19) (Int32.toNatClampNeg 0) (Int32.toNatClampNeg 0) (Int32.toNatClampNeg 6))) 16 9 (I 44 9)) 16 10 (I 44 10)) L c
  refine gx_aload_n 0 dX1_takeFrom_109 rfl rfl ?_
  refine gx_aload_n 1 dX1_takeFrom_110 rfl rfl ?_
  refine gx_geti 1 11 (v := (I 44 11)) dX1_takeFrom_111 fl_X1_31 rfl rfl rfl ?_
  refine gx_puti 1 11 dX1_takeFrom_114 fl_X1_31 rfl rfl rfl ⟨rfl, rfl⟩ ?_
  show Z_Fe16_takeFrom_44 g Q 117 [(0, .ref 16), (1, .ref 44)] [] (gm_u (gm_u (gm_u (va_up (va_up (va_up (gm_u (gm_u (gm_u (gm_u (gm_u (gm_u I 16 0 (I 44 0)) 16 1 (I 44 1)) 16 2 (I 44 2)) 16 3 (I 44 3)) 16 4 (I 44 4)) 16 5 (I 44 5)) 17 (va_cpy (I 45) (I 17) (Int32.toNatClampNeg 0) (Int32.toNatClampNeg 0) (Int32.toNatClampNeg 6))) 18 (va_cpy (I 46) (I 18) (Int32.toNatClampNeg 0) (Int32.toNatClampNeg 0) (Int32.toNatClampNeg 6))) 19 (va_cpy (I 47) (I 19) (Int32.toNatClampNeg 0) (Int32.toNatClampNeg 0) (Int32.toNatClampNeg 6))) 16 9 (I 44 9)) 16 10 (I 44 10)) 16 11 (I 44 11)) L c
  refine gx_aload_n 0 dX1_takeFrom_117 rfl rfl ?_
  refine gx_aload_n 1 dX1_takeFrom_118 rfl rfl ?_
  refine gx_geti 1 12 (v := (I 44 12)) dX1_takeFrom_119 fl_X1_50 rfl rfl rfl ?_
  refine gx_puti 1 12 dX1_takeFrom_122 fl_X1_50 rfl rfl rfl ⟨rfl, rfl⟩ ?_
  show Z_Fe16_takeFrom_44 g Q 125 [(0, .ref 16), (1, .ref 44)] [] (gm_u (gm_u (gm_u (gm_u (va_up (va_up (va_up (gm_u (gm_u (gm_u (gm_u (gm_u (gm_u I 16 0 (I 44 0)) 16 1 (I 44 1)) 16 2 (I 44 2)) 16 3 (I 44 3)) 16 4 (I 44 4)) 16 5 (I 44 5)) 17 (va_cpy (I 45) (I 17) (Int32.toNatClampNeg 0) (Int32.toNatClampNeg 0) (Int32.toNatClampNeg 6))) 18 (va_cpy (I 46) (I 18) (Int32.toNatClampNeg 0) (Int32.toNatClampNeg 0) (Int32.toNatClampNeg 6))) 19 (va_cpy (I 47) (I 19) (Int32.toNatClampNeg 0) (Int32.toNatClampNeg 0) (Int32.toNatClampNeg 6))) 16 9 (I 44 9)) 16 10 (I 44 10)) 16 11 (I 44 11)) 16 12 (I 44 12)) L c
  refine gx_aload_n 0 dX1_takeFrom_125 rfl rfl ?_
  refine gx_aload_n 1 dX1_takeFrom_126 rfl rfl ?_
  refine gx_geti 1 13 (v := (I 44 13)) dX1_takeFrom_127 fl_X1_53 rfl rfl rfl ?_
  refine gx_puti 1 13 dX1_takeFrom_130 fl_X1_53 rfl rfl rfl ⟨rfl, rfl⟩ ?_
  show Z_Fe16_takeFrom_44 g Q 133 [(0, .ref 16), (1, .ref 44)] [] (gm_u (gm_u (gm_u (gm_u (gm_u (va_up (va_up (va_up (gm_u (gm_u (gm_u (gm_u (gm_u (gm_u I 16 0 (I 44 0)) 16 1 (I 44 1)) 16 2 (I 44 2)) 16 3 (I 44 3)) 16 4 (I 44 4)) 16 5 (I 44 5)) 17 (va_cpy (I 45) (I 17) (Int32.toNatClampNeg 0) (Int32.toNatClampNeg 0) (Int32.toNatClampNeg 6))) 18 (va_cpy (I 46) (I 18) (Int32.toNatClampNeg 0) (Int32.toNatClampNeg 0) (Int32.toNatClampNeg 6))) 19 (va_cpy (I 47) (I 19) (Int32.toNatClampNeg 0) (Int32.toNatClampNeg 0) (Int32.toNatClampNeg 6))) 16 9 (I 44 9)) 16 10 (I 44 10)) 16 11 (I 44 11)) 16 12 (I 44 12)) 16 13 (I 44 13)) L c
  exact gx_vret dX1_takeFrom_133 rfl rfl rfl ⟨_, _, _, rfl, rfl, h⟩
abbrev Z_Sh20_takeFrom_48 (g : gm_G) (Q : mI → mL → gm_cfg → Prop) (pc : Nat) (lv : List (Nat × Value)) (st : List Value) (I : mI) (L : mL) (c : gm_cfg) : Prop := gm_X g RX8 "takeFrom" cX8_takeFrom 2 none 1 0 0 (qV Q) 0 0 pc lv st (SH, I, L, RR c)
abbrev C_Sh20_takeFrom_48 (g : gm_G) (I : mI) (L : mL) (c : gm_cfg) (Q : mI → mL → gm_cfg → Prop) : Prop := gm_Met g yX8_takeFrom cX8_takeFrom 2 none 1 0 0 [.ref 20, .ref 48] (SH, I, L, RR c) (qV Q)
set_option maxRecDepth 100000 in
theorem e_Sh20_takeFrom_48 {g : gm_G} {Q : mI → mL → gm_cfg → Prop} {I : mI} {L : mL} {c : gm_cfg} (h : Q (gm_u (va_up (va_up I 21 (va_cpy (I 49) (I 21) (Int32.toNatClampNeg 0) (Int32.toNatClampNeg 0) (Int32.toNatClampNeg 40))) 22 (va_cpy (I 50) (I 22) (Int32.toNatClampNeg 0) (Int32.toNatClampNeg 0) (Int32.toNatClampNeg 40))) 20 2 (I 48 2)) L c) : C_Sh20_takeFrom_48 g  I L c Q := by
  refine gm_enter (lv := [(0, .ref 20), (1, .ref 48)]) (by decide) rfl rfl rfl rfl ?_
  show Z_Sh20_takeFrom_48 g Q 0 [(0, .ref 20), (1, .ref 48)] [] I L c
  refine gx_aload_n 1 dX8_takeFrom_0 rfl rfl ?_
  refine gx_getr 8 0 (v := 49) dX8_takeFrom_1 fl_X8_9 rfl rfl rfl ?_
  refine gx_iconst (v := 0) dX8_takeFrom_4 (by decide) ?_
  refine gx_aload_n 0 dX8_takeFrom_5 rfl rfl ?_
  refine gx_getr 8 0 (v := 21) dX8_takeFrom_6 fl_X8_9 rfl rfl rfl ?_
  refine gx_iconst (v := 0) dX8_takeFrom_9 (by decide) ?_
  refine gx_bipush (v := 40) dX8_takeFrom_10 (by decide) ?_
  refine gx_copy dX8_takeFrom_12 ml_X8_18 mw_copy rfl rfl rfl rfl rfl rfl (by decide) (by decide) (by decide) (by decide) (by decide) ?_
  show Z_Sh20_takeFrom_48 g Q 15 [(0, .ref 20), (1, .ref 48)] [] (va_up I 21 (va_cpy (I 49) (I 21) (Int32.toNatClampNeg 0) (Int32.toNatClampNeg 0) (Int32.toNatClampNeg 40))) L c
  refine gx_aload_n 1 dX8_takeFrom_15 rfl rfl ?_
  refine gx_getr 8 1 (v := 50) dX8_takeFrom_16 fl_X8_15 rfl rfl rfl ?_
  refine gx_iconst (v := 0) dX8_takeFrom_19 (by decide) ?_
  refine gx_aload_n 0 dX8_takeFrom_20 rfl rfl ?_
  refine gx_getr 8 1 (v := 22) dX8_takeFrom_21 fl_X8_15 rfl rfl rfl ?_
  refine gx_iconst (v := 0) dX8_takeFrom_24 (by decide) ?_
  refine gx_bipush (v := 40) dX8_takeFrom_25 (by decide) ?_
  refine gx_copy dX8_takeFrom_27 ml_X8_18 mw_copy rfl rfl rfl rfl rfl rfl (by decide) (by decide) (by decide) (by decide) (by decide) ?_
  show Z_Sh20_takeFrom_48 g Q 30 [(0, .ref 20), (1, .ref 48)] [] (va_up (va_up I 21 (va_cpy (I 49) (I 21) (Int32.toNatClampNeg 0) (Int32.toNatClampNeg 0) (Int32.toNatClampNeg 40))) 22 (va_cpy (I 50) (I 22) (Int32.toNatClampNeg 0) (Int32.toNatClampNeg 0) (Int32.toNatClampNeg 40))) L c
  refine gx_aload_n 0 dX8_takeFrom_30 rfl rfl ?_
  refine gx_aload_n 1 dX8_takeFrom_31 rfl rfl ?_
  refine gx_geti 8 2 (v := (I 48 2)) dX8_takeFrom_32 fl_X8_24 rfl rfl rfl ?_
  refine gx_puti 8 2 dX8_takeFrom_35 fl_X8_24 rfl rfl rfl ⟨rfl, rfl⟩ ?_
  show Z_Sh20_takeFrom_48 g Q 38 [(0, .ref 20), (1, .ref 48)] [] (gm_u (va_up (va_up I 21 (va_cpy (I 49) (I 21) (Int32.toNatClampNeg 0) (Int32.toNatClampNeg 0) (Int32.toNatClampNeg 40))) 22 (va_cpy (I 50) (I 22) (Int32.toNatClampNeg 0) (Int32.toNatClampNeg 0) (Int32.toNatClampNeg 40))) 20 2 (I 48 2)) L c
  exact gx_vret dX8_takeFrom_38 rfl rfl rfl ⟨_, _, _, rfl, rfl, h⟩
abbrev Z_Fe16_takeFrom_52 (g : gm_G) (Q : mI → mL → gm_cfg → Prop) (pc : Nat) (lv : List (Nat × Value)) (st : List Value) (I : mI) (L : mL) (c : gm_cfg) : Prop := gm_X g RX1 "takeFrom" cX1_takeFrom 2 none 1 0 0 (qV Q) 0 0 pc lv st (SH, I, L, RR c)
abbrev C_Fe16_takeFrom_52 (g : gm_G) (I : mI) (L : mL) (c : gm_cfg) (Q : mI → mL → gm_cfg → Prop) : Prop := gm_Met g yX1_takeFrom cX1_takeFrom 2 none 1 0 0 [.ref 16, .ref 52] (SH, I, L, RR c) (qV Q)
set_option maxRecDepth 100000 in
theorem e_Fe16_takeFrom_52 {g : gm_G} {Q : mI → mL → gm_cfg → Prop} {I : mI} {L : mL} {c : gm_cfg} (h : (gm_z (I 52 2) ∧ (gm_z (I 52 9) ∧ Q (gm_u (gm_u (gm_u (gm_u (gm_u (va_up (va_up (va_up (gm_u (gm_u (gm_u (gm_u (gm_u (gm_u I 16 0 (I 52 0)) 16 1 (I 52 1)) 16 2 (I 52 2)) 16 3 (I 52 3)) 16 4 (I 52 4)) 16 5 (I 52 5)) 17 (va_cpy (I 53) (I 17) (Int32.toNatClampNeg 0) (Int32.toNatClampNeg 0) (Int32.toNatClampNeg 6))) 18 (va_cpy (I 54) (I 18) (Int32.toNatClampNeg 0) (Int32.toNatClampNeg 0) (Int32.toNatClampNeg 6))) 19 (va_cpy (I 55) (I 19) (Int32.toNatClampNeg 0) (Int32.toNatClampNeg 0) (Int32.toNatClampNeg 6))) 16 9 (I 52 9)) 16 10 (I 52 10)) 16 11 (I 52 11)) 16 12 (I 52 12)) 16 13 (I 52 13)) L c))) : C_Fe16_takeFrom_52 g  I L c Q := by
  refine gm_enter (lv := [(0, .ref 16), (1, .ref 52)]) (by decide) rfl rfl rfl rfl ?_
  show Z_Fe16_takeFrom_52 g Q 0 [(0, .ref 16), (1, .ref 52)] [] I L c
  refine gx_aload_n 0 dX1_takeFrom_0 rfl rfl ?_
  refine gx_aload_n 1 dX1_takeFrom_1 rfl rfl ?_
  refine gx_geti 1 0 (v := (I 52 0)) dX1_takeFrom_2 fl_X1_9 rfl rfl rfl ?_
  refine gx_puti 1 0 dX1_takeFrom_5 fl_X1_9 rfl rfl rfl ⟨rfl, rfl⟩ ?_
  show Z_Fe16_takeFrom_52 g Q 8 [(0, .ref 16), (1, .ref 52)] [] (gm_u I 16 0 (I 52 0)) L c
  refine gx_aload_n 0 dX1_takeFrom_8 rfl rfl ?_
  refine gx_aload_n 1 dX1_takeFrom_9 rfl rfl ?_
  refine gx_geti 1 1 (v := (I 52 1)) dX1_takeFrom_10 fl_X1_15 rfl rfl rfl ?_
  refine gx_puti 1 1 dX1_takeFrom_13 fl_X1_15 rfl rfl rfl ⟨rfl, rfl⟩ ?_
  show Z_Fe16_takeFrom_52 g Q 16 [(0, .ref 16), (1, .ref 52)] [] (gm_u (gm_u I 16 0 (I 52 0)) 16 1 (I 52 1)) L c
  refine gx_aload_n 0 dX1_takeFrom_16 rfl rfl ?_
  refine gx_aload_n 1 dX1_takeFrom_17 rfl rfl ?_
  refine gx_geti 1 2 (v := (I 52 2)) dX1_takeFrom_18 fl_X1_34 rfl rfl rfl ?_
  obtain ⟨hn, h⟩ := h
  refine gx_puti 1 2 dX1_takeFrom_21 fl_X1_34 rfl rfl rfl hn ?_
  show Z_Fe16_takeFrom_52 g Q 24 [(0, .ref 16), (1, .ref 52)] [] (gm_u (gm_u (gm_u I 16 0 (I 52 0)) 16 1 (I 52 1)) 16 2 (I 52 2)) L c
  refine gx_aload_n 0 dX1_takeFrom_24 rfl rfl ?_
  refine gx_aload_n 1 dX1_takeFrom_25 rfl rfl ?_
  refine gx_geti 1 3 (v := (I 52 3)) dX1_takeFrom_26 fl_X1_38 rfl rfl rfl ?_
  refine gx_puti 1 3 dX1_takeFrom_29 fl_X1_38 rfl rfl rfl ⟨rfl, rfl⟩ ?_
  show Z_Fe16_takeFrom_52 g Q 32 [(0, .ref 16), (1, .ref 52)] [] (gm_u (gm_u (gm_u (gm_u I 16 0 (I 52 0)) 16 1 (I 52 1)) 16 2 (I 52 2)) 16 3 (I 52 3)) L c
  refine gx_aload_n 0 dX1_takeFrom_32 rfl rfl ?_
  refine gx_aload_n 1 dX1_takeFrom_33 rfl rfl ?_
  refine gx_geti 1 4 (v := (I 52 4)) dX1_takeFrom_34 fl_X1_41 rfl rfl rfl ?_
  refine gx_puti 1 4 dX1_takeFrom_37 fl_X1_41 rfl rfl rfl ⟨rfl, rfl⟩ ?_
  show Z_Fe16_takeFrom_52 g Q 40 [(0, .ref 16), (1, .ref 52)] [] (gm_u (gm_u (gm_u (gm_u (gm_u I 16 0 (I 52 0)) 16 1 (I 52 1)) 16 2 (I 52 2)) 16 3 (I 52 3)) 16 4 (I 52 4)) L c
  refine gx_aload_n 0 dX1_takeFrom_40 rfl rfl ?_
  refine gx_aload_n 1 dX1_takeFrom_41 rfl rfl ?_
  refine gx_geti 1 5 (v := (I 52 5)) dX1_takeFrom_42 fl_X1_44 rfl rfl rfl ?_
  refine gx_puti 1 5 dX1_takeFrom_45 fl_X1_44 rfl rfl rfl ⟨rfl, rfl⟩ ?_
  show Z_Fe16_takeFrom_52 g Q 48 [(0, .ref 16), (1, .ref 52)] [] (gm_u (gm_u (gm_u (gm_u (gm_u (gm_u I 16 0 (I 52 0)) 16 1 (I 52 1)) 16 2 (I 52 2)) 16 3 (I 52 3)) 16 4 (I 52 4)) 16 5 (I 52 5)) L c
  refine gx_aload_n 1 dX1_takeFrom_48 rfl rfl ?_
  refine gx_getr 1 6 (v := 53) dX1_takeFrom_49 fl_X1_18 rfl rfl rfl ?_
  refine gx_iconst (v := 0) dX1_takeFrom_52 (by decide) ?_
  refine gx_aload_n 0 dX1_takeFrom_53 rfl rfl ?_
  refine gx_getr 1 6 (v := 17) dX1_takeFrom_54 fl_X1_18 rfl rfl rfl ?_
  refine gx_iconst (v := 0) dX1_takeFrom_57 (by decide) ?_
  refine gx_bipush (v := 6) dX1_takeFrom_58 (by decide) ?_
  refine gx_copy dX1_takeFrom_60 ml_X1_56 mw_copy rfl rfl rfl rfl rfl rfl (by decide) (by decide) (by decide) (by decide) (by decide) ?_
  show Z_Fe16_takeFrom_52 g Q 63 [(0, .ref 16), (1, .ref 52)] [] (va_up (gm_u (gm_u (gm_u (gm_u (gm_u (gm_u I 16 0 (I 52 0)) 16 1 (I 52 1)) 16 2 (I 52 2)) 16 3 (I 52 3)) 16 4 (I 52 4)) 16 5 (I 52 5)) 17 (va_cpy (I 53) (I 17) (Int32.toNatClampNeg 0) (Int32.toNatClampNeg 0) (Int32.toNatClampNeg 6))) L c
  refine gx_aload_n 1 dX1_takeFrom_63 rfl rfl ?_
  refine gx_getr 1 7 (v := 54) dX1_takeFrom_64 fl_X1_22 rfl rfl rfl ?_
  refine gx_iconst (v := 0) dX1_takeFrom_67 (by decide) ?_
  refine gx_aload_n 0 dX1_takeFrom_68 rfl rfl ?_
  refine gx_getr 1 7 (v := 18) dX1_takeFrom_69 fl_X1_22 rfl rfl rfl ?_
  refine gx_iconst (v := 0) dX1_takeFrom_72 (by decide) ?_
  refine gx_bipush (v := 6) dX1_takeFrom_73 (by decide) ?_
  refine gx_copy dX1_takeFrom_75 ml_X1_56 mw_copy rfl rfl rfl rfl rfl rfl (by decide) (by decide) (by decide) (by decide) (by decide) ?_
  show Z_Fe16_takeFrom_52 g Q 78 [(0, .ref 16), (1, .ref 52)] [] (va_up (va_up (gm_u (gm_u (gm_u (gm_u (gm_u (gm_u I 16 0 (I 52 0)) 16 1 (I 52 1)) 16 2 (I 52 2)) 16 3 (I 52 3)) 16 4 (I 52 4)) 16 5 (I 52 5)) 17 (va_cpy (I 53) (I 17) (Int32.toNatClampNeg 0) (Int32.toNatClampNeg 0) (Int32.toNatClampNeg 6))) 18 (va_cpy (I 54) (I 18) (Int32.toNatClampNeg 0) (Int32.toNatClampNeg 0) (Int32.toNatClampNeg 6))) L c
  refine gx_aload_n 1 dX1_takeFrom_78 rfl rfl ?_
  refine gx_getr 1 8 (v := 55) dX1_takeFrom_79 fl_X1_25 rfl rfl rfl ?_
  refine gx_iconst (v := 0) dX1_takeFrom_82 (by decide) ?_
  refine gx_aload_n 0 dX1_takeFrom_83 rfl rfl ?_
  refine gx_getr 1 8 (v := 19) dX1_takeFrom_84 fl_X1_25 rfl rfl rfl ?_
  refine gx_iconst (v := 0) dX1_takeFrom_87 (by decide) ?_
  refine gx_bipush (v := 6) dX1_takeFrom_88 (by decide) ?_
  refine gx_copy dX1_takeFrom_90 ml_X1_56 mw_copy rfl rfl rfl rfl rfl rfl (by decide) (by decide) (by decide) (by decide) (by decide) ?_
  show Z_Fe16_takeFrom_52 g Q 93 [(0, .ref 16), (1, .ref 52)] [] (va_up (va_up (va_up (gm_u (gm_u (gm_u (gm_u (gm_u (gm_u I 16 0 (I 52 0)) 16 1 (I 52 1)) 16 2 (I 52 2)) 16 3 (I 52 3)) 16 4 (I 52 4)) 16 5 (I 52 5)) 17 (va_cpy (I 53) (I 17) (Int32.toNatClampNeg 0) (Int32.toNatClampNeg 0) (Int32.toNatClampNeg 6))) 18 (va_cpy (I 54) (I 18) (Int32.toNatClampNeg 0) (Int32.toNatClampNeg 0) (Int32.toNatClampNeg 6))) 19 (va_cpy (I 55) (I 19) (Int32.toNatClampNeg 0) (Int32.toNatClampNeg 0) (Int32.toNatClampNeg 6))) L c
  refine gx_aload_n 0 dX1_takeFrom_93 rfl rfl ?_
  refine gx_aload_n 1 dX1_takeFrom_94 rfl rfl ?_
  refine gx_geti 1 9 (v := (I 52 9)) dX1_takeFrom_95 fl_X1_47 rfl rfl rfl ?_
  obtain ⟨hn, h⟩ := h
  refine gx_puti 1 9 dX1_takeFrom_98 fl_X1_47 rfl rfl rfl hn ?_
  show Z_Fe16_takeFrom_52 g Q 101 [(0, .ref 16), (1, .ref 52)] [] (gm_u (va_up (va_up (va_up (gm_u (gm_u (gm_u (gm_u (gm_u (gm_u I 16 0 (I 52 0)) 16 1 (I 52 1)) 16 2 (I 52 2)) 16 3 (I 52 3)) 16 4 (I 52 4)) 16 5 (I 52 5)) 17 (va_cpy (I 53) (I 17) (Int32.toNatClampNeg 0) (Int32.toNatClampNeg 0) (Int32.toNatClampNeg 6))) 18 (va_cpy (I 54) (I 18) (Int32.toNatClampNeg 0) (Int32.toNatClampNeg 0) (Int32.toNatClampNeg 6))) 19 (va_cpy (I 55) (I 19) (Int32.toNatClampNeg 0) (Int32.toNatClampNeg 0) (Int32.toNatClampNeg 6))) 16 9 (I 52 9)) L c
  refine gx_aload_n 0 dX1_takeFrom_101 rfl rfl ?_
  refine gx_aload_n 1 dX1_takeFrom_102 rfl rfl ?_
  refine gx_geti 1 10 (v := (I 52 10)) dX1_takeFrom_103 fl_X1_28 rfl rfl rfl ?_
  refine gx_puti 1 10 dX1_takeFrom_106 fl_X1_28 rfl rfl rfl ⟨rfl, rfl⟩ ?_
  show Z_Fe16_takeFrom_52 g Q 109 [(0, .ref 16), (1, .ref 52)] [] (gm_u (gm_u (va_up (va_up (va_up (gm_u (gm_u (gm_u (gm_u (gm_u (gm_u I 16 0 (I 52 0)) 16 1 (I 52 1)) 16 2 (I 52 2)) 16 3 (I 52 3)) 16 4 (I 52 4)) 16 5 (I 52 5)) 17 (va_cpy (I 53) (I 17) (Int32.toNatClampNeg 0) (Int32.toNatClampNeg 0) (Int32.toNatClampNeg 6))) 18 (va_cpy (I 54) (I 18) (Int32.toNatClampNeg 0) (Int32.toNatClampNeg 0) (Int32.toNatClampNeg 6))) 19 (va_cpy (I 55) (I 19) (Int32.toNatClampNeg 0) (Int32.toNatClampNeg 0) (Int32.toNatClampNeg 6))) 16 9 (I 52 9)) 16 10 (I 52 10)) L c
  refine gx_aload_n 0 dX1_takeFrom_109 rfl rfl ?_
  refine gx_aload_n 1 dX1_takeFrom_110 rfl rfl ?_
  refine gx_geti 1 11 (v := (I 52 11)) dX1_takeFrom_111 fl_X1_31 rfl rfl rfl ?_
  refine gx_puti 1 11 dX1_takeFrom_114 fl_X1_31 rfl rfl rfl ⟨rfl, rfl⟩ ?_
  show Z_Fe16_takeFrom_52 g Q 117 [(0, .ref 16), (1, .ref 52)] [] (gm_u (gm_u (gm_u (va_up (va_up (va_up (gm_u (gm_u (gm_u (gm_u (gm_u (gm_u I 16 0 (I 52 0)) 16 1 (I 52 1)) 16 2 (I 52 2)) 16 3 (I 52 3)) 16 4 (I 52 4)) 16 5 (I 52 5)) 17 (va_cpy (I 53) (I 17) (Int32.toNatClampNeg 0) (Int32.toNatClampNeg 0) (Int32.toNatClampNeg 6))) 18 (va_cpy (I 54) (I 18) (Int32.toNatClampNeg 0) (Int32.toNatClampNeg 0) (Int32.toNatClampNeg 6))) 19 (va_cpy (I 55) (I 19) (Int32.toNatClampNeg 0) (Int32.toNatClampNeg 0) (Int32.toNatClampNeg 6))) 16 9 (I 52 9)) 16 10 (I 52 10)) 16 11 (I 52 11)) L c
  refine gx_aload_n 0 dX1_takeFrom_117 rfl rfl ?_
  refine gx_aload_n 1 dX1_takeFrom_118 rfl rfl ?_
  refine gx_geti 1 12 (v := (I 52 12)) dX1_takeFrom_119 fl_X1_50 rfl rfl rfl ?_
  refine gx_puti 1 12 dX1_takeFrom_122 fl_X1_50 rfl rfl rfl ⟨rfl, rfl⟩ ?_
  show Z_Fe16_takeFrom_52 g Q 125 [(0, .ref 16), (1, .ref 52)] [] (gm_u (gm_u (gm_u (gm_u (va_up (va_up (va_up (gm_u (gm_u (gm_u (gm_u (gm_u (gm_u I 16 0 (I 52 0)) 16 1 (I 52 1)) 16 2 (I 52 2)) 16 3 (I 52 3)) 16 4 (I 52 4)) 16 5 (I 52 5)) 17 (va_cpy (I 53) (I 17) (Int32.toNatClampNeg 0) (Int32.toNatClampNeg 0) (Int32.toNatClampNeg 6))) 18 (va_cpy (I 54) (I 18) (Int32.toNatClampNeg 0) (Int32.toNatClampNeg 0) (Int32.toNatClampNeg 6))) 19 (va_cpy (I 55) (I 19) (Int32.toNatClampNeg 0) (Int32.toNatClampNeg 0) (Int32.toNatClampNeg 6))) 16 9 (I 52 9)) 16 10 (I 52 10)) 16 11 (I 52 11)) 16 12 (I 52 12)) L c
  refine gx_aload_n 0 dX1_takeFrom_125 rfl rfl ?_
  refine gx_aload_n 1 dX1_takeFrom_126 rfl rfl ?_
  refine gx_geti 1 13 (v := (I 52 13)) dX1_takeFrom_127 fl_X1_53 rfl rfl rfl ?_
  refine gx_puti 1 13 dX1_takeFrom_130 fl_X1_53 rfl rfl rfl ⟨rfl, rfl⟩ ?_
  show Z_Fe16_takeFrom_52 g Q 133 [(0, .ref 16), (1, .ref 52)] [] (gm_u (gm_u (gm_u (gm_u (gm_u (va_up (va_up (va_up (gm_u (gm_u (gm_u (gm_u (gm_u (gm_u I 16 0 (I 52 0)) 16 1 (I 52 1)) 16 2 (I 52 2)) 16 3 (I 52 3)) 16 4 (I 52 4)) 16 5 (I 52 5)) 17 (va_cpy (I 53) (I 17) (Int32.toNatClampNeg 0) (Int32.toNatClampNeg 0) (Int32.toNatClampNeg 6))) 18 (va_cpy (I 54) (I 18) (Int32.toNatClampNeg 0) (Int32.toNatClampNeg 0) (Int32.toNatClampNeg 6))) 19 (va_cpy (I 55) (I 19) (Int32.toNatClampNeg 0) (Int32.toNatClampNeg 0) (Int32.toNatClampNeg 6))) 16 9 (I 52 9)) 16 10 (I 52 10)) 16 11 (I 52 11)) 16 12 (I 52 12)) 16 13 (I 52 13)) L c
  exact gx_vret dX1_takeFrom_133 rfl rfl rfl ⟨_, _, _, rfl, rfl, h⟩
abbrev Z_Sh20_takeFrom_56 (g : gm_G) (Q : mI → mL → gm_cfg → Prop) (pc : Nat) (lv : List (Nat × Value)) (st : List Value) (I : mI) (L : mL) (c : gm_cfg) : Prop := gm_X g RX8 "takeFrom" cX8_takeFrom 2 none 1 0 0 (qV Q) 0 0 pc lv st (SH, I, L, RR c)
abbrev C_Sh20_takeFrom_56 (g : gm_G) (I : mI) (L : mL) (c : gm_cfg) (Q : mI → mL → gm_cfg → Prop) : Prop := gm_Met g yX8_takeFrom cX8_takeFrom 2 none 1 0 0 [.ref 20, .ref 56] (SH, I, L, RR c) (qV Q)
set_option maxRecDepth 100000 in
theorem e_Sh20_takeFrom_56 {g : gm_G} {Q : mI → mL → gm_cfg → Prop} {I : mI} {L : mL} {c : gm_cfg} (h : Q (gm_u (va_up (va_up I 21 (va_cpy (I 57) (I 21) (Int32.toNatClampNeg 0) (Int32.toNatClampNeg 0) (Int32.toNatClampNeg 40))) 22 (va_cpy (I 58) (I 22) (Int32.toNatClampNeg 0) (Int32.toNatClampNeg 0) (Int32.toNatClampNeg 40))) 20 2 (I 56 2)) L c) : C_Sh20_takeFrom_56 g  I L c Q := by
  refine gm_enter (lv := [(0, .ref 20), (1, .ref 56)]) (by decide) rfl rfl rfl rfl ?_
  show Z_Sh20_takeFrom_56 g Q 0 [(0, .ref 20), (1, .ref 56)] [] I L c
  refine gx_aload_n 1 dX8_takeFrom_0 rfl rfl ?_
  refine gx_getr 8 0 (v := 57) dX8_takeFrom_1 fl_X8_9 rfl rfl rfl ?_
  refine gx_iconst (v := 0) dX8_takeFrom_4 (by decide) ?_
  refine gx_aload_n 0 dX8_takeFrom_5 rfl rfl ?_
  refine gx_getr 8 0 (v := 21) dX8_takeFrom_6 fl_X8_9 rfl rfl rfl ?_
  refine gx_iconst (v := 0) dX8_takeFrom_9 (by decide) ?_
  refine gx_bipush (v := 40) dX8_takeFrom_10 (by decide) ?_
  refine gx_copy dX8_takeFrom_12 ml_X8_18 mw_copy rfl rfl rfl rfl rfl rfl (by decide) (by decide) (by decide) (by decide) (by decide) ?_
  show Z_Sh20_takeFrom_56 g Q 15 [(0, .ref 20), (1, .ref 56)] [] (va_up I 21 (va_cpy (I 57) (I 21) (Int32.toNatClampNeg 0) (Int32.toNatClampNeg 0) (Int32.toNatClampNeg 40))) L c
  refine gx_aload_n 1 dX8_takeFrom_15 rfl rfl ?_
  refine gx_getr 8 1 (v := 58) dX8_takeFrom_16 fl_X8_15 rfl rfl rfl ?_
  refine gx_iconst (v := 0) dX8_takeFrom_19 (by decide) ?_
  refine gx_aload_n 0 dX8_takeFrom_20 rfl rfl ?_
  refine gx_getr 8 1 (v := 22) dX8_takeFrom_21 fl_X8_15 rfl rfl rfl ?_
  refine gx_iconst (v := 0) dX8_takeFrom_24 (by decide) ?_
  refine gx_bipush (v := 40) dX8_takeFrom_25 (by decide) ?_
  refine gx_copy dX8_takeFrom_27 ml_X8_18 mw_copy rfl rfl rfl rfl rfl rfl (by decide) (by decide) (by decide) (by decide) (by decide) ?_
  show Z_Sh20_takeFrom_56 g Q 30 [(0, .ref 20), (1, .ref 56)] [] (va_up (va_up I 21 (va_cpy (I 57) (I 21) (Int32.toNatClampNeg 0) (Int32.toNatClampNeg 0) (Int32.toNatClampNeg 40))) 22 (va_cpy (I 58) (I 22) (Int32.toNatClampNeg 0) (Int32.toNatClampNeg 0) (Int32.toNatClampNeg 40))) L c
  refine gx_aload_n 0 dX8_takeFrom_30 rfl rfl ?_
  refine gx_aload_n 1 dX8_takeFrom_31 rfl rfl ?_
  refine gx_geti 8 2 (v := (I 56 2)) dX8_takeFrom_32 fl_X8_24 rfl rfl rfl ?_
  refine gx_puti 8 2 dX8_takeFrom_35 fl_X8_24 rfl rfl rfl ⟨rfl, rfl⟩ ?_
  show Z_Sh20_takeFrom_56 g Q 38 [(0, .ref 20), (1, .ref 56)] [] (gm_u (va_up (va_up I 21 (va_cpy (I 57) (I 21) (Int32.toNatClampNeg 0) (Int32.toNatClampNeg 0) (Int32.toNatClampNeg 40))) 22 (va_cpy (I 58) (I 22) (Int32.toNatClampNeg 0) (Int32.toNatClampNeg 0) (Int32.toNatClampNeg 40))) 20 2 (I 56 2)) L c
  exact gx_vret dX8_takeFrom_38 rfl rfl rfl ⟨_, _, _, rfl, rfl, h⟩
abbrev Z_Sh20_unlike (g : gm_G) (Q : Int32 → mI → mL → gm_cfg → Prop) (pc : Nat) (lv : List (Nat × Value)) (st : List Value) (I : mI) (L : mL) (c : gm_cfg) : Prop := gm_X g RX8 "unlike" cX8_unlike 3 (some .int) 2 0 0 (qI Q) 0 0 pc lv st (SH, I, L, RR c)
abbrev C_Sh20_unlike (g : gm_G) (I : mI) (L : mL) (c : gm_cfg) (Q : Int32 → mI → mL → gm_cfg → Prop) : Prop := gm_Met g yX8_unlike cX8_unlike 3 (some .int) 2 0 0 [.ref 20] (SH, I, L, RR c) (qI Q)
set_option maxRecDepth 100000 in
theorem e_Sh20_unlike {g : gm_G} {Q : Int32 → mI → mL → gm_cfg → Prop} {I : mI} {L : mL} {c : gm_cfg} (h : Z_Sh20_unlike g Q 4 [(0, .ref 20), (1, .int 0), (2, .int 0)] [] I L c) : C_Sh20_unlike g  I L c Q := by
  refine gm_enter (lv := [(0, .ref 20)]) (by decide) rfl rfl rfl rfl ?_
  show Z_Sh20_unlike g Q 0 [(0, .ref 20)] [] I L c
  refine gx_iconst (v := 0) dX8_unlike_0 (by decide) ?_
  refine gx_istore_n (lv' := [(0, .ref 20), (1, .int 0)]) dX8_unlike_1 rfl rfl rfl ?_
  refine gx_iconst (v := 0) dX8_unlike_2 (by decide) ?_
  refine gx_istore_n (lv' := [(0, .ref 20), (1, .int 0), (2, .int 0)]) dX8_unlike_3 rfl rfl rfl ?_
  exact h
set_option maxRecDepth 100000 in
theorem r_Sh20_unlike_4 {g : gm_G} {Q : Int32 → mI → mL → gm_cfg → Prop} {x1 x2 : Int32} {I : mI} {L : mL} {c : gm_cfg} (h : (((I 20 2) ≤ x2 → Q x1 I L c) ∧ (¬ (I 20 2) ≤ x2 → (vp_in x2 40 ∧ (C_Sh20_firstOf g (I 21 (Int32.toNatClampNeg x2)) I L c (fun r4 I1 L2 c3 => ((r4 = x2 → Z_Sh20_unlike g Q 4 [(0, .ref 20), (1, .int (x1 + 1)), (2, .int (x2 + 1))] [] I1 L2 c3) ∧ (¬ r4 = x2 → Z_Sh20_unlike g Q 4 [(0, .ref 20), (1, .int x1), (2, .int (x2 + 1))] [] I1 L2 c3)))))))) : Z_Sh20_unlike g Q 4 [(0, .ref 20), (1, .int x1), (2, .int x2)] [] I L c := by
  refine gx_iload_n 2 dX8_unlike_4 rfl rfl ?_
  refine gx_aload_n 0 dX8_unlike_5 rfl rfl ?_
  refine gx_geti 8 2 (v := (I 20 2)) dX8_unlike_6 fl_X8_24 rfl rfl rfl ?_
  refine gx_icmp_ge 35 dX8_unlike_9 (by decide) ⟨fun z => ?_, fun z => ?_⟩
  · replace h := h.1 z
    refine gx_iload_n 1 dX8_unlike_35 rfl rfl ?_
    exact gx_iret dX8_unlike_36 rfl rfl rfl ⟨_, _, _, _, rfl, rfl, h⟩
  · replace h := h.2 z
    refine gx_aload_n 0 dX8_unlike_12 rfl rfl ?_
    refine gx_aload_n 0 dX8_unlike_13 rfl rfl ?_
    refine gx_getr 8 0 (v := 21) dX8_unlike_14 fl_X8_9 rfl rfl rfl ?_
    refine gx_iload_n 2 dX8_unlike_17 rfl rfl ?_
    obtain ⟨hi, h⟩ := h
    refine gx_iald (v := (I 21 (Int32.toNatClampNeg x2))) dX8_unlike_18 rfl rfl hi (k := (Int32.toNatClampNeg x2)) rfl rfl ?_
    refine gx_callV 8 (As := [.int (I 21 (Int32.toNatClampNeg x2))]) (st := []) dX8_unlike_19 ml_X8_44 mm_X8_firstOf rfl rfl rfl rfl rfl rfl ⟨rfl, rfl⟩ h (fun v h2 hq => ?_)
    clear h
    obtain ⟨r4, I1, L2, c3, rfl, rfl, h⟩ := hq
    show Z_Sh20_unlike g Q 22 [(0, .ref 20), (1, .int x1), (2, .int x2)] [.int r4] I1 L2 c3
    refine gx_iload_n 2 dX8_unlike_22 rfl rfl ?_
    refine gx_icmp_ne 29 dX8_unlike_23 (by decide) ⟨fun z => ?_, fun z => ?_⟩
    · replace h := h.1 z
      refine gx_iinc (v := (x1 + 1)) (lv' := [(0, .ref 20), (1, .int (x1 + 1)), (2, .int x2)]) 1 dX8_unlike_26 rfl rfl rfl rfl ?_
      refine gx_iinc (v := (x2 + 1)) (lv' := [(0, .ref 20), (1, .int (x1 + 1)), (2, .int (x2 + 1))]) 2 dX8_unlike_29 rfl rfl rfl rfl ?_
      refine gx_goto 4 dX8_unlike_32 (by decide) ?_
      exact h
    · replace h := h.2 z
      refine gx_iinc (v := (x2 + 1)) (lv' := [(0, .ref 20), (1, .int x1), (2, .int (x2 + 1))]) 2 dX8_unlike_29 rfl rfl rfl rfl ?_
      refine gx_goto 4 dX8_unlike_32 (by decide) ?_
      exact h
