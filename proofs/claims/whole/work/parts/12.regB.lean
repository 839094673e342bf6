abbrev Z_Rd_byteAt (g : gm_G) (Q : Int32 → mI → mL → gm_cfg → Prop) (pc : Nat) (lv : List (Nat × Value)) (st : List Value) (I : mI) (L : mL) (c : gm_cfg) : Prop := gm_X g RX5 "byteAt" cX5_byteAt 2 (some .int) 1 0 0 (qI Q) 0 0 pc lv st (SH, I, L, RR c)
abbrev C_Rd_byteAt (g : gm_G) (x1 : Int32) (I : mI) (L : mL) (c : gm_cfg) (Q : Int32 → mI → mL → gm_cfg → Prop) : Prop := gm_Met g yX5_byteAt cX5_byteAt 2 (some .int) 1 0 0 [.ref 6, .int x1] (SH, I, L, RR c) (qI Q)
set_option maxRecDepth 100000 in
theorem e_Rd_byteAt {g : gm_G} {Q : Int32 → mI → mL → gm_cfg → Prop} {x1 : Int32} {I : mI} {L : mL} {w a : Option Nat} (h : ((x1 < 0 → Q 0 I L (w, a, (some 1))) ∧ (¬ x1 < 0 → ((700 ≤ x1 → Q 0 I L (w, a, (some 1))) ∧ (¬ 700 ≤ x1 → (vp_in x1 700 ∧ Q (I 1 (Int32.toNatClampNeg x1)) I L (w, a, (some 1)))))))) : C_Rd_byteAt g x1 I L (w, a, (some 1)) Q := by
  refine gm_enter (lv := [(0, .ref 6), (1, .int x1)]) (by decide) rfl rfl rfl rfl ?_
  show Z_Rd_byteAt g Q 0 [(0, .ref 6), (1, .int x1)] [] I L (w, a, (some 1))
  refine gx_aload_n 0 dX5_byteAt_0 rfl rfl ?_
  refine gx_getr 5 2 (v := 1) dX5_byteAt_1 fl_X5_15 rfl rfl rfl ?_
  refine gx_ifnull dX5_byteAt_4 ?_
  refine gx_iload_n 1 dX5_byteAt_7 rfl rfl ?_
  refine gx_if_lt 29 dX5_byteAt_8 (by decide) ⟨fun z => ?_, fun z => ?_⟩
  · replace h := h.1 z
    refine gx_iconst (v := 0) dX5_byteAt_29 (by decide) ?_
    exact gx_iret dX5_byteAt_30 rfl rfl rfl ⟨_, _, _, _, rfl, rfl, h⟩
  · replace h := h.2 z
    refine gx_iload_n 1 dX5_byteAt_11 rfl rfl ?_
    refine gx_aload_n 0 dX5_byteAt_12 rfl rfl ?_
    refine gx_getr 5 2 (v := 1) dX5_byteAt_13 fl_X5_15 rfl rfl rfl ?_
    refine gx_alen (v := 700) dX5_byteAt_16 rfl rfl rfl rfl ?_
    refine gx_icmp_ge 29 dX5_byteAt_17 (by decide) ⟨fun z => ?_, fun z => ?_⟩
    · replace h := h.1 z
      refine gx_iconst (v := 0) dX5_byteAt_29 (by decide) ?_
      exact gx_iret dX5_byteAt_30 rfl rfl rfl ⟨_, _, _, _, rfl, rfl, h⟩
    · replace h := h.2 z
      refine gx_aload_n 0 dX5_byteAt_20 rfl rfl ?_
      refine gx_getr 5 2 (v := 1) dX5_byteAt_21 fl_X5_15 rfl rfl rfl ?_
      refine gx_iload_n 1 dX5_byteAt_24 rfl rfl ?_
      obtain ⟨hi, h⟩ := h
      refine gx_bald (v := (I 1 (Int32.toNatClampNeg x1))) dX5_byteAt_25 rfl rfl hi (k := (Int32.toNatClampNeg x1)) rfl rfl ?_
      refine gx_goto 30 dX5_byteAt_26 (by decide) ?_
      exact gx_iret dX5_byteAt_30 rfl rfl rfl ⟨_, _, _, _, rfl, rfl, h⟩
abbrev Z_Rd_isLetter (g : gm_G) (Q : Bool → mI → mL → gm_cfg → Prop) (pc : Nat) (lv : List (Nat × Value)) (st : List Value) (I : mI) (L : mL) (c : gm_cfg) : Prop := gm_X g RX5 "isLetter" cX5_isLetter 1 (some .boolean) 1 0 0 (qZ Q) 0 0 pc lv st (SH, I, L, RR c)
abbrev C_Rd_isLetter (g : gm_G) (x0 : Int32) (I : mI) (L : mL) (c : gm_cfg) (Q : Bool → mI → mL → gm_cfg → Prop) : Prop := gm_Met g yX5_isLetter cX5_isLetter 1 (some .boolean) 1 0 0 [.int x0] (SH, I, L, RR c) (qZ Q)
set_option maxRecDepth 100000 in
theorem e_Rd_isLetter {g : gm_G} {Q : Bool → mI → mL → gm_cfg → Prop} {x0 : Int32} {I : mI} {L : mL} {w a : Option Nat} (h : ((x0 < 97 → Q false I L (w, a, (some 1))) ∧ (¬ x0 < 97 → ((122 < x0 → Q false I L (w, a, (some 1))) ∧ (¬ 122 < x0 → Q true I L (w, a, (some 1))))))) : C_Rd_isLetter g x0 I L (w, a, (some 1)) Q := by
  refine gm_enter (lv := [(0, .int x0)]) (by decide) rfl rfl rfl rfl ?_
  show Z_Rd_isLetter g Q 0 [(0, .int x0)] [] I L (w, a, (some 1))
  refine gx_iload_n 0 dX5_isLetter_0 rfl rfl ?_
  refine gx_bipush (v := 97) dX5_isLetter_1 (by decide) ?_
  refine gx_icmp_lt 16 dX5_isLetter_3 (by decide) ⟨fun z => ?_, fun z => ?_⟩
  · replace h := h.1 z
    refine gx_iconst (v := 0) dX5_isLetter_16 (by decide) ?_
    exact gx_zret .boolean dX5_isLetter_17 rfl rfl rfl rfl ⟨false, _, _, _, rfl, rfl, h⟩
  · replace h := h.2 z
    refine gx_iload_n 0 dX5_isLetter_6 rfl rfl ?_
    refine gx_bipush (v := 122) dX5_isLetter_7 (by decide) ?_
    refine gx_icmp_gt 16 dX5_isLetter_9 (by decide) ⟨fun z => ?_, fun z => ?_⟩
    · replace h := h.1 z
      refine gx_iconst (v := 0) dX5_isLetter_16 (by decide) ?_
      exact gx_zret .boolean dX5_isLetter_17 rfl rfl rfl rfl ⟨false, _, _, _, rfl, rfl, h⟩
    · replace h := h.2 z
      refine gx_iconst (v := 1) dX5_isLetter_12 (by decide) ?_
      refine gx_goto 17 dX5_isLetter_13 (by decide) ?_
      exact gx_zret .boolean dX5_isLetter_17 rfl rfl rfl rfl ⟨true, _, _, _, rfl, rfl, h⟩
abbrev Z_Rd_isDigit (g : gm_G) (Q : Bool → mI → mL → gm_cfg → Prop) (pc : Nat) (lv : List (Nat × Value)) (st : List Value) (I : mI) (L : mL) (c : gm_cfg) : Prop := gm_X g RX5 "isDigit" cX5_isDigit 1 (some .boolean) 1 0 0 (qZ Q) 0 0 pc lv st (SH, I, L, RR c)
abbrev C_Rd_isDigit (g : gm_G) (x0 : Int32) (I : mI) (L : mL) (c : gm_cfg) (Q : Bool → mI → mL → gm_cfg → Prop) : Prop := gm_Met g yX5_isDigit cX5_isDigit 1 (some .boolean) 1 0 0 [.int x0] (SH, I, L, RR c) (qZ Q)
set_option maxRecDepth 100000 in
theorem e_Rd_isDigit {g : gm_G} {Q : Bool → mI → mL → gm_cfg → Prop} {x0 : Int32} {I : mI} {L : mL} {w a : Option Nat} (h : ((x0 < 48 → Q false I L (w, a, (some 1))) ∧ (¬ x0 < 48 → ((57 < x0 → Q false I L (w, a, (some 1))) ∧ (¬ 57 < x0 → Q true I L (w, a, (some 1))))))) : C_Rd_isDigit g x0 I L (w, a, (some 1)) Q := by
  refine gm_enter (lv := [(0, .int x0)]) (by decide) rfl rfl rfl rfl ?_
  show Z_Rd_isDigit g Q 0 [(0, .int x0)] [] I L (w, a, (some 1))
  refine gx_iload_n 0 dX5_isDigit_0 rfl rfl ?_
  refine gx_bipush (v := 48) dX5_isDigit_1 (by decide) ?_
  refine gx_icmp_lt 16 dX5_isDigit_3 (by decide) ⟨fun z => ?_, fun z => ?_⟩
  · replace h := h.1 z
    refine gx_iconst (v := 0) dX5_isDigit_16 (by decide) ?_
    exact gx_zret .boolean dX5_isDigit_17 rfl rfl rfl rfl ⟨false, _, _, _, rfl, rfl, h⟩
  · replace h := h.2 z
    refine gx_iload_n 0 dX5_isDigit_6 rfl rfl ?_
    refine gx_bipush (v := 57) dX5_isDigit_7 (by decide) ?_
    refine gx_icmp_gt 16 dX5_isDigit_9 (by decide) ⟨fun z => ?_, fun z => ?_⟩
    · replace h := h.1 z
      refine gx_iconst (v := 0) dX5_isDigit_16 (by decide) ?_
      exact gx_zret .boolean dX5_isDigit_17 rfl rfl rfl rfl ⟨false, _, _, _, rfl, rfl, h⟩
    · replace h := h.2 z
      refine gx_iconst (v := 1) dX5_isDigit_12 (by decide) ?_
      refine gx_goto 17 dX5_isDigit_13 (by decide) ?_
      exact gx_zret .boolean dX5_isDigit_17 rfl rfl rfl rfl ⟨true, _, _, _, rfl, rfl, h⟩
abbrev Z_Rd_next (g : gm_G) (Q : mI → mL → gm_cfg → Prop) (pc : Nat) (lv : List (Nat × Value)) (st : List Value) (I : mI) (L : mL) (c : gm_cfg) : Prop := gm_X g RX5 "next" cX5_next 2 none 2 0 0 (qV Q) 0 0 pc lv st (SH, I, L, RR c)
abbrev C_Rd_next (g : gm_G) (I : mI) (L : mL) (c : gm_cfg) (Q : mI → mL → gm_cfg → Prop) : Prop := gm_Met g yX5_next cX5_next 2 none 2 0 0 [.ref 6] (SH, I, L, RR c) (qV Q)
set_option maxRecDepth 100000 in
theorem e_Rd_next {g : gm_G} {Q : mI → mL → gm_cfg → Prop} {I : mI} {L : mL} {w a : Option Nat} (h : Z_Rd_next g Q 8 [(0, .ref 6)] [] (gm_u I 6 5 (I 6 6)) L (w, a, (some 1))) : C_Rd_next g  I L (w, a, (some 1)) Q := by
  refine gm_enter (lv := [(0, .ref 6)]) (by decide) rfl rfl rfl rfl ?_
  show Z_Rd_next g Q 0 [(0, .ref 6)] [] I L (w, a, (some 1))
  refine gx_aload_n 0 dX5_next_0 rfl rfl ?_
  refine gx_aload_n 0 dX5_next_1 rfl rfl ?_
  refine gx_geti 5 6 (v := (I 6 6)) dX5_next_2 fl_X5_28 rfl rfl rfl ?_
  refine gx_puti 5 5 dX5_next_5 fl_X5_140 rfl rfl rfl ⟨rfl, rfl⟩ ?_
  show Z_Rd_next g Q 8 [(0, .ref 6)] [] (gm_u I 6 5 (I 6 6)) L (w, a, (some 1))
  exact h
set_option maxRecDepth 100000 in
theorem r_Rd_next_8 {g : gm_G} {Q : mI → mL → gm_cfg → Prop} {I : mI} {L : mL} {w a : Option Nat} (h : (((I 6 3) ≤ (I 6 5) → (C_Rd_byteAt g (I 6 5) (gm_u I 6 6 (I 6 5)) L (w, a, (some 1)) (fun r4 I1 L2 c3 => c3 = (w, a, (some 1)) ∧ (((I1 6 5) < (I1 6 3) → (C_Rd_isLetter g r4 I1 L2 (w, a, (some 1)) (fun b8 I5 L6 c7 => c7 = (w, a, (some 1)) ∧ ((b8 = false → (C_Rd_isDigit g r4 I5 L6 (w, a, (some 1)) (fun b12 I9 L10 c11 => c11 = (w, a, (some 1)) ∧ ((b12 = false → ((r4 = 59 → Q (gm_u (gm_u I9 6 4 2) 6 6 ((I9 6 6) + 1)) L10 (w, a, (some 1))) ∧ (¬ r4 = 59 → Q (gm_u (gm_u I9 6 4 4) 6 6 ((I9 6 6) + 1)) L10 (w, a, (some 1))))) ∧ (b12 = true → Z_Rd_next g Q 156 [(0, .ref 6), (1, .int r4)] [] (gm_u I9 6 7 0) L10 (w, a, (some 1))))))) ∧ (b8 = true → Z_Rd_next g Q 106 [(0, .ref 6), (1, .int r4)] [] (gm_u I5 6 4 0) L6 (w, a, (some 1))))))) ∧ (¬ (I1 6 5) < (I1 6 3) → Q (gm_u I1 6 4 3) L2 (w, a, (some 1))))))) ∧ (¬ (I 6 3) ≤ (I 6 5) → (C_Rd_byteAt g (I 6 5) I L (w, a, (some 1)) (fun r16 I13 L14 c15 => c15 = (w, a, (some 1)) ∧ ((r16 = 10 → Z_Rd_next g Q 8 [(0, .ref 6)] [] (gm_u I13 6 5 ((I13 6 5) + 1)) L14 (w, a, (some 1))) ∧ (¬ r16 = 10 → (C_Rd_byteAt g (I13 6 5) I13 L14 (w, a, (some 1)) (fun r20 I17 L18 c19 => c19 = (w, a, (some 1)) ∧ ((r20 = 32 → Z_Rd_next g Q 8 [(0, .ref 6)] [] (gm_u I17 6 5 ((I17 6 5) + 1)) L18 (w, a, (some 1))) ∧ (¬ r20 = 32 → (C_Rd_byteAt g (I17 6 5) (gm_u I17 6 6 (I17 6 5)) L18 (w, a, (some 1)) (fun r24 I21 L22 c23 => c23 = (w, a, (some 1)) ∧ (((I21 6 5) < (I21 6 3) → (C_Rd_isLetter g r24 I21 L22 (w, a, (some 1)) (fun b28 I25 L26 c27 => c27 = (w, a, (some 1)) ∧ ((b28 = false → (C_Rd_isDigit g r24 I25 L26 (w, a, (some 1)) (fun b32 I29 L30 c31 => c31 = (w, a, (some 1)) ∧ ((b32 = false → ((r24 = 59 → Q (gm_u (gm_u I29 6 4 2) 6 6 ((I29 6 6) + 1)) L30 (w, a, (some 1))) ∧ (¬ r24 = 59 → Q (gm_u (gm_u I29 6 4 4) 6 6 ((I29 6 6) + 1)) L30 (w, a, (some 1))))) ∧ (b32 = true → Z_Rd_next g Q 156 [(0, .ref 6), (1, .int r24)] [] (gm_u I29 6 7 0) L30 (w, a, (some 1))))))) ∧ (b28 = true → Z_Rd_next g Q 106 [(0, .ref 6), (1, .int r24)] [] (gm_u I25 6 4 0) L26 (w, a, (some 1))))))) ∧ (¬ (I21 6 5) < (I21 6 3) → Q (gm_u I21 6 4 3) L22 (w, a, (some 1))))))))))))))))) : Z_Rd_next g Q 8 [(0, .ref 6)] [] I L (w, a, (some 1)) := by
  refine gx_aload_n 0 dX5_next_8 rfl rfl ?_
  refine gx_geti 5 5 (v := (I 6 5)) dX5_next_9 fl_X5_140 rfl rfl rfl ?_
  refine gx_aload_n 0 dX5_next_12 rfl rfl ?_
  refine gx_geti 5 3 (v := (I 6 3)) dX5_next_13 fl_X5_25 rfl rfl rfl ?_
  refine gx_icmp_ge 58 dX5_next_16 (by decide) ⟨fun z => ?_, fun z => ?_⟩
  · replace h := h.1 z
    refine gx_aload_n 0 dX5_next_58 rfl rfl ?_
    refine gx_aload_n 0 dX5_next_59 rfl rfl ?_
    refine gx_geti 5 5 (v := (I 6 5)) dX5_next_60 fl_X5_140 rfl rfl rfl ?_
    refine gx_puti 5 6 dX5_next_63 fl_X5_28 rfl rfl rfl ⟨rfl, rfl⟩ ?_
    show Z_Rd_next g Q 66 [(0, .ref 6)] [] (gm_u I 6 6 (I 6 5)) L (w, a, (some 1))
    refine gx_aload_n 0 dX5_next_66 rfl rfl ?_
    refine gx_aload_n 0 dX5_next_67 rfl rfl ?_
    refine gx_geti 5 5 (v := (I 6 5)) dX5_next_68 fl_X5_140 rfl rfl rfl ?_
    refine gx_callV 5 (As := [.int (I 6 5)]) (st := []) dX5_next_71 ml_X5_148 mm_X5_byteAt rfl rfl rfl rfl rfl rfl ⟨rfl, rfl⟩ h (fun v h2 hq => ?_)
    clear h
    obtain ⟨r4, I1, L2, c3, rfl, rfl, h⟩ := hq
    obtain ⟨rfl, h⟩ := h
    show Z_Rd_next g Q 74 [(0, .ref 6)] [.int r4] I1 L2 (w, a, (some 1))
    refine gx_istore_n (lv' := [(0, .ref 6), (1, .int r4)]) dX5_next_74 rfl rfl rfl ?_
    refine gx_aload_n 0 dX5_next_75 rfl rfl ?_
    refine gx_geti 5 5 (v := (I1 6 5)) dX5_next_76 fl_X5_140 rfl rfl rfl ?_
    refine gx_aload_n 0 dX5_next_79 rfl rfl ?_
    refine gx_geti 5 3 (v := (I1 6 3)) dX5_next_80 fl_X5_25 rfl rfl rfl ?_
    refine gx_icmp_lt 94 dX5_next_83 (by decide) ⟨fun z => ?_, fun z => ?_⟩
    · replace h := h.1 z
      refine gx_iload_n 1 dX5_next_94 rfl rfl ?_
      refine gx_callS (As := [.int r4]) (st := []) dX5_next_95 ml_X5_156 mm_X5_isLetter rfl rfl rfl rfl ⟨rfl, rfl⟩ h (fun v h2 hq => ?_)
      clear h
      obtain ⟨b8, I5, L6, c7, rfl, rfl, h⟩ := hq
      obtain ⟨rfl, h⟩ := h
      show Z_Rd_next g Q 98 [(0, .ref 6), (1, .int r4)] [.int (gm_b b8)] I5 L6 (w, a, (some 1))
      refine gx_if_eq 144 dX5_next_98 (by decide) ⟨fun z => ?_, fun z => ?_⟩
      · replace h := h.1 (gm_b0.mp z)
        refine gx_iload_n 1 dX5_next_144 rfl rfl ?_
        refine gx_callS (As := [.int r4]) (st := []) dX5_next_145 ml_X5_159 mm_X5_isDigit rfl rfl rfl rfl ⟨rfl, rfl⟩ h (fun v h2 hq => ?_)
        clear h
        obtain ⟨b12, I9, L10, c11, rfl, rfl, h⟩ := hq
        obtain ⟨rfl, h⟩ := h
        show Z_Rd_next g Q 148 [(0, .ref 6), (1, .int r4)] [.int (gm_b b12)] I9 L10 (w, a, (some 1))
        refine gx_if_eq 262 dX5_next_148 (by decide) ⟨fun z => ?_, fun z => ?_⟩
        · replace h := h.1 (gm_b0.mp z)
          refine gx_aload_n 0 dX5_next_262 rfl rfl ?_
          refine gx_iload_n 1 dX5_next_263 rfl rfl ?_
          refine gx_bipush (v := 59) dX5_next_264 (by decide) ?_
          refine gx_icmp_ne 273 dX5_next_266 (by decide) ⟨fun z => ?_, fun z => ?_⟩
          · replace h := h.1 z
            refine gx_iconst (v := 2) dX5_next_269 (by decide) ?_
            refine gx_goto 274 dX5_next_270 (by decide) ?_
            refine gx_puti 5 4 dX5_next_274 fl_X5_42 rfl rfl rfl ⟨rfl, rfl⟩ ?_
            show Z_Rd_next g Q 277 [(0, .ref 6), (1, .int r4)] [] (gm_u I9 6 4 2) L10 (w, a, (some 1))
            refine gx_aload_n 0 dX5_next_277 rfl rfl ?_
            refine gx_dup dX5_next_278 rfl ?_
            refine gx_geti 5 6 (v := (I9 6 6)) dX5_next_279 fl_X5_28 rfl rfl rfl ?_
            refine gx_iconst (v := 1) dX5_next_282 (by decide) ?_
            refine gx_iadd dX5_next_283 ?_
            refine gx_puti 5 6 dX5_next_284 fl_X5_28 rfl rfl rfl ⟨rfl, rfl⟩ ?_
            show Z_Rd_next g Q 287 [(0, .ref 6), (1, .int r4)] [] (gm_u (gm_u I9 6 4 2) 6 6 ((I9 6 6) + 1)) L10 (w, a, (some 1))
            exact gx_vret dX5_next_287 rfl rfl rfl ⟨_, _, _, rfl, rfl, h⟩
          · replace h := h.2 z
            refine gx_iconst (v := 4) dX5_next_273 (by decide) ?_
            refine gx_puti 5 4 dX5_next_274 fl_X5_42 rfl rfl rfl ⟨rfl, rfl⟩ ?_
            show Z_Rd_next g Q 277 [(0, .ref 6), (1, .int r4)] [] (gm_u I9 6 4 4) L10 (w, a, (some 1))
            refine gx_aload_n 0 dX5_next_277 rfl rfl ?_
            refine gx_dup dX5_next_278 rfl ?_
            refine gx_geti 5 6 (v := (I9 6 6)) dX5_next_279 fl_X5_28 rfl rfl rfl ?_
            refine gx_iconst (v := 1) dX5_next_282 (by decide) ?_
            refine gx_iadd dX5_next_283 ?_
            refine gx_puti 5 6 dX5_next_284 fl_X5_28 rfl rfl rfl ⟨rfl, rfl⟩ ?_
            show Z_Rd_next g Q 287 [(0, .ref 6), (1, .int r4)] [] (gm_u (gm_u I9 6 4 4) 6 6 ((I9 6 6) + 1)) L10 (w, a, (some 1))
            exact gx_vret dX5_next_287 rfl rfl rfl ⟨_, _, _, rfl, rfl, h⟩
        · replace h := h.2 (gm_bn0 z)
          refine gx_aload_n 0 dX5_next_151 rfl rfl ?_
          refine gx_iconst (v := 0) dX5_next_152 (by decide) ?_
          refine gx_puti 5 7 dX5_next_153 fl_X5_137 rfl rfl rfl ⟨rfl, rfl⟩ ?_
          show Z_Rd_next g Q 156 [(0, .ref 6), (1, .int r4)] [] (gm_u I9 6 7 0) L10 (w, a, (some 1))
          exact h
      · replace h := h.2 (gm_bn0 z)
        refine gx_aload_n 0 dX5_next_101 rfl rfl ?_
        refine gx_iconst (v := 0) dX5_next_102 (by decide) ?_
        refine gx_puti 5 4 dX5_next_103 fl_X5_42 rfl rfl rfl ⟨rfl, rfl⟩ ?_
        show Z_Rd_next g Q 106 [(0, .ref 6), (1, .int r4)] [] (gm_u I5 6 4 0) L6 (w, a, (some 1))
        exact h
    · replace h := h.2 z
      refine gx_aload_n 0 dX5_next_86 rfl rfl ?_
      refine gx_iconst (v := 3) dX5_next_87 (by decide) ?_
      refine gx_puti 5 4 dX5_next_88 fl_X5_42 rfl rfl rfl ⟨rfl, rfl⟩ ?_
      show Z_Rd_next g Q 91 [(0, .ref 6), (1, .int r4)] [] (gm_u I1 6 4 3) L2 (w, a, (some 1))
      refine gx_goto 287 dX5_next_91 (by decide) ?_
      exact gx_vret dX5_next_287 rfl rfl rfl ⟨_, _, _, rfl, rfl, h⟩
  · replace h := h.2 z
    refine gx_aload_n 0 dX5_next_19 rfl rfl ?_
    refine gx_aload_n 0 dX5_next_20 rfl rfl ?_
    refine gx_geti 5 5 (v := (I 6 5)) dX5_next_21 fl_X5_140 rfl rfl rfl ?_
    refine gx_callV 5 (As := [.int (I 6 5)]) (st := []) dX5_next_24 ml_X5_148 mm_X5_byteAt rfl rfl rfl rfl rfl rfl ⟨rfl, rfl⟩ h (fun v h2 hq => ?_)
    clear h
    obtain ⟨r16, I13, L14, c15, rfl, rfl, h⟩ := hq
    obtain ⟨rfl, h⟩ := h
    show Z_Rd_next g Q 27 [(0, .ref 6)] [.int r16] I13 L14 (w, a, (some 1))
    refine gx_bipush (v := 10) dX5_next_27 (by decide) ?_
    refine gx_icmp_eq 45 dX5_next_29 (by decide) ⟨fun z => ?_, fun z => ?_⟩
    · replace h := h.1 z
      refine gx_aload_n 0 dX5_next_45 rfl rfl ?_
      refine gx_dup dX5_next_46 rfl ?_
      refine gx_geti 5 5 (v := (I13 6 5)) dX5_next_47 fl_X5_140 rfl rfl rfl ?_
      refine gx_iconst (v := 1) dX5_next_50 (by decide) ?_
      refine gx_iadd dX5_next_51 ?_
      refine gx_puti 5 5 dX5_next_52 fl_X5_140 rfl rfl rfl ⟨rfl, rfl⟩ ?_
      show Z_Rd_next g Q 55 [(0, .ref 6)] [] (gm_u I13 6 5 ((I13 6 5) + 1)) L14 (w, a, (some 1))
      refine gx_goto 8 dX5_next_55 (by decide) ?_
      exact h
    · replace h := h.2 z
      refine gx_aload_n 0 dX5_next_32 rfl rfl ?_
      refine gx_aload_n 0 dX5_next_33 rfl rfl ?_
      refine gx_geti 5 5 (v := (I13 6 5)) dX5_next_34 fl_X5_140 rfl rfl rfl ?_
      refine gx_callV 5 (As := [.int (I13 6 5)]) (st := []) dX5_next_37 ml_X5_148 mm_X5_byteAt rfl rfl rfl rfl rfl rfl ⟨rfl, rfl⟩ h (fun v h2 hq => ?_)
      clear h
      obtain ⟨r20, I17, L18, c19, rfl, rfl, h⟩ := hq
      obtain ⟨rfl, h⟩ := h
      show Z_Rd_next g Q 40 [(0, .ref 6)] [.int r20] I17 L18 (w, a, (some 1))
      refine gx_bipush (v := 32) dX5_next_40 (by decide) ?_
      refine gx_icmp_ne 58 dX5_next_42 (by decide) ⟨fun z => ?_, fun z => ?_⟩
      · replace h := h.1 z
        refine gx_aload_n 0 dX5_next_45 rfl rfl ?_
        refine gx_dup dX5_next_46 rfl ?_
        refine gx_geti 5 5 (v := (I17 6 5)) dX5_next_47 fl_X5_140 rfl rfl rfl ?_
        refine gx_iconst (v := 1) dX5_next_50 (by decide) ?_
        refine gx_iadd dX5_next_51 ?_
        refine gx_puti 5 5 dX5_next_52 fl_X5_140 rfl rfl rfl ⟨rfl, rfl⟩ ?_
        show Z_Rd_next g Q 55 [(0, .ref 6)] [] (gm_u I17 6 5 ((I17 6 5) + 1)) L18 (w, a, (some 1))
        refine gx_goto 8 dX5_next_55 (by decide) ?_
        exact h
      · replace h := h.2 z
        refine gx_aload_n 0 dX5_next_58 rfl rfl ?_
        refine gx_aload_n 0 dX5_next_59 rfl rfl ?_
        refine gx_geti 5 5 (v := (I17 6 5)) dX5_next_60 fl_X5_140 rfl rfl rfl ?_
        refine gx_puti 5 6 dX5_next_63 fl_X5_28 rfl rfl rfl ⟨rfl, rfl⟩ ?_
        show Z_Rd_next g Q 66 [(0, .ref 6)] [] (gm_u I17 6 6 (I17 6 5)) L18 (w, a, (some 1))
        refine gx_aload_n 0 dX5_next_66 rfl rfl ?_
        refine gx_aload_n 0 dX5_next_67 rfl rfl ?_
        refine gx_geti 5 5 (v := (I17 6 5)) dX5_next_68 fl_X5_140 rfl rfl rfl ?_
        refine gx_callV 5 (As := [.int (I17 6 5)]) (st := []) dX5_next_71 ml_X5_148 mm_X5_byteAt rfl rfl rfl rfl rfl rfl ⟨rfl, rfl⟩ h (fun v h2 hq => ?_)
        clear h
        obtain ⟨r24, I21, L22, c23, rfl, rfl, h⟩ := hq
        obtain ⟨rfl, h⟩ := h
        show Z_Rd_next g Q 74 [(0, .ref 6)] [.int r24] I21 L22 (w, a, (some 1))
        refine gx_istore_n (lv' := [(0, .ref 6), (1, .int r24)]) dX5_next_74 rfl rfl rfl ?_
        refine gx_aload_n 0 dX5_next_75 rfl rfl ?_
        refine gx_geti 5 5 (v := (I21 6 5)) dX5_next_76 fl_X5_140 rfl rfl rfl ?_
        refine gx_aload_n 0 dX5_next_79 rfl rfl ?_
        refine gx_geti 5 3 (v := (I21 6 3)) dX5_next_80 fl_X5_25 rfl rfl rfl ?_
        refine gx_icmp_lt 94 dX5_next_83 (by decide) ⟨fun z => ?_, fun z => ?_⟩
        · replace h := h.1 z
          refine gx_iload_n 1 dX5_next_94 rfl rfl ?_
          refine gx_callS (As := [.int r24]) (st := []) dX5_next_95 ml_X5_156 mm_X5_isLetter rfl rfl rfl rfl ⟨rfl, rfl⟩ h (fun v h2 hq => ?_)
          clear h
          obtain ⟨b28, I25, L26, c27, rfl, rfl, h⟩ := hq
          obtain ⟨rfl, h⟩ := h
          show Z_Rd_next g Q 98 [(0, .ref 6), (1, .int r24)] [.int (gm_b b28)] I25 L26 (w, a, (some 1))
          refine gx_if_eq 144 dX5_next_98 (by decide) ⟨fun z => ?_, fun z => ?_⟩
          · replace h := h.1 (gm_b0.mp z)
            refine gx_iload_n 1 dX5_next_144 rfl rfl ?_
            refine gx_callS (As := [.int r24]) (st := []) dX5_next_145 ml_X5_159 mm_X5_isDigit rfl rfl rfl rfl ⟨rfl, rfl⟩ h (fun v h2 hq => ?_)
            clear h
            obtain ⟨b32, I29, L30, c31, rfl, rfl, h⟩ := hq
            obtain ⟨rfl, h⟩ := h
            show Z_Rd_next g Q 148 [(0, .ref 6), (1, .int r24)] [.int (gm_b b32)] I29 L30 (w, a, (some 1))
            refine gx_if_eq 262 dX5_next_148 (by decide) ⟨fun z => ?_, fun z => ?_⟩
            · replace h := h.1 (gm_b0.mp z)
              refine gx_aload_n 0 dX5_next_262 rfl rfl ?_
              refine gx_iload_n 1 dX5_next_263 rfl rfl ?_
              refine gx_bipush (v := 59) dX5_next_264 (by decide) ?_
              refine gx_icmp_ne 273 dX5_next_266 (by decide) ⟨fun z => ?_, fun z => ?_⟩
              · replace h := h.1 z
                refine gx_iconst (v := 2) dX5_next_269 (by decide) ?_
                refine gx_goto 274 dX5_next_270 (by decide) ?_
                refine gx_puti 5 4 dX5_next_274 fl_X5_42 rfl rfl rfl ⟨rfl, rfl⟩ ?_
                show Z_Rd_next g Q 277 [(0, .ref 6), (1, .int r24)] [] (gm_u I29 6 4 2) L30 (w, a, (some 1))
                refine gx_aload_n 0 dX5_next_277 rfl rfl ?_
                refine gx_dup dX5_next_278 rfl ?_
                refine gx_geti 5 6 (v := (I29 6 6)) dX5_next_279 fl_X5_28 rfl rfl rfl ?_
                refine gx_iconst (v := 1) dX5_next_282 (by decide) ?_
                refine gx_iadd dX5_next_283 ?_
                refine gx_puti 5 6 dX5_next_284 fl_X5_28 rfl rfl rfl ⟨rfl, rfl⟩ ?_
                show Z_Rd_next g Q 287 [(0, .ref 6), (1, .int r24)] [] (gm_u (gm_u I29 6 4 2) 6 6 ((I29 6 6) + 1)) L30 (w, a, (some 1))
                exact gx_vret dX5_next_287 rfl rfl rfl ⟨_, _, _, rfl, rfl, h⟩
              · replace h := h.2 z
                refine gx_iconst (v := 4) dX5_next_273 (by decide) ?_
                refine gx_puti 5 4 dX5_next_274 fl_X5_42 rfl rfl rfl ⟨rfl, rfl⟩ ?_
                show Z_Rd_next g Q 277 [(0, .ref 6), (1, .int r24)] [] (gm_u I29 6 4 4) L30 (w, a, (some 1))
                refine gx_aload_n 0 dX5_next_277 rfl rfl ?_
                refine gx_dup dX5_next_278 rfl ?_
                refine gx_geti 5 6 (v := (I29 6 6)) dX5_next_279 fl_X5_28 rfl rfl rfl ?_
                refine gx_iconst (v := 1) dX5_next_282 (by decide) ?_
                refine gx_iadd dX5_next_283 ?_
                refine gx_puti 5 6 dX5_next_284 fl_X5_28 rfl rfl rfl ⟨rfl, rfl⟩ ?_
                show Z_Rd_next g Q 287 [(0, .ref 6), (1, .int r24)] [] (gm_u (gm_u I29 6 4 4) 6 6 ((I29 6 6) + 1)) L30 (w, a, (some 1))
                exact gx_vret dX5_next_287 rfl rfl rfl ⟨_, _, _, rfl, rfl, h⟩
            · replace h := h.2 (gm_bn0 z)
              refine gx_aload_n 0 dX5_next_151 rfl rfl ?_
              refine gx_iconst (v := 0) dX5_next_152 (by decide) ?_
              refine gx_puti 5 7 dX5_next_153 fl_X5_137 rfl rfl rfl ⟨rfl, rfl⟩ ?_
              show Z_Rd_next g Q 156 [(0, .ref 6), (1, .int r24)] [] (gm_u I29 6 7 0) L30 (w, a, (some 1))
              exact h
          · replace h := h.2 (gm_bn0 z)
            refine gx_aload_n 0 dX5_next_101 rfl rfl ?_
            refine gx_iconst (v := 0) dX5_next_102 (by decide) ?_
            refine gx_puti 5 4 dX5_next_103 fl_X5_42 rfl rfl rfl ⟨rfl, rfl⟩ ?_
            show Z_Rd_next g Q 106 [(0, .ref 6), (1, .int r24)] [] (gm_u I25 6 4 0) L26 (w, a, (some 1))
            exact h
        · replace h := h.2 z
          refine gx_aload_n 0 dX5_next_86 rfl rfl ?_
          refine gx_iconst (v := 3) dX5_next_87 (by decide) ?_
          refine gx_puti 5 4 dX5_next_88 fl_X5_42 rfl rfl rfl ⟨rfl, rfl⟩ ?_
          show Z_Rd_next g Q 91 [(0, .ref 6), (1, .int r24)] [] (gm_u I21 6 4 3) L22 (w, a, (some 1))
          refine gx_goto 287 dX5_next_91 (by decide) ?_
          exact gx_vret dX5_next_287 rfl rfl rfl ⟨_, _, _, rfl, rfl, h⟩
set_option maxRecDepth 100000 in
theorem r_Rd_next_106 {g : gm_G} {Q : mI → mL → gm_cfg → Prop} {x1 : Int32} {I : mI} {L : mL} {w a : Option Nat} (h : (((I 6 3) ≤ (I 6 6) → Q I L (w, a, (some 1))) ∧ (¬ (I 6 3) ≤ (I 6 6) → (C_Rd_byteAt g (I 6 6) I L (w, a, (some 1)) (fun r4 I1 L2 c3 => c3 = (w, a, (some 1)) ∧ (C_Rd_isLetter g r4 I1 L2 (w, a, (some 1)) (fun b8 I5 L6 c7 => c7 = (w, a, (some 1)) ∧ ((b8 = false → Q I5 L6 (w, a, (some 1))) ∧ (b8 = true → Z_Rd_next g Q 106 [(0, .ref 6), (1, .int x1)] [] (gm_u I5 6 6 ((I5 6 6) + 1)) L6 (w, a, (some 1))))))))))) : Z_Rd_next g Q 106 [(0, .ref 6), (1, .int x1)] [] I L (w, a, (some 1)) := by
  refine gx_aload_n 0 dX5_next_106 rfl rfl ?_
  refine gx_geti 5 6 (v := (I 6 6)) dX5_next_107 fl_X5_28 rfl rfl rfl ?_
  refine gx_aload_n 0 dX5_next_110 rfl rfl ?_
  refine gx_geti 5 3 (v := (I 6 3)) dX5_next_111 fl_X5_25 rfl rfl rfl ?_
  refine gx_icmp_ge 287 dX5_next_114 (by decide) ⟨fun z => ?_, fun z => ?_⟩
  · replace h := h.1 z
    exact gx_vret dX5_next_287 rfl rfl rfl ⟨_, _, _, rfl, rfl, h⟩
  · replace h := h.2 z
    refine gx_aload_n 0 dX5_next_117 rfl rfl ?_
    refine gx_aload_n 0 dX5_next_118 rfl rfl ?_
    refine gx_geti 5 6 (v := (I 6 6)) dX5_next_119 fl_X5_28 rfl rfl rfl ?_
    refine gx_callV 5 (As := [.int (I 6 6)]) (st := []) dX5_next_122 ml_X5_148 mm_X5_byteAt rfl rfl rfl rfl rfl rfl ⟨rfl, rfl⟩ h (fun v h2 hq => ?_)
    clear h
    obtain ⟨r4, I1, L2, c3, rfl, rfl, h⟩ := hq
    obtain ⟨rfl, h⟩ := h
    show Z_Rd_next g Q 125 [(0, .ref 6), (1, .int x1)] [.int r4] I1 L2 (w, a, (some 1))
    refine gx_callS (As := [.int r4]) (st := []) dX5_next_125 ml_X5_156 mm_X5_isLetter rfl rfl rfl rfl ⟨rfl, rfl⟩ h (fun v h2 hq => ?_)
    clear h
    obtain ⟨b8, I5, L6, c7, rfl, rfl, h⟩ := hq
    obtain ⟨rfl, h⟩ := h
    show Z_Rd_next g Q 128 [(0, .ref 6), (1, .int x1)] [.int (gm_b b8)] I5 L6 (w, a, (some 1))
    refine gx_if_eq 287 dX5_next_128 (by decide) ⟨fun z => ?_, fun z => ?_⟩
    · replace h := h.1 (gm_b0.mp z)
      exact gx_vret dX5_next_287 rfl rfl rfl ⟨_, _, _, rfl, rfl, h⟩
    · replace h := h.2 (gm_bn0 z)
      refine gx_aload_n 0 dX5_next_131 rfl rfl ?_
      refine gx_dup dX5_next_132 rfl ?_
      refine gx_geti 5 6 (v := (I5 6 6)) dX5_next_133 fl_X5_28 rfl rfl rfl ?_
      refine gx_iconst (v := 1) dX5_next_136 (by decide) ?_
      refine gx_iadd dX5_next_137 ?_
      refine gx_puti 5 6 dX5_next_138 fl_X5_28 rfl rfl rfl ⟨rfl, rfl⟩ ?_
      show Z_Rd_next g Q 141 [(0, .ref 6), (1, .int x1)] [] (gm_u I5 6 6 ((I5 6 6) + 1)) L6 (w, a, (some 1))
      refine gx_goto 106 dX5_next_141 (by decide) ?_
      exact h
set_option maxRecDepth 100000 in
theorem r_Rd_next_156 {g : gm_G} {Q : mI → mL → gm_cfg → Prop} {x1 : Int32} {I : mI} {L : mL} {w a : Option Nat} (h : (((I 6 3) ≤ (I 6 6) → ((((I 6 6) - (I 6 5)) ≤ 4 → Q (gm_u I 6 4 1) L (w, a, (some 1))) ∧ (¬ ((I 6 6) - (I 6 5)) ≤ 4 → Q (gm_u I 6 4 4) L (w, a, (some 1))))) ∧ (¬ (I 6 3) ≤ (I 6 6) → (C_Rd_byteAt g (I 6 6) I L (w, a, (some 1)) (fun r4 I1 L2 c3 => c3 = (w, a, (some 1)) ∧ (C_Rd_isDigit g r4 I1 L2 (w, a, (some 1)) (fun b8 I5 L6 c7 => c7 = (w, a, (some 1)) ∧ ((b8 = false → ((((I5 6 6) - (I5 6 5)) ≤ 4 → Q (gm_u I5 6 4 1) L6 (w, a, (some 1))) ∧ (¬ ((I5 6 6) - (I5 6 5)) ≤ 4 → Q (gm_u I5 6 4 4) L6 (w, a, (some 1))))) ∧ (b8 = true → ((4 ≤ ((I5 6 6) - (I5 6 5)) → Z_Rd_next g Q 156 [(0, .ref 6), (1, .int x1)] [] (gm_u (gm_u I5 6 7 (I5 6 7)) 6 6 ((I5 6 6) + 1)) L6 (w, a, (some 1))) ∧ (¬ 4 ≤ ((I5 6 6) - (I5 6 5)) → (C_Rd_byteAt g (I5 6 6) I5 L6 (w, a, (some 1)) (fun r12 I9 L10 c11 => c11 = (w, a, (some 1)) ∧ Z_Rd_next g Q 156 [(0, .ref 6), (1, .int x1)] [] (gm_u (gm_u I9 6 7 ((((I5 6 7) * 10) + r12) - 48)) 6 6 ((I9 6 6) + 1)) L10 (w, a, (some 1))))))))))))))) : Z_Rd_next g Q 156 [(0, .ref 6), (1, .int x1)] [] I L (w, a, (some 1)) := by
  refine gx_aload_n 0 dX5_next_156 rfl rfl ?_
  refine gx_geti 5 6 (v := (I 6 6)) dX5_next_157 fl_X5_28 rfl rfl rfl ?_
  refine gx_aload_n 0 dX5_next_160 rfl rfl ?_
  refine gx_geti 5 3 (v := (I 6 3)) dX5_next_161 fl_X5_25 rfl rfl rfl ?_
  refine gx_icmp_ge 237 dX5_next_164 (by decide) ⟨fun z => ?_, fun z => ?_⟩
  · replace h := h.1 z
    refine gx_aload_n 0 dX5_next_237 rfl rfl ?_
    refine gx_aload_n 0 dX5_next_238 rfl rfl ?_
    refine gx_geti 5 6 (v := (I 6 6)) dX5_next_239 fl_X5_28 rfl rfl rfl ?_
    refine gx_aload_n 0 dX5_next_242 rfl rfl ?_
    refine gx_geti 5 5 (v := (I 6 5)) dX5_next_243 fl_X5_140 rfl rfl rfl ?_
    refine gx_isub dX5_next_246 ?_
    refine gx_iconst (v := 4) dX5_next_247 (by decide) ?_
    refine gx_icmp_le 255 dX5_next_248 (by decide) ⟨fun z => ?_, fun z => ?_⟩
    · replace h := h.1 z
      refine gx_iconst (v := 1) dX5_next_255 (by decide) ?_
      refine gx_puti 5 4 dX5_next_256 fl_X5_42 rfl rfl rfl ⟨rfl, rfl⟩ ?_
      show Z_Rd_next g Q 259 [(0, .ref 6), (1, .int x1)] [] (gm_u I 6 4 1) L (w, a, (some 1))
      refine gx_goto 287 dX5_next_259 (by decide) ?_
      exact gx_vret dX5_next_287 rfl rfl rfl ⟨_, _, _, rfl, rfl, h⟩
    · replace h := h.2 z
      refine gx_iconst (v := 4) dX5_next_251 (by decide) ?_
      refine gx_goto 256 dX5_next_252 (by decide) ?_
      refine gx_puti 5 4 dX5_next_256 fl_X5_42 rfl rfl rfl ⟨rfl, rfl⟩ ?_
      show Z_Rd_next g Q 259 [(0, .ref 6), (1, .int x1)] [] (gm_u I 6 4 4) L (w, a, (some 1))
      refine gx_goto 287 dX5_next_259 (by decide) ?_
      exact gx_vret dX5_next_287 rfl rfl rfl ⟨_, _, _, rfl, rfl, h⟩
  · replace h := h.2 z
    refine gx_aload_n 0 dX5_next_167 rfl rfl ?_
    refine gx_aload_n 0 dX5_next_168 rfl rfl ?_
    refine gx_geti 5 6 (v := (I 6 6)) dX5_next_169 fl_X5_28 rfl rfl rfl ?_
    refine gx_callV 5 (As := [.int (I 6 6)]) (st := []) dX5_next_172 ml_X5_148 mm_X5_byteAt rfl rfl rfl rfl rfl rfl ⟨rfl, rfl⟩ h (fun v h2 hq => ?_)
    clear h
    obtain ⟨r4, I1, L2, c3, rfl, rfl, h⟩ := hq
    obtain ⟨rfl, h⟩ := h
    show Z_Rd_next g Q 175 [(0, .ref 6), (1, .int x1)] [.int r4] I1 L2 (w, a, (some 1))
    refine gx_callS (As := [.int r4]) (st := []) dX5_next_175 ml_X5_159 mm_X5_isDigit rfl rfl rfl rfl ⟨rfl, rfl⟩ h (fun v h2 hq => ?_)
    clear h
    obtain ⟨b8, I5, L6, c7, rfl, rfl, h⟩ := hq
    obtain ⟨rfl, h⟩ := h
    show Z_Rd_next g Q 178 [(0, .ref 6), (1, .int x1)] [.int (gm_b b8)] I5 L6 (w, a, (some 1))
    refine gx_if_eq 237 dX5_next_178 (by decide) ⟨fun z => ?_, fun z => ?_⟩
    · replace h := h.1 (gm_b0.mp z)
      refine gx_aload_n 0 dX5_next_237 rfl rfl ?_
      refine gx_aload_n 0 dX5_next_238 rfl rfl ?_
      refine gx_geti 5 6 (v := (I5 6 6)) dX5_next_239 fl_X5_28 rfl rfl rfl ?_
      refine gx_aload_n 0 dX5_next_242 rfl rfl ?_
      refine gx_geti 5 5 (v := (I5 6 5)) dX5_next_243 fl_X5_140 rfl rfl rfl ?_
      refine gx_isub dX5_next_246 ?_
      refine gx_iconst (v := 4) dX5_next_247 (by decide) ?_
      refine gx_icmp_le 255 dX5_next_248 (by decide) ⟨fun z => ?_, fun z => ?_⟩
      · replace h := h.1 z
        refine gx_iconst (v := 1) dX5_next_255 (by decide) ?_
        refine gx_puti 5 4 dX5_next_256 fl_X5_42 rfl rfl rfl ⟨rfl, rfl⟩ ?_
        show Z_Rd_next g Q 259 [(0, .ref 6), (1, .int x1)] [] (gm_u I5 6 4 1) L6 (w, a, (some 1))
        refine gx_goto 287 dX5_next_259 (by decide) ?_
        exact gx_vret dX5_next_287 rfl rfl rfl ⟨_, _, _, rfl, rfl, h⟩
      · replace h := h.2 z
        refine gx_iconst (v := 4) dX5_next_251 (by decide) ?_
        refine gx_goto 256 dX5_next_252 (by decide) ?_
        refine gx_puti 5 4 dX5_next_256 fl_X5_42 rfl rfl rfl ⟨rfl, rfl⟩ ?_
        show Z_Rd_next g Q 259 [(0, .ref 6), (1, .int x1)] [] (gm_u I5 6 4 4) L6 (w, a, (some 1))
        refine gx_goto 287 dX5_next_259 (by decide) ?_
        exact gx_vret dX5_next_287 rfl rfl rfl ⟨_, _, _, rfl, rfl, h⟩
    · replace h := h.2 (gm_bn0 z)
      refine gx_aload_n 0 dX5_next_181 rfl rfl ?_
      refine gx_aload_n 0 dX5_next_182 rfl rfl ?_
      refine gx_geti 5 6 (v := (I5 6 6)) dX5_next_183 fl_X5_28 rfl rfl rfl ?_
      refine gx_aload_n 0 dX5_next_186 rfl rfl ?_
      refine gx_geti 5 5 (v := (I5 6 5)) dX5_next_187 fl_X5_140 rfl rfl rfl ?_
      refine gx_isub dX5_next_190 ?_
      refine gx_iconst (v := 4) dX5_next_191 (by decide) ?_
      refine gx_icmp_ge 217 dX5_next_192 (by decide) ⟨fun z => ?_, fun z => ?_⟩
      · replace h := h.1 z
        refine gx_aload_n 0 dX5_next_217 rfl rfl ?_
        refine gx_geti 5 7 (v := (I5 6 7)) dX5_next_218 fl_X5_137 rfl rfl rfl ?_
        refine gx_puti 5 7 dX5_next_221 fl_X5_137 rfl rfl rfl ⟨rfl, rfl⟩ ?_
        show Z_Rd_next g Q 224 [(0, .ref 6), (1, .int x1)] [] (gm_u I5 6 7 (I5 6 7)) L6 (w, a, (some 1))
        refine gx_aload_n 0 dX5_next_224 rfl rfl ?_
        refine gx_dup dX5_next_225 rfl ?_
        refine gx_geti 5 6 (v := (I5 6 6)) dX5_next_226 fl_X5_28 rfl rfl rfl ?_
        refine gx_iconst (v := 1) dX5_next_229 (by decide) ?_
        refine gx_iadd dX5_next_230 ?_
        refine gx_puti 5 6 dX5_next_231 fl_X5_28 rfl rfl rfl ⟨rfl, rfl⟩ ?_
        show Z_Rd_next g Q 234 [(0, .ref 6), (1, .int x1)] [] (gm_u (gm_u I5 6 7 (I5 6 7)) 6 6 ((I5 6 6) + 1)) L6 (w, a, (some 1))
        refine gx_goto 156 dX5_next_234 (by decide) ?_
        exact h
      · replace h := h.2 z
        refine gx_aload_n 0 dX5_next_195 rfl rfl ?_
        refine gx_geti 5 7 (v := (I5 6 7)) dX5_next_196 fl_X5_137 rfl rfl rfl ?_
        refine gx_bipush (v := 10) dX5_next_199 (by decide) ?_
        refine gx_imul dX5_next_201 ?_
        refine gx_aload_n 0 dX5_next_202 rfl rfl ?_
        refine gx_aload_n 0 dX5_next_203 rfl rfl ?_
        refine gx_geti 5 6 (v := (I5 6 6)) dX5_next_204 fl_X5_28 rfl rfl rfl ?_
        refine gx_callV 5 (As := [.int (I5 6 6)]) (st := [.int ((I5 6 7) * 10), .ref 6]) dX5_next_207 ml_X5_148 mm_X5_byteAt rfl rfl rfl rfl rfl rfl ⟨rfl, rfl⟩ h (fun v h2 hq => ?_)
        clear h
        obtain ⟨r12, I9, L10, c11, rfl, rfl, h⟩ := hq
        obtain ⟨rfl, h⟩ := h
        show Z_Rd_next g Q 210 [(0, .ref 6), (1, .int x1)] [.int r12, .int ((I5 6 7) * 10), .ref 6] I9 L10 (w, a, (some 1))
        refine gx_iadd dX5_next_210 ?_
        refine gx_bipush (v := 48) dX5_next_211 (by decide) ?_
        refine gx_isub dX5_next_213 ?_
        refine gx_goto 221 dX5_next_214 (by decide) ?_
        refine gx_puti 5 7 dX5_next_221 fl_X5_137 rfl rfl rfl ⟨rfl, rfl⟩ ?_
        show Z_Rd_next g Q 224 [(0, .ref 6), (1, .int x1)] [] (gm_u I9 6 7 ((((I5 6 7) * 10) + r12) - 48)) L10 (w, a, (some 1))
        refine gx_aload_n 0 dX5_next_224 rfl rfl ?_
        refine gx_dup dX5_next_225 rfl ?_
        refine gx_geti 5 6 (v := (I9 6 6)) dX5_next_226 fl_X5_28 rfl rfl rfl ?_
        refine gx_iconst (v := 1) dX5_next_229 (by decide) ?_
        refine gx_iadd dX5_next_230 ?_
        refine gx_puti 5 6 dX5_next_231 fl_X5_28 rfl rfl rfl ⟨rfl, rfl⟩ ?_
        show Z_Rd_next g Q 234 [(0, .ref 6), (1, .int x1)] [] (gm_u (gm_u I9 6 7 ((((I5 6 7) * 10) + r12) - 48)) 6 6 ((I9 6 6) + 1)) L10 (w, a, (some 1))
        refine gx_goto 156 dX5_next_234 (by decide) ?_
        exact h
abbrev Z_Rd_isWord_1000 (g : gm_G) (Q : Bool → mI → mL → gm_cfg → Prop) (pc : Nat) (lv : List (Nat × Value)) (st : List Value) (I : mI) (L : mL) (c : gm_cfg) : Prop := gm_X g RX5 "isWord" cX5_isWord 3 (some .boolean) 5 0 0 (qZ Q) 0 0 pc lv st (SH, I, L, RR c)
abbrev C_Rd_isWord_1000 (g : gm_G) (I : mI) (L : mL) (c : gm_cfg) (Q : Bool → mI → mL → gm_cfg → Prop) : Prop := gm_Met g yX5_isWord cX5_isWord 3 (some .boolean) 5 0 0 [.ref 6, .ref 1000] (SH, I, L, RR c) (qZ Q)
set_option maxRecDepth 100000 in
theorem e_Rd_isWord_1000 {g : gm_G} {Q : Bool → mI → mL → gm_cfg → Prop} {I : mI} {L : mL} {w a : Option Nat} (h : (((I 6 4) = 0 → ((((I 6 6) - (I 6 5)) = 4 → Z_Rd_isWord_1000 g Q 27 [(0, .ref 6), (1, .ref 1000), (2, .int 0)] [] I L (w, a, (some 1))) ∧ (¬ ((I 6 6) - (I 6 5)) = 4 → Q false I L (w, a, (some 1))))) ∧ (¬ (I 6 4) = 0 → Q false I L (w, a, (some 1))))) : C_Rd_isWord_1000 g  I L (w, a, (some 1)) Q := by
  refine gm_enter (lv := [(0, .ref 6), (1, .ref 1000)]) (by decide) rfl rfl rfl rfl ?_
  show Z_Rd_isWord_1000 g Q 0 [(0, .ref 6), (1, .ref 1000)] [] I L (w, a, (some 1))
  refine gx_aload_n 0 dX5_isWord_0 rfl rfl ?_
  refine gx_geti 5 4 (v := (I 6 4)) dX5_isWord_1 fl_X5_42 rfl rfl rfl ?_
  refine gx_if_ne 23 dX5_isWord_4 (by decide) ⟨fun z => ?_, fun z => ?_⟩
  · replace h := h.1 z
    refine gx_aload_n 0 dX5_isWord_7 rfl rfl ?_
    refine gx_geti 5 6 (v := (I 6 6)) dX5_isWord_8 fl_X5_28 rfl rfl rfl ?_
    refine gx_aload_n 0 dX5_isWord_11 rfl rfl ?_
    refine gx_geti 5 5 (v := (I 6 5)) dX5_isWord_12 fl_X5_140 rfl rfl rfl ?_
    refine gx_isub dX5_isWord_15 ?_
    refine gx_aload_n 1 dX5_isWord_16 rfl rfl ?_
    refine gx_slen 0 dX5_isWord_17 ml_X5_143 rfl rfl rfl rfl rfl ?_
    show Z_Rd_isWord_1000 g Q 20 [(0, .ref 6), (1, .ref 1000)] [.int 4, .int ((I 6 6) - (I 6 5))] I L (w, a, (some 1))
    refine gx_icmp_eq 25 dX5_isWord_20 (by decide) ⟨fun z => ?_, fun z => ?_⟩
    · replace h := h.1 z
      refine gx_iconst (v := 0) dX5_isWord_25 (by decide) ?_
      refine gx_istore_n (lv' := [(0, .ref 6), (1, .ref 1000), (2, .int 0)]) dX5_isWord_26 rfl rfl rfl ?_
      exact h
    · replace h := h.2 z
      refine gx_iconst (v := 0) dX5_isWord_23 (by decide) ?_
      exact gx_zret .boolean dX5_isWord_24 rfl rfl rfl rfl ⟨false, _, _, _, rfl, rfl, h⟩
  · replace h := h.2 z
    refine gx_iconst (v := 0) dX5_isWord_23 (by decide) ?_
    exact gx_zret .boolean dX5_isWord_24 rfl rfl rfl rfl ⟨false, _, _, _, rfl, rfl, h⟩
set_option maxRecDepth 100000 in
theorem r_Rd_isWord_1000_27 {g : gm_G} {Q : Bool → mI → mL → gm_cfg → Prop} {x2 : Int32} {I : mI} {L : mL} {w a : Option Nat} (h : ((4 ≤ x2 → Q true I L (w, a, (some 1))) ∧ (¬ 4 ≤ x2 → (C_Rd_byteAt g ((I 6 5) + x2) I L (w, a, (some 1)) (fun r4 I1 L2 c3 => c3 = (w, a, (some 1)) ∧ (vp_in x2 4 ∧ ((r4 = (gm_ch 0 (Int32.toNatClampNeg x2)) → Z_Rd_isWord_1000 g Q 27 [(0, .ref 6), (1, .ref 1000), (2, .int (x2 + 1))] [] I1 L2 (w, a, (some 1))) ∧ (¬ r4 = (gm_ch 0 (Int32.toNatClampNeg x2)) → Q false I1 L2 (w, a, (some 1)))))))))) : Z_Rd_isWord_1000 g Q 27 [(0, .ref 6), (1, .ref 1000), (2, .int x2)] [] I L (w, a, (some 1)) := by
  refine gx_iload_n 2 dX5_isWord_27 rfl rfl ?_
  refine gx_aload_n 1 dX5_isWord_28 rfl rfl ?_
  refine gx_slen 0 dX5_isWord_29 ml_X5_143 rfl rfl rfl rfl rfl ?_
  show Z_Rd_isWord_1000 g Q 32 [(0, .ref 6), (1, .ref 1000), (2, .int x2)] [.int 4, .int x2] I L (w, a, (some 1))
  refine gx_icmp_ge 61 dX5_isWord_32 (by decide) ⟨fun z => ?_, fun z => ?_⟩
  · replace h := h.1 z
    refine gx_iconst (v := 1) dX5_isWord_61 (by decide) ?_
    exact gx_zret .boolean dX5_isWord_62 rfl rfl rfl rfl ⟨true, _, _, _, rfl, rfl, h⟩
  · replace h := h.2 z
    refine gx_aload_n 0 dX5_isWord_35 rfl rfl ?_
    refine gx_aload_n 0 dX5_isWord_36 rfl rfl ?_
    refine gx_geti 5 5 (v := (I 6 5)) dX5_isWord_37 fl_X5_140 rfl rfl rfl ?_
    refine gx_iload_n 2 dX5_isWord_40 rfl rfl ?_
    refine gx_iadd dX5_isWord_41 ?_
    refine gx_callV 5 (As := [.int ((I 6 5) + x2)]) (st := []) dX5_isWord_42 ml_X5_148 mm_X5_byteAt rfl rfl rfl rfl rfl rfl ⟨rfl, rfl⟩ h (fun v h2 hq => ?_)
    clear h
    obtain ⟨r4, I1, L2, c3, rfl, rfl, h⟩ := hq
    obtain ⟨rfl, h⟩ := h
    show Z_Rd_isWord_1000 g Q 45 [(0, .ref 6), (1, .ref 1000), (2, .int x2)] [.int r4] I1 L2 (w, a, (some 1))
    refine gx_aload_n 1 dX5_isWord_45 rfl rfl ?_
    refine gx_iload_n 2 dX5_isWord_46 rfl rfl ?_
    obtain ⟨hi, h⟩ := h
    refine gx_char 0 dX5_isWord_47 ml_X5_152 rfl rfl rfl rfl rfl hi ?_
    show Z_Rd_isWord_1000 g Q 50 [(0, .ref 6), (1, .ref 1000), (2, .int x2)] [.int (gm_ch 0 (Int32.toNatClampNeg x2)), .int r4] I1 L2 (w, a, (some 1))
    refine gx_icmp_eq 55 dX5_isWord_50 (by decide) ⟨fun z => ?_, fun z => ?_⟩
    · replace h := h.1 z
      refine gx_iinc (v := (x2 + 1)) (lv' := [(0, .ref 6), (1, .ref 1000), (2, .int (x2 + 1))]) 2 dX5_isWord_55 rfl rfl rfl rfl ?_
      refine gx_goto 27 dX5_isWord_58 (by decide) ?_
      exact h
    · replace h := h.2 z
      refine gx_iconst (v := 0) dX5_isWord_53 (by decide) ?_
      exact gx_zret .boolean dX5_isWord_54 rfl rfl rfl rfl ⟨false, _, _, _, rfl, rfl, h⟩
abbrev Z_Rd_takeWord_1000 (g : gm_G) (Q : Bool → mI → mL → gm_cfg → Prop) (pc : Nat) (lv : List (Nat × Value)) (st : List Value) (I : mI) (L : mL) (c : gm_cfg) : Prop := gm_X g RX5 "takeWord" cX5_takeWord 2 (some .boolean) 6 0 0 (qZ Q) 0 0 pc lv st (SH, I, L, RR c)
abbrev C_Rd_takeWord_1000 (g : gm_G) (I : mI) (L : mL) (c : gm_cfg) (Q : Bool → mI → mL → gm_cfg → Prop) : Prop := gm_Met g yX5_takeWord cX5_takeWord 2 (some .boolean) 6 0 0 [.ref 6, .ref 1000] (SH, I, L, RR c) (qZ Q)
set_option maxRecDepth 100000 in
theorem e_Rd_takeWord_1000 {g : gm_G} {Q : Bool → mI → mL → gm_cfg → Prop} {I : mI} {L : mL} {w a : Option Nat} (h : (C_Rd_isWord_1000 g I L (w, a, (some 1)) (fun b4 I1 L2 c3 => c3 = (w, a, (some 1)) ∧ ((b4 = false → Q false I1 L2 (w, a, (some 1))) ∧ (b4 = true → (C_Rd_next g I1 L2 (w, a, (some 1)) (fun I5 L6 c7 => c7 = (w, a, (some 1)) ∧ Q true I5 L6 (w, a, (some 1))))))))) : C_Rd_takeWord_1000 g  I L (w, a, (some 1)) Q := by
  refine gm_enter (lv := [(0, .ref 6), (1, .ref 1000)]) (by decide) rfl rfl rfl rfl ?_
  show Z_Rd_takeWord_1000 g Q 0 [(0, .ref 6), (1, .ref 1000)] [] I L (w, a, (some 1))
  refine gx_aload_n 0 dX5_takeWord_0 rfl rfl ?_
  refine gx_aload_n 1 dX5_takeWord_1 rfl rfl ?_
  refine gx_callV 5 (As := [.ref 1000]) (st := []) dX5_takeWord_2 ml_X5_72 mm_X5_isWord rfl rfl rfl rfl rfl rfl ⟨rfl, rfl⟩ h (fun v h2 hq => ?_)
  clear h
  obtain ⟨b4, I1, L2, c3, rfl, rfl, h⟩ := hq
  obtain ⟨rfl, h⟩ := h
  show Z_Rd_takeWord_1000 g Q 5 [(0, .ref 6), (1, .ref 1000)] [.int (gm_b b4)] I1 L2 (w, a, (some 1))
  refine gx_if_ne 10 dX5_takeWord_5 (by decide) ⟨fun z => ?_, fun z => ?_⟩
  · replace h := h.1 (gm_b0.mp z)
    refine gx_iconst (v := 0) dX5_takeWord_8 (by decide) ?_
    exact gx_zret .boolean dX5_takeWord_9 rfl rfl rfl rfl ⟨false, _, _, _, rfl, rfl, h⟩
  · replace h := h.2 (gm_bn0 z)
    refine gx_aload_n 0 dX5_takeWord_10 rfl rfl ?_
    refine gx_callV 5 (As := []) (st := []) dX5_takeWord_11 ml_X5_39 mm_X5_next rfl rfl rfl rfl rfl rfl ⟨rfl, rfl⟩ h (fun v h2 hq => ?_)
    clear h
    obtain ⟨I5, L6, c7, rfl, rfl, h⟩ := hq
    obtain ⟨rfl, h⟩ := h
    show Z_Rd_takeWord_1000 g Q 14 [(0, .ref 6), (1, .ref 1000)] [] I5 L6 (w, a, (some 1))
    refine gx_iconst (v := 1) dX5_takeWord_14 (by decide) ?_
    exact gx_zret .boolean dX5_takeWord_15 rfl rfl rfl rfl ⟨true, _, _, _, rfl, rfl, h⟩
abbrev Z_Rd_isWord_1001 (g : gm_G) (Q : Bool → mI → mL → gm_cfg → Prop) (pc : Nat) (lv : List (Nat × Value)) (st : List Value) (I : mI) (L : mL) (c : gm_cfg) : Prop := gm_X g RX5 "isWord" cX5_isWord 3 (some .boolean) 5 0 0 (qZ Q) 0 0 pc lv st (SH, I, L, RR c)
abbrev C_Rd_isWord_1001 (g : gm_G) (I : mI) (L : mL) (c : gm_cfg) (Q : Bool → mI → mL → gm_cfg → Prop) : Prop := gm_Met g yX5_isWord cX5_isWord 3 (some .boolean) 5 0 0 [.ref 6, .ref 1001] (SH, I, L, RR c) (qZ Q)
set_option maxRecDepth 100000 in
theorem e_Rd_isWord_1001 {g : gm_G} {Q : Bool → mI → mL → gm_cfg → Prop} {I : mI} {L : mL} {w a : Option Nat} (h : (((I 6 4) = 0 → ((((I 6 6) - (I 6 5)) = 5 → Z_Rd_isWord_1001 g Q 27 [(0, .ref 6), (1, .ref 1001), (2, .int 0)] [] I L (w, a, (some 1))) ∧ (¬ ((I 6 6) - (I 6 5)) = 5 → Q false I L (w, a, (some 1))))) ∧ (¬ (I 6 4) = 0 → Q false I L (w, a, (some 1))))) : C_Rd_isWord_1001 g  I L (w, a, (some 1)) Q := by
  refine gm_enter (lv := [(0, .ref 6), (1, .ref 1001)]) (by decide) rfl rfl rfl rfl ?_
  show Z_Rd_isWord_1001 g Q 0 [(0, .ref 6), (1, .ref 1001)] [] I L (w, a, (some 1))
  refine gx_aload_n 0 dX5_isWord_0 rfl rfl ?_
  refine gx_geti 5 4 (v := (I 6 4)) dX5_isWord_1 fl_X5_42 rfl rfl rfl ?_
  refine gx_if_ne 23 dX5_isWord_4 (by decide) ⟨fun z => ?_, fun z => ?_⟩
  · replace h := h.1 z
    refine gx_aload_n 0 dX5_isWord_7 rfl rfl ?_
    refine gx_geti 5 6 (v := (I 6 6)) dX5_isWord_8 fl_X5_28 rfl rfl rfl ?_
    refine gx_aload_n 0 dX5_isWord_11 rfl rfl ?_
    refine gx_geti 5 5 (v := (I 6 5)) dX5_isWord_12 fl_X5_140 rfl rfl rfl ?_
    refine gx_isub dX5_isWord_15 ?_
    refine gx_aload_n 1 dX5_isWord_16 rfl rfl ?_
    refine gx_slen 1 dX5_isWord_17 ml_X5_143 rfl rfl rfl rfl rfl ?_
    show Z_Rd_isWord_1001 g Q 20 [(0, .ref 6), (1, .ref 1001)] [.int 5, .int ((I 6 6) - (I 6 5))] I L (w, a, (some 1))
    refine gx_icmp_eq 25 dX5_isWord_20 (by decide) ⟨fun z => ?_, fun z => ?_⟩
    · replace h := h.1 z
      refine gx_iconst (v := 0) dX5_isWord_25 (by decide) ?_
      refine gx_istore_n (lv' := [(0, .ref 6), (1, .ref 1001), (2, .int 0)]) dX5_isWord_26 rfl rfl rfl ?_
      exact h
    · replace h := h.2 z
      refine gx_iconst (v := 0) dX5_isWord_23 (by decide) ?_
      exact gx_zret .boolean dX5_isWord_24 rfl rfl rfl rfl ⟨false, _, _, _, rfl, rfl, h⟩
  · replace h := h.2 z
    refine gx_iconst (v := 0) dX5_isWord_23 (by decide) ?_
    exact gx_zret .boolean dX5_isWord_24 rfl rfl rfl rfl ⟨false, _, _, _, rfl, rfl, h⟩
set_option maxRecDepth 100000 in
theorem r_Rd_isWord_1001_27 {g : gm_G} {Q : Bool → mI → mL → gm_cfg → Prop} {x2 : Int32} {I : mI} {L : mL} {w a : Option Nat} (h : ((5 ≤ x2 → Q true I L (w, a, (some 1))) ∧ (¬ 5 ≤ x2 → (C_Rd_byteAt g ((I 6 5) + x2) I L (w, a, (some 1)) (fun r4 I1 L2 c3 => c3 = (w, a, (some 1)) ∧ (vp_in x2 5 ∧ ((r4 = (gm_ch 1 (Int32.toNatClampNeg x2)) → Z_Rd_isWord_1001 g Q 27 [(0, .ref 6), (1, .ref 1001), (2, .int (x2 + 1))] [] I1 L2 (w, a, (some 1))) ∧ (¬ r4 = (gm_ch 1 (Int32.toNatClampNeg x2)) → Q false I1 L2 (w, a, (some 1)))))))))) : Z_Rd_isWord_1001 g Q 27 [(0, .ref 6), (1, .ref 1001), (2, .int x2)] [] I L (w, a, (some 1)) := by
  refine gx_iload_n 2 dX5_isWord_27 rfl rfl ?_
  refine gx_aload_n 1 dX5_isWord_28 rfl rfl ?_
  refine gx_slen 1 dX5_isWord_29 ml_X5_143 rfl rfl rfl rfl rfl ?_
  show Z_Rd_isWord_1001 g Q 32 [(0, .ref 6), (1, .ref 1001), (2, .int x2)] [.int 5, .int x2] I L (w, a, (some 1))
  refine gx_icmp_ge 61 dX5_isWord_32 (by decide) ⟨fun z => ?_, fun z => ?_⟩
  · replace h := h.1 z
    refine gx_iconst (v := 1) dX5_isWord_61 (by decide) ?_
    exact gx_zret .boolean dX5_isWord_62 rfl rfl rfl rfl ⟨true, _, _, _, rfl, rfl, h⟩
  · replace h := h.2 z
    refine gx_aload_n 0 dX5_isWord_35 rfl rfl ?_
    refine gx_aload_n 0 dX5_isWord_36 rfl rfl ?_
    refine gx_geti 5 5 (v := (I 6 5)) dX5_isWord_37 fl_X5_140 rfl rfl rfl ?_
    refine gx_iload_n 2 dX5_isWord_40 rfl rfl ?_
    refine gx_iadd dX5_isWord_41 ?_
    refine gx_callV 5 (As := [.int ((I 6 5) + x2)]) (st := []) dX5_isWord_42 ml_X5_148 mm_X5_byteAt rfl rfl rfl rfl rfl rfl ⟨rfl, rfl⟩ h (fun v h2 hq => ?_)
    clear h
    obtain ⟨r4, I1, L2, c3, rfl, rfl, h⟩ := hq
    obtain ⟨rfl, h⟩ := h
    show Z_Rd_isWord_1001 g Q 45 [(0, .ref 6), (1, .ref 1001), (2, .int x2)] [.int r4] I1 L2 (w, a, (some 1))
    refine gx_aload_n 1 dX5_isWord_45 rfl rfl ?_
    refine gx_iload_n 2 dX5_isWord_46 rfl rfl ?_
    obtain ⟨hi, h⟩ := h
    refine gx_char 1 dX5_isWord_47 ml_X5_152 rfl rfl rfl rfl rfl hi ?_
    show Z_Rd_isWord_1001 g Q 50 [(0, .ref 6), (1, .ref 1001), (2, .int x2)] [.int (gm_ch 1 (Int32.toNatClampNeg x2)), .int r4] I1 L2 (w, a, (some 1))
    refine gx_icmp_eq 55 dX5_isWord_50 (by decide) ⟨fun z => ?_, fun z => ?_⟩
    · replace h := h.1 z
      refine gx_iinc (v := (x2 + 1)) (lv' := [(0, .ref 6), (1, .ref 1001), (2, .int (x2 + 1))]) 2 dX5_isWord_55 rfl rfl rfl rfl ?_
      refine gx_goto 27 dX5_isWord_58 (by decide) ?_
      exact h
    · replace h := h.2 z
      refine gx_iconst (v := 0) dX5_isWord_53 (by decide) ?_
      exact gx_zret .boolean dX5_isWord_54 rfl rfl rfl rfl ⟨false, _, _, _, rfl, rfl, h⟩
abbrev Z_Rd_takeWord_1001 (g : gm_G) (Q : Bool → mI → mL → gm_cfg → Prop) (pc : Nat) (lv : List (Nat × Value)) (st : List Value) (I : mI) (L : mL) (c : gm_cfg) : Prop := gm_X g RX5 "takeWord" cX5_takeWord 2 (some .boolean) 6 0 0 (qZ Q) 0 0 pc lv st (SH, I, L, RR c)
abbrev C_Rd_takeWord_1001 (g : gm_G) (I : mI) (L : mL) (c : gm_cfg) (Q : Bool → mI → mL → gm_cfg → Prop) : Prop := gm_Met g yX5_takeWord cX5_takeWord 2 (some .boolean) 6 0 0 [.ref 6, .ref 1001] (SH, I, L, RR c) (qZ Q)
set_option maxRecDepth 100000 in
theorem e_Rd_takeWord_1001 {g : gm_G} {Q : Bool → mI → mL → gm_cfg → Prop} {I : mI} {L : mL} {w a : Option Nat} (h : (C_Rd_isWord_1001 g I L (w, a, (some 1)) (fun b4 I1 L2 c3 => c3 = (w, a, (some 1)) ∧ ((b4 = false → Q false I1 L2 (w, a, (some 1))) ∧ (b4 = true → (C_Rd_next g I1 L2 (w, a, (some 1)) (fun I5 L6 c7 => c7 = (w, a, (some 1)) ∧ Q true I5 L6 (w, a, (some 1))))))))) : C_Rd_takeWord_1001 g  I L (w, a, (some 1)) Q := by
  refine gm_enter (lv := [(0, .ref 6), (1, .ref 1001)]) (by decide) rfl rfl rfl rfl ?_
  show Z_Rd_takeWord_1001 g Q 0 [(0, .ref 6), (1, .ref 1001)] [] I L (w, a, (some 1))
  refine gx_aload_n 0 dX5_takeWord_0 rfl rfl ?_
  refine gx_aload_n 1 dX5_takeWord_1 rfl rfl ?_
  refine gx_callV 5 (As := [.ref 1001]) (st := []) dX5_takeWord_2 ml_X5_72 mm_X5_isWord rfl rfl rfl rfl rfl rfl ⟨rfl, rfl⟩ h (fun v h2 hq => ?_)
  clear h
  obtain ⟨b4, I1, L2, c3, rfl, rfl, h⟩ := hq
  obtain ⟨rfl, h⟩ := h
  show Z_Rd_takeWord_1001 g Q 5 [(0, .ref 6), (1, .ref 1001)] [.int (gm_b b4)] I1 L2 (w, a, (some 1))
  refine gx_if_ne 10 dX5_takeWord_5 (by decide) ⟨fun z => ?_, fun z => ?_⟩
  · replace h := h.1 (gm_b0.mp z)
    refine gx_iconst (v := 0) dX5_takeWord_8 (by decide) ?_
    exact gx_zret .boolean dX5_takeWord_9 rfl rfl rfl rfl ⟨false, _, _, _, rfl, rfl, h⟩
  · replace h := h.2 (gm_bn0 z)
    refine gx_aload_n 0 dX5_takeWord_10 rfl rfl ?_
    refine gx_callV 5 (As := []) (st := []) dX5_takeWord_11 ml_X5_39 mm_X5_next rfl rfl rfl rfl rfl rfl ⟨rfl, rfl⟩ h (fun v h2 hq => ?_)
    clear h
    obtain ⟨I5, L6, c7, rfl, rfl, h⟩ := hq
    obtain ⟨rfl, h⟩ := h
    show Z_Rd_takeWord_1001 g Q 14 [(0, .ref 6), (1, .ref 1001)] [] I5 L6 (w, a, (some 1))
    refine gx_iconst (v := 1) dX5_takeWord_14 (by decide) ?_
    exact gx_zret .boolean dX5_takeWord_15 rfl rfl rfl rfl ⟨true, _, _, _, rfl, rfl, h⟩
abbrev Z_Rd_isWord_1002 (g : gm_G) (Q : Bool → mI → mL → gm_cfg → Prop) (pc : Nat) (lv : List (Nat × Value)) (st : List Value) (I : mI) (L : mL) (c : gm_cfg) : Prop := gm_X g RX5 "isWord" cX5_isWord 3 (some .boolean) 5 0 0 (qZ Q) 0 0 pc lv st (SH, I, L, RR c)
abbrev C_Rd_isWord_1002 (g : gm_G) (I : mI) (L : mL) (c : gm_cfg) (Q : Bool → mI → mL → gm_cfg → Prop) : Prop := gm_Met g yX5_isWord cX5_isWord 3 (some .boolean) 5 0 0 [.ref 6, .ref 1002] (SH, I, L, RR c) (qZ Q)
set_option maxRecDepth 100000 in
theorem e_Rd_isWord_1002 {g : gm_G} {Q : Bool → mI → mL → gm_cfg → Prop} {I : mI} {L : mL} {w a : Option Nat} (h : (((I 6 4) = 0 → ((((I 6 6) - (I 6 5)) = 7 → Z_Rd_isWord_1002 g Q 27 [(0, .ref 6), (1, .ref 1002), (2, .int 0)] [] I L (w, a, (some 1))) ∧ (¬ ((I 6 6) - (I 6 5)) = 7 → Q false I L (w, a, (some 1))))) ∧ (¬ (I 6 4) = 0 → Q false I L (w, a, (some 1))))) : C_Rd_isWord_1002 g  I L (w, a, (some 1)) Q := by
  refine gm_enter (lv := [(0, .ref 6), (1, .ref 1002)]) (by decide) rfl rfl rfl rfl ?_
  show Z_Rd_isWord_1002 g Q 0 [(0, .ref 6), (1, .ref 1002)] [] I L (w, a, (some 1))
  refine gx_aload_n 0 dX5_isWord_0 rfl rfl ?_
  refine gx_geti 5 4 (v := (I 6 4)) dX5_isWord_1 fl_X5_42 rfl rfl rfl ?_
  refine gx_if_ne 23 dX5_isWord_4 (by decide) ⟨fun z => ?_, fun z => ?_⟩
  · replace h := h.1 z
    refine gx_aload_n 0 dX5_isWord_7 rfl rfl ?_
    refine gx_geti 5 6 (v := (I 6 6)) dX5_isWord_8 fl_X5_28 rfl rfl rfl ?_
    refine gx_aload_n 0 dX5_isWord_11 rfl rfl ?_
    refine gx_geti 5 5 (v := (I 6 5)) dX5_isWord_12 fl_X5_140 rfl rfl rfl ?_
    refine gx_isub dX5_isWord_15 ?_
    refine gx_aload_n 1 dX5_isWord_16 rfl rfl ?_
    refine gx_slen 2 dX5_isWord_17 ml_X5_143 rfl rfl rfl rfl rfl ?_
    show Z_Rd_isWord_1002 g Q 20 [(0, .ref 6), (1, .ref 1002)] [.int 7, .int ((I 6 6) - (I 6 5))] I L (w, a, (some 1))
    refine gx_icmp_eq 25 dX5_isWord_20 (by decide) ⟨fun z => ?_, fun z => ?_⟩
    · replace h := h.1 z
      refine gx_iconst (v := 0) dX5_isWord_25 (by decide) ?_
      refine gx_istore_n (lv' := [(0, .ref 6), (1, .ref 1002), (2, .int 0)]) dX5_isWord_26 rfl rfl rfl ?_
      exact h
    · replace h := h.2 z
      refine gx_iconst (v := 0) dX5_isWord_23 (by decide) ?_
      exact gx_zret .boolean dX5_isWord_24 rfl rfl rfl rfl ⟨false, _, _, _, rfl, rfl, h⟩
  · replace h := h.2 z
    refine gx_iconst (v := 0) dX5_isWord_23 (by decide) ?_
    exact gx_zret .boolean dX5_isWord_24 rfl rfl rfl rfl ⟨false, _, _, _, rfl, rfl, h⟩
set_option maxRecDepth 100000 in
theorem r_Rd_isWord_1002_27 {g : gm_G} {Q : Bool → mI → mL → gm_cfg → Prop} {x2 : Int32} {I : mI} {L : mL} {w a : Option Nat} (h : ((7 ≤ x2 → Q true I L (w, a, (some 1))) ∧ (¬ 7 ≤ x2 → (C_Rd_byteAt g ((I 6 5) + x2) I L (w, a, (some 1)) (fun r4 I1 L2 c3 => c3 = (w, a, (some 1)) ∧ (vp_in x2 7 ∧ ((r4 = (gm_ch 2 (Int32.toNatClampNeg x2)) → Z_Rd_isWord_1002 g Q 27 [(0, .ref 6), (1, .ref 1002), (2, .int (x2 + 1))] [] I1 L2 (w, a, (some 1))) ∧ (¬ r4 = (gm_ch 2 (Int32.toNatClampNeg x2)) → Q false I1 L2 (w, a, (some 1)))))))))) : Z_Rd_isWord_1002 g Q 27 [(0, .ref 6), (1, .ref 1002), (2, .int x2)] [] I L (w, a, (some 1)) := by
  refine gx_iload_n 2 dX5_isWord_27 rfl rfl ?_
  refine gx_aload_n 1 dX5_isWord_28 rfl rfl ?_
  refine gx_slen 2 dX5_isWord_29 ml_X5_143 rfl rfl rfl rfl rfl ?_
  show Z_Rd_isWord_1002 g Q 32 [(0, .ref 6), (1, .ref 1002), (2, .int x2)] [.int 7, .int x2] I L (w, a, (some 1))
  refine gx_icmp_ge 61 dX5_isWord_32 (by decide) ⟨fun z => ?_, fun z => ?_⟩
  · replace h := h.1 z
    refine gx_iconst (v := 1) dX5_isWord_61 (by decide) ?_
    exact gx_zret .boolean dX5_isWord_62 rfl rfl rfl rfl ⟨true, _, _, _, rfl, rfl, h⟩
  · replace h := h.2 z
    refine gx_aload_n 0 dX5_isWord_35 rfl rfl ?_
    refine gx_aload_n 0 dX5_isWord_36 rfl rfl ?_
    refine gx_geti 5 5 (v := (I 6 5)) dX5_isWord_37 fl_X5_140 rfl rfl rfl ?_
    refine gx_iload_n 2 dX5_isWord_40 rfl rfl ?_
    refine gx_iadd dX5_isWord_41 ?_
    refine gx_callV 5 (As := [.int ((I 6 5) + x2)]) (st := []) dX5_isWord_42 ml_X5_148 mm_X5_byteAt rfl rfl rfl rfl rfl rfl ⟨rfl, rfl⟩ h (fun v h2 hq => ?_)
    clear h
    obtain ⟨r4, I1, L2, c3, rfl, rfl, h⟩ := hq
    obtain ⟨rfl, h⟩ := h
    show Z_Rd_isWord_1002 g Q 45 [(0, .ref 6), (1, .ref 1002), (2, .int x2)] [.int r4] I1 L2 (w, a, (some 1))
    refine gx_aload_n 1 dX5_isWord_45 rfl rfl ?_
    refine gx_iload_n 2 dX5_isWord_46 rfl rfl ?_
    obtain ⟨hi, h⟩ := h
    refine gx_char 2 dX5_isWord_47 ml_X5_152 rfl rfl rfl rfl rfl hi ?_
    show Z_Rd_isWord_1002 g Q 50 [(0, .ref 6), (1, .ref 1002), (2, .int x2)] [.int (gm_ch 2 (Int32.toNatClampNeg x2)), .int r4] I1 L2 (w, a, (some 1))
    refine gx_icmp_eq 55 dX5_isWord_50 (by decide) ⟨fun z => ?_, fun z => ?_⟩
    · replace h := h.1 z
      refine gx_iinc (v := (x2 + 1)) (lv' := [(0, .ref 6), (1, .ref 1002), (2, .int (x2 + 1))]) 2 dX5_isWord_55 rfl rfl rfl rfl ?_
      refine gx_goto 27 dX5_isWord_58 (by decide) ?_
      exact h
    · replace h := h.2 z
      refine gx_iconst (v := 0) dX5_isWord_53 (by decide) ?_
      exact gx_zret .boolean dX5_isWord_54 rfl rfl rfl rfl ⟨false, _, _, _, rfl, rfl, h⟩
abbrev Z_Rd_isWord_1004 (g : gm_G) (Q : Bool → mI → mL → gm_cfg → Prop) (pc : Nat) (lv : List (Nat × Value)) (st : List Value) (I : mI) (L : mL) (c : gm_cfg) : Prop := gm_X g RX5 "isWord" cX5_isWord 3 (some .boolean) 5 0 0 (qZ Q) 0 0 pc lv st (SH, I, L, RR c)
abbrev C_Rd_isWord_1004 (g : gm_G) (I : mI) (L : mL) (c : gm_cfg) (Q : Bool → mI → mL → gm_cfg → Prop) : Prop := gm_Met g yX5_isWord cX5_isWord 3 (some .boolean) 5 0 0 [.ref 6, .ref 1004] (SH, I, L, RR c) (qZ Q)
set_option maxRecDepth 100000 in
theorem e_Rd_isWord_1004 {g : gm_G} {Q : Bool → mI → mL → gm_cfg → Prop} {I : mI} {L : mL} {w a : Option Nat} (h : (((I 6 4) = 0 → ((((I 6 6) - (I 6 5)) = 6 → Z_Rd_isWord_1004 g Q 27 [(0, .ref 6), (1, .ref 1004), (2, .int 0)] [] I L (w, a, (some 1))) ∧ (¬ ((I 6 6) - (I 6 5)) = 6 → Q false I L (w, a, (some 1))))) ∧ (¬ (I 6 4) = 0 → Q false I L (w, a, (some 1))))) : C_Rd_isWord_1004 g  I L (w, a, (some 1)) Q := by
  refine gm_enter (lv := [(0, .ref 6), (1, .ref 1004)]) (by decide) rfl rfl rfl rfl ?_
  show Z_Rd_isWord_1004 g Q 0 [(0, .ref 6), (1, .ref 1004)] [] I L (w, a, (some 1))
  refine gx_aload_n 0 dX5_isWord_0 rfl rfl ?_
  refine gx_geti 5 4 (v := (I 6 4)) dX5_isWord_1 fl_X5_42 rfl rfl rfl ?_
  refine gx_if_ne 23 dX5_isWord_4 (by decide) ⟨fun z => ?_, fun z => ?_⟩
  · replace h := h.1 z
    refine gx_aload_n 0 dX5_isWord_7 rfl rfl ?_
    refine gx_geti 5 6 (v := (I 6 6)) dX5_isWord_8 fl_X5_28 rfl rfl rfl ?_
    refine gx_aload_n 0 dX5_isWord_11 rfl rfl ?_
    refine gx_geti 5 5 (v := (I 6 5)) dX5_isWord_12 fl_X5_140 rfl rfl rfl ?_
    refine gx_isub dX5_isWord_15 ?_
    refine gx_aload_n 1 dX5_isWord_16 rfl rfl ?_
    refine gx_slen 4 dX5_isWord_17 ml_X5_143 rfl rfl rfl rfl rfl ?_
    show Z_Rd_isWord_1004 g Q 20 [(0, .ref 6), (1, .ref 1004)] [.int 6, .int ((I 6 6) - (I 6 5))] I L (w, a, (some 1))
    refine gx_icmp_eq 25 dX5_isWord_20 (by decide) ⟨fun z => ?_, fun z => ?_⟩
    · replace h := h.1 z
      refine gx_iconst (v := 0) dX5_isWord_25 (by decide) ?_
      refine gx_istore_n (lv' := [(0, .ref 6), (1, .ref 1004), (2, .int 0)]) dX5_isWord_26 rfl rfl rfl ?_
      exact h
    · replace h := h.2 z
      refine gx_iconst (v := 0) dX5_isWord_23 (by decide) ?_
      exact gx_zret .boolean dX5_isWord_24 rfl rfl rfl rfl ⟨false, _, _, _, rfl, rfl, h⟩
  · replace h := h.2 z
    refine gx_iconst (v := 0) dX5_isWord_23 (by decide) ?_
    exact gx_zret .boolean dX5_isWord_24 rfl rfl rfl rfl ⟨false, _, _, _, rfl, rfl, h⟩
set_option maxRecDepth 100000 in
theorem r_Rd_isWord_1004_27 {g : gm_G} {Q : Bool → mI → mL → gm_cfg → Prop} {x2 : Int32} {I : mI} {L : mL} {w a : Option Nat} (h : ((6 ≤ x2 → Q true I L (w, a, (some 1))) ∧ (¬ 6 ≤ x2 → (C_Rd_byteAt g ((I 6 5) + x2) I L (w, a, (some 1)) (fun r4 I1 L2 c3 => c3 = (w, a, (some 1)) ∧ (vp_in x2 6 ∧ ((r4 = (gm_ch 4 (Int32.toNatClampNeg x2)) → Z_Rd_isWord_1004 g Q 27 [(0, .ref 6), (1, .ref 1004), (2, .int (x2 + 1))] [] I1 L2 (w, a, (some 1))) ∧ (¬ r4 = (gm_ch 4 (Int32.toNatClampNeg x2)) → Q false I1 L2 (w, a, (some 1)))))))))) : Z_Rd_isWord_1004 g Q 27 [(0, .ref 6), (1, .ref 1004), (2, .int x2)] [] I L (w, a, (some 1)) := by
  refine gx_iload_n 2 dX5_isWord_27 rfl rfl ?_
  refine gx_aload_n 1 dX5_isWord_28 rfl rfl ?_
  refine gx_slen 4 dX5_isWord_29 ml_X5_143 rfl rfl rfl rfl rfl ?_
  show Z_Rd_isWord_1004 g Q 32 [(0, .ref 6), (1, .ref 1004), (2, .int x2)] [.int 6, .int x2] I L (w, a, (some 1))
  refine gx_icmp_ge 61 dX5_isWord_32 (by decide) ⟨fun z => ?_, fun z => ?_⟩
  · replace h := h.1 z
    refine gx_iconst (v := 1) dX5_isWord_61 (by decide) ?_
    exact gx_zret .boolean dX5_isWord_62 rfl rfl rfl rfl ⟨true, _, _, _, rfl, rfl, h⟩
  · replace h := h.2 z
    refine gx_aload_n 0 dX5_isWord_35 rfl rfl ?_
    refine gx_aload_n 0 dX5_isWord_36 rfl rfl ?_
    refine gx_geti 5 5 (v := (I 6 5)) dX5_isWord_37 fl_X5_140 rfl rfl rfl ?_
    refine gx_iload_n 2 dX5_isWord_40 rfl rfl ?_
    refine gx_iadd dX5_isWord_41 ?_
    refine gx_callV 5 (As := [.int ((I 6 5) + x2)]) (st := []) dX5_isWord_42 ml_X5_148 mm_X5_byteAt rfl rfl rfl rfl rfl rfl ⟨rfl, rfl⟩ h (fun v h2 hq => ?_)
    clear h
    obtain ⟨r4, I1, L2, c3, rfl, rfl, h⟩ := hq
    obtain ⟨rfl, h⟩ := h
    show Z_Rd_isWord_1004 g Q 45 [(0, .ref 6), (1, .ref 1004), (2, .int x2)] [.int r4] I1 L2 (w, a, (some 1))
    refine gx_aload_n 1 dX5_isWord_45 rfl rfl ?_
    refine gx_iload_n 2 dX5_isWord_46 rfl rfl ?_
    obtain ⟨hi, h⟩ := h
    refine gx_char 4 dX5_isWord_47 ml_X5_152 rfl rfl rfl rfl rfl hi ?_
    show Z_Rd_isWord_1004 g Q 50 [(0, .ref 6), (1, .ref 1004), (2, .int x2)] [.int (gm_ch 4 (Int32.toNatClampNeg x2)), .int r4] I1 L2 (w, a, (some 1))
    refine gx_icmp_eq 55 dX5_isWord_50 (by decide) ⟨fun z => ?_, fun z => ?_⟩
    · replace h := h.1 z
      refine gx_iinc (v := (x2 + 1)) (lv' := [(0, .ref 6), (1, .ref 1004), (2, .int (x2 + 1))]) 2 dX5_isWord_55 rfl rfl rfl rfl ?_
      refine gx_goto 27 dX5_isWord_58 (by decide) ?_
      exact h
    · replace h := h.2 z
      refine gx_iconst (v := 0) dX5_isWord_53 (by decide) ?_
      exact gx_zret .boolean dX5_isWord_54 rfl rfl rfl rfl ⟨false, _, _, _, rfl, rfl, h⟩
abbrev Z_Rd_takeWord_1004 (g : gm_G) (Q : Bool → mI → mL → gm_cfg → Prop) (pc : Nat) (lv : List (Nat × Value)) (st : List Value) (I : mI) (L : mL) (c : gm_cfg) : Prop := gm_X g RX5 "takeWord" cX5_takeWord 2 (some .boolean) 6 0 0 (qZ Q) 0 0 pc lv st (SH, I, L, RR c)
abbrev C_Rd_takeWord_1004 (g : gm_G) (I : mI) (L : mL) (c : gm_cfg) (Q : Bool → mI → mL → gm_cfg → Prop) : Prop := gm_Met g yX5_takeWord cX5_takeWord 2 (some .boolean) 6 0 0 [.ref 6, .ref 1004] (SH, I, L, RR c) (qZ Q)
set_option maxRecDepth 100000 in
theorem e_Rd_takeWord_1004 {g : gm_G} {Q : Bool → mI → mL → gm_cfg → Prop} {I : mI} {L : mL} {w a : Option Nat} (h : (C_Rd_isWord_1004 g I L (w, a, (some 1)) (fun b4 I1 L2 c3 => c3 = (w, a, (some 1)) ∧ ((b4 = false → Q false I1 L2 (w, a, (some 1))) ∧ (b4 = true → (C_Rd_next g I1 L2 (w, a, (some 1)) (fun I5 L6 c7 => c7 = (w, a, (some 1)) ∧ Q true I5 L6 (w, a, (some 1))))))))) : C_Rd_takeWord_1004 g  I L (w, a, (some 1)) Q := by
  refine gm_enter (lv := [(0, .ref 6), (1, .ref 1004)]) (by decide) rfl rfl rfl rfl ?_
  show Z_Rd_takeWord_1004 g Q 0 [(0, .ref 6), (1, .ref 1004)] [] I L (w, a, (some 1))
  refine gx_aload_n 0 dX5_takeWord_0 rfl rfl ?_
  refine gx_aload_n 1 dX5_takeWord_1 rfl rfl ?_
  refine gx_callV 5 (As := [.ref 1004]) (st := []) dX5_takeWord_2 ml_X5_72 mm_X5_isWord rfl rfl rfl rfl rfl rfl ⟨rfl, rfl⟩ h (fun v h2 hq => ?_)
  clear h
  obtain ⟨b4, I1, L2, c3, rfl, rfl, h⟩ := hq
  obtain ⟨rfl, h⟩ := h
  show Z_Rd_takeWord_1004 g Q 5 [(0, .ref 6), (1, .ref 1004)] [.int (gm_b b4)] I1 L2 (w, a, (some 1))
  refine gx_if_ne 10 dX5_takeWord_5 (by decide) ⟨fun z => ?_, fun z => ?_⟩
  · replace h := h.1 (gm_b0.mp z)
    refine gx_iconst (v := 0) dX5_takeWord_8 (by decide) ?_
    exact gx_zret .boolean dX5_takeWord_9 rfl rfl rfl rfl ⟨false, _, _, _, rfl, rfl, h⟩
  · replace h := h.2 (gm_bn0 z)
    refine gx_aload_n 0 dX5_takeWord_10 rfl rfl ?_
    refine gx_callV 5 (As := []) (st := []) dX5_takeWord_11 ml_X5_39 mm_X5_next rfl rfl rfl rfl rfl rfl ⟨rfl, rfl⟩ h (fun v h2 hq => ?_)
    clear h
    obtain ⟨I5, L6, c7, rfl, rfl, h⟩ := hq
    obtain ⟨rfl, h⟩ := h
    show Z_Rd_takeWord_1004 g Q 14 [(0, .ref 6), (1, .ref 1004)] [] I5 L6 (w, a, (some 1))
    refine gx_iconst (v := 1) dX5_takeWord_14 (by decide) ?_
    exact gx_zret .boolean dX5_takeWord_15 rfl rfl rfl rfl ⟨true, _, _, _, rfl, rfl, h⟩
abbrev Z_Rd_isWord_1005 (g : gm_G) (Q : Bool → mI → mL → gm_cfg → Prop) (pc : Nat) (lv : List (Nat × Value)) (st : List Value) (I : mI) (L : mL) (c : gm_cfg) : Prop := gm_X g RX5 "isWord" cX5_isWord 3 (some .boolean) 5 0 0 (qZ Q) 0 0 pc lv st (SH, I, L, RR c)
abbrev C_Rd_isWord_1005 (g : gm_G) (I : mI) (L : mL) (c : gm_cfg) (Q : Bool → mI → mL → gm_cfg → Prop) : Prop := gm_Met g yX5_isWord cX5_isWord 3 (some .boolean) 5 0 0 [.ref 6, .ref 1005] (SH, I, L, RR c) (qZ Q)
set_option maxRecDepth 100000 in
theorem e_Rd_isWord_1005 {g : gm_G} {Q : Bool → mI → mL → gm_cfg → Prop} {I : mI} {L : mL} {w a : Option Nat} (h : (((I 6 4) = 0 → ((((I 6 6) - (I 6 5)) = 5 → Z_Rd_isWord_1005 g Q 27 [(0, .ref 6), (1, .ref 1005), (2, .int 0)] [] I L (w, a, (some 1))) ∧ (¬ ((I 6 6) - (I 6 5)) = 5 → Q false I L (w, a, (some 1))))) ∧ (¬ (I 6 4) = 0 → Q false I L (w, a, (some 1))))) : C_Rd_isWord_1005 g  I L (w, a, (some 1)) Q := by
  refine gm_enter (lv := [(0, .ref 6), (1, .ref 1005)]) (by decide) rfl rfl rfl rfl ?_
  show Z_Rd_isWord_1005 g Q 0 [(0, .ref 6), (1, .ref 1005)] [] I L (w, a, (some 1))
  refine gx_aload_n 0 dX5_isWord_0 rfl rfl ?_
  refine gx_geti 5 4 (v := (I 6 4)) dX5_isWord_1 fl_X5_42 rfl rfl rfl ?_
  refine gx_if_ne 23 dX5_isWord_4 (by decide) ⟨fun z => ?_, fun z => ?_⟩
  · replace h := h.1 z
    refine gx_aload_n 0 dX5_isWord_7 rfl rfl ?_
    refine gx_geti 5 6 (v := (I 6 6)) dX5_isWord_8 fl_X5_28 rfl rfl rfl ?_
    refine gx_aload_n 0 dX5_isWord_11 rfl rfl ?_
    refine gx_geti 5 5 (v := (I 6 5)) dX5_isWord_12 fl_X5_140 rfl rfl rfl ?_
    refine gx_isub dX5_isWord_15 ?_
    refine gx_aload_n 1 dX5_isWord_16 rfl rfl ?_
    refine gx_slen 5 dX5_isWord_17 ml_X5_143 rfl rfl rfl rfl rfl ?_
    show Z_Rd_isWord_1005 g Q 20 [(0, .ref 6), (1, .ref 1005)] [.int 5, .int ((I 6 6) - (I 6 5))] I L (w, a, (some 1))
    refine gx_icmp_eq 25 dX5_isWord_20 (by decide) ⟨fun z => ?_, fun z => ?_⟩
    · replace h := h.1 z
      refine gx_iconst (v := 0) dX5_isWord_25 (by decide) ?_
      refine gx_istore_n (lv' := [(0, .ref 6), (1, .ref 1005), (2, .int 0)]) dX5_isWord_26 rfl rfl rfl ?_
      exact h
    · replace h := h.2 z
      refine gx_iconst (v := 0) dX5_isWord_23 (by decide) ?_
      exact gx_zret .boolean dX5_isWord_24 rfl rfl rfl rfl ⟨false, _, _, _, rfl, rfl, h⟩
  · replace h := h.2 z
    refine gx_iconst (v := 0) dX5_isWord_23 (by decide) ?_
    exact gx_zret .boolean dX5_isWord_24 rfl rfl rfl rfl ⟨false, _, _, _, rfl, rfl, h⟩
set_option maxRecDepth 100000 in
theorem r_Rd_isWord_1005_27 {g : gm_G} {Q : Bool → mI → mL → gm_cfg → Prop} {x2 : Int32} {I : mI} {L : mL} {w a : Option Nat} (h : ((5 ≤ x2 → Q true I L (w, a, (some 1))) ∧ (¬ 5 ≤ x2 → (C_Rd_byteAt g ((I 6 5) + x2) I L (w, a, (some 1)) (fun r4 I1 L2 c3 => c3 = (w, a, (some 1)) ∧ (vp_in x2 5 ∧ ((r4 = (gm_ch 5 (Int32.toNatClampNeg x2)) → Z_Rd_isWord_1005 g Q 27 [(0, .ref 6), (1, .ref 1005), (2, .int (x2 + 1))] [] I1 L2 (w, a, (some 1))) ∧ (¬ r4 = (gm_ch 5 (Int32.toNatClampNeg x2)) → Q false I1 L2 (w, a, (some 1)))))))))) : Z_Rd_isWord_1005 g Q 27 [(0, .ref 6), (1, .ref 1005), (2, .int x2)] [] I L (w, a, (some 1)) := by
  refine gx_iload_n 2 dX5_isWord_27 rfl rfl ?_
  refine gx_aload_n 1 dX5_isWord_28 rfl rfl ?_
  refine gx_slen 5 dX5_isWord_29 ml_X5_143 rfl rfl rfl rfl rfl ?_
  show Z_Rd_isWord_1005 g Q 32 [(0, .ref 6), (1, .ref 1005), (2, .int x2)] [.int 5, .int x2] I L (w, a, (some 1))
  refine gx_icmp_ge 61 dX5_isWord_32 (by decide) ⟨fun z => ?_, fun z => ?_⟩
  · replace h := h.1 z
    refine gx_iconst (v := 1) dX5_isWord_61 (by decide) ?_
    exact gx_zret .boolean dX5_isWord_62 rfl rfl rfl rfl ⟨true, _, _, _, rfl, rfl, h⟩
  · replace h := h.2 z
    refine gx_aload_n 0 dX5_isWord_35 rfl rfl ?_
    refine gx_aload_n 0 dX5_isWord_36 rfl rfl ?_
    refine gx_geti 5 5 (v := (I 6 5)) dX5_isWord_37 fl_X5_140 rfl rfl rfl ?_
    refine gx_iload_n 2 dX5_isWord_40 rfl rfl ?_
    refine gx_iadd dX5_isWord_41 ?_
    refine gx_callV 5 (As := [.int ((I 6 5) + x2)]) (st := []) dX5_isWord_42 ml_X5_148 mm_X5_byteAt rfl rfl rfl rfl rfl rfl ⟨rfl, rfl⟩ h (fun v h2 hq => ?_)
    clear h
    obtain ⟨r4, I1, L2, c3, rfl, rfl, h⟩ := hq
    obtain ⟨rfl, h⟩ := h
    show Z_Rd_isWord_1005 g Q 45 [(0, .ref 6), (1, .ref 1005), (2, .int x2)] [.int r4] I1 L2 (w, a, (some 1))
    refine gx_aload_n 1 dX5_isWord_45 rfl rfl ?_
    refine gx_iload_n 2 dX5_isWord_46 rfl rfl ?_
    obtain ⟨hi, h⟩ := h
    refine gx_char 5 dX5_isWord_47 ml_X5_152 rfl rfl rfl rfl rfl hi ?_
    show Z_Rd_isWord_1005 g Q 50 [(0, .ref 6), (1, .ref 1005), (2, .int x2)] [.int (gm_ch 5 (Int32.toNatClampNeg x2)), .int r4] I1 L2 (w, a, (some 1))
    refine gx_icmp_eq 55 dX5_isWord_50 (by decide) ⟨fun z => ?_, fun z => ?_⟩
    · replace h := h.1 z
      refine gx_iinc (v := (x2 + 1)) (lv' := [(0, .ref 6), (1, .ref 1005), (2, .int (x2 + 1))]) 2 dX5_isWord_55 rfl rfl rfl rfl ?_
      refine gx_goto 27 dX5_isWord_58 (by decide) ?_
      exact h
    · replace h := h.2 z
      refine gx_iconst (v := 0) dX5_isWord_53 (by decide) ?_
      exact gx_zret .boolean dX5_isWord_54 rfl rfl rfl rfl ⟨false, _, _, _, rfl, rfl, h⟩
abbrev Z_Rd_takeWord_1005 (g : gm_G) (Q : Bool → mI → mL → gm_cfg → Prop) (pc : Nat) (lv : List (Nat × Value)) (st : List Value) (I : mI) (L : mL) (c : gm_cfg) : Prop := gm_X g RX5 "takeWord" cX5_takeWord 2 (some .boolean) 6 0 0 (qZ Q) 0 0 pc lv st (SH, I, L, RR c)
abbrev C_Rd_takeWord_1005 (g : gm_G) (I : mI) (L : mL) (c : gm_cfg) (Q : Bool → mI → mL → gm_cfg → Prop) : Prop := gm_Met g yX5_takeWord cX5_takeWord 2 (some .boolean) 6 0 0 [.ref 6, .ref 1005] (SH, I, L, RR c) (qZ Q)
set_option maxRecDepth 100000 in
theorem e_Rd_takeWord_1005 {g : gm_G} {Q : Bool → mI → mL → gm_cfg → Prop} {I : mI} {L : mL} {w a : Option Nat} (h : (C_Rd_isWord_1005 g I L (w, a, (some 1)) (fun b4 I1 L2 c3 => c3 = (w, a, (some 1)) ∧ ((b4 = false → Q false I1 L2 (w, a, (some 1))) ∧ (b4 = true → (C_Rd_next g I1 L2 (w, a, (some 1)) (fun I5 L6 c7 => c7 = (w, a, (some 1)) ∧ Q true I5 L6 (w, a, (some 1))))))))) : C_Rd_takeWord_1005 g  I L (w, a, (some 1)) Q := by
  refine gm_enter (lv := [(0, .ref 6), (1, .ref 1005)]) (by decide) rfl rfl rfl rfl ?_
  show Z_Rd_takeWord_1005 g Q 0 [(0, .ref 6), (1, .ref 1005)] [] I L (w, a, (some 1))
  refine gx_aload_n 0 dX5_takeWord_0 rfl rfl ?_
  refine gx_aload_n 1 dX5_takeWord_1 rfl rfl ?_
  refine gx_callV 5 (As := [.ref 1005]) (st := []) dX5_takeWord_2 ml_X5_72 mm_X5_isWord rfl rfl rfl rfl rfl rfl ⟨rfl, rfl⟩ h (fun v h2 hq => ?_)
  clear h
  obtain ⟨b4, I1, L2, c3, rfl, rfl, h⟩ := hq
  obtain ⟨rfl, h⟩ := h
  show Z_Rd_takeWord_1005 g Q 5 [(0, .ref 6), (1, .ref 1005)] [.int (gm_b b4)] I1 L2 (w, a, (some 1))
  refine gx_if_ne 10 dX5_takeWord_5 (by decide) ⟨fun z => ?_, fun z => ?_⟩
  · replace h := h.1 (gm_b0.mp z)
    refine gx_iconst (v := 0) dX5_takeWord_8 (by decide) ?_
    exact gx_zret .boolean dX5_takeWord_9 rfl rfl rfl rfl ⟨false, _, _, _, rfl, rfl, h⟩
  · replace h := h.2 (gm_bn0 z)
    refine gx_aload_n 0 dX5_takeWord_10 rfl rfl ?_
    refine gx_callV 5 (As := []) (st := []) dX5_takeWord_11 ml_X5_39 mm_X5_next rfl rfl rfl rfl rfl rfl ⟨rfl, rfl⟩ h (fun v h2 hq => ?_)
    clear h
    obtain ⟨I5, L6, c7, rfl, rfl, h⟩ := hq
    obtain ⟨rfl, h⟩ := h
    show Z_Rd_takeWord_1005 g Q 14 [(0, .ref 6), (1, .ref 1005)] [] I5 L6 (w, a, (some 1))
    refine gx_iconst (v := 1) dX5_takeWord_14 (by decide) ?_
    exact gx_zret .boolean dX5_takeWord_15 rfl rfl rfl rfl ⟨true, _, _, _, rfl, rfl, h⟩
abbrev Z_Rd_isWord_1006 (g : gm_G) (Q : Bool → mI → mL → gm_cfg → Prop) (pc : Nat) (lv : List (Nat × Value)) (st : List Value) (I : mI) (L : mL) (c : gm_cfg) : Prop := gm_X g RX5 "isWord" cX5_isWord 3 (some .boolean) 5 0 0 (qZ Q) 0 0 pc lv st (SH, I, L, RR c)
abbrev C_Rd_isWord_1006 (g : gm_G) (I : mI) (L : mL) (c : gm_cfg) (Q : Bool → mI → mL → gm_cfg → Prop) : Prop := gm_Met g yX5_isWord cX5_isWord 3 (some .boolean) 5 0 0 [.ref 6, .ref 1006] (SH, I, L, RR c) (qZ Q)
set_option maxRecDepth 100000 in
theorem e_Rd_isWord_1006 {g : gm_G} {Q : Bool → mI → mL → gm_cfg → Prop} {I : mI} {L : mL} {w a : Option Nat} (h : (((I 6 4) = 0 → ((((I 6 6) - (I 6 5)) = 5 → Z_Rd_isWord_1006 g Q 27 [(0, .ref 6), (1, .ref 1006), (2, .int 0)] [] I L (w, a, (some 1))) ∧ (¬ ((I 6 6) - (I 6 5)) = 5 → Q false I L (w, a, (some 1))))) ∧ (¬ (I 6 4) = 0 → Q false I L (w, a, (some 1))))) : C_Rd_isWord_1006 g  I L (w, a, (some 1)) Q := by
  refine gm_enter (lv := [(0, .ref 6), (1, .ref 1006)]) (by decide) rfl rfl rfl rfl ?_
  show Z_Rd_isWord_1006 g Q 0 [(0, .ref 6), (1, .ref 1006)] [] I L (w, a, (some 1))
  refine gx_aload_n 0 dX5_isWord_0 rfl rfl ?_
  refine gx_geti 5 4 (v := (I 6 4)) dX5_isWord_1 fl_X5_42 rfl rfl rfl ?_
  refine gx_if_ne 23 dX5_isWord_4 (by decide) ⟨fun z => ?_, fun z => ?_⟩
  · replace h := h.1 z
    refine gx_aload_n 0 dX5_isWord_7 rfl rfl ?_
    refine gx_geti 5 6 (v := (I 6 6)) dX5_isWord_8 fl_X5_28 rfl rfl rfl ?_
    refine gx_aload_n 0 dX5_isWord_11 rfl rfl ?_
    refine gx_geti 5 5 (v := (I 6 5)) dX5_isWord_12 fl_X5_140 rfl rfl rfl ?_
    refine gx_isub dX5_isWord_15 ?_
    refine gx_aload_n 1 dX5_isWord_16 rfl rfl ?_
    refine gx_slen 6 dX5_isWord_17 ml_X5_143 rfl rfl rfl rfl rfl ?_
    show Z_Rd_isWord_1006 g Q 20 [(0, .ref 6), (1, .ref 1006)] [.int 5, .int ((I 6 6) - (I 6 5))] I L (w, a, (some 1))
    refine gx_icmp_eq 25 dX5_isWord_20 (by decide) ⟨fun z => ?_, fun z => ?_⟩
    · replace h := h.1 z
      refine gx_iconst (v := 0) dX5_isWord_25 (by decide) ?_
      refine gx_istore_n (lv' := [(0, .ref 6), (1, .ref 1006), (2, .int 0)]) dX5_isWord_26 rfl rfl rfl ?_
      exact h
    · replace h := h.2 z
      refine gx_iconst (v := 0) dX5_isWord_23 (by decide) ?_
      exact gx_zret .boolean dX5_isWord_24 rfl rfl rfl rfl ⟨false, _, _, _, rfl, rfl, h⟩
  · replace h := h.2 z
    refine gx_iconst (v := 0) dX5_isWord_23 (by decide) ?_
    exact gx_zret .boolean dX5_isWord_24 rfl rfl rfl rfl ⟨false, _, _, _, rfl, rfl, h⟩
set_option maxRecDepth 100000 in
theorem r_Rd_isWord_1006_27 {g : gm_G} {Q : Bool → mI → mL → gm_cfg → Prop} {x2 : Int32} {I : mI} {L : mL} {w a : Option Nat} (h : ((5 ≤ x2 → Q true I L (w, a, (some 1))) ∧ (¬ 5 ≤ x2 → (C_Rd_byteAt g ((I 6 5) + x2) I L (w, a, (some 1)) (fun r4 I1 L2 c3 => c3 = (w, a, (some 1)) ∧ (vp_in x2 5 ∧ ((r4 = (gm_ch 6 (Int32.toNatClampNeg x2)) → Z_Rd_isWord_1006 g Q 27 [(0, .ref 6), (1, .ref 1006), (2, .int (x2 + 1))] [] I1 L2 (w, a, (some 1))) ∧ (¬ r4 = (gm_ch 6 (Int32.toNatClampNeg x2)) → Q false I1 L2 (w, a, (some 1)))))))))) : Z_Rd_isWord_1006 g Q 27 [(0, .ref 6), (1, .ref 1006), (2, .int x2)] [] I L (w, a, (some 1)) := by
  refine gx_iload_n 2 dX5_isWord_27 rfl rfl ?_
  refine gx_aload_n 1 dX5_isWord_28 rfl rfl ?_
  refine gx_slen 6 dX5_isWord_29 ml_X5_143 rfl rfl rfl rfl rfl ?_
  show Z_Rd_isWord_1006 g Q 32 [(0, .ref 6), (1, .ref 1006), (2, .int x2)] [.int 5, .int x2] I L (w, a, (some 1))
  refine gx_icmp_ge 61 dX5_isWord_32 (by decide) ⟨fun z => ?_, fun z => ?_⟩
  · replace h := h.1 z
    refine gx_iconst (v := 1) dX5_isWord_61 (by decide) ?_
    exact gx_zret .boolean dX5_isWord_62 rfl rfl rfl rfl ⟨true, _, _, _, rfl, rfl, h⟩
  · replace h := h.2 z
    refine gx_aload_n 0 dX5_isWord_35 rfl rfl ?_
    refine gx_aload_n 0 dX5_isWord_36 rfl rfl ?_
    refine gx_geti 5 5 (v := (I 6 5)) dX5_isWord_37 fl_X5_140 rfl rfl rfl ?_
    refine gx_iload_n 2 dX5_isWord_40 rfl rfl ?_
    refine gx_iadd dX5_isWord_41 ?_
    refine gx_callV 5 (As := [.int ((I 6 5) + x2)]) (st := []) dX5_isWord_42 ml_X5_148 mm_X5_byteAt rfl rfl rfl rfl rfl rfl ⟨rfl, rfl⟩ h (fun v h2 hq => ?_)
    clear h
    obtain ⟨r4, I1, L2, c3, rfl, rfl, h⟩ := hq
    obtain ⟨rfl, h⟩ := h
    show Z_Rd_isWord_1006 g Q 45 [(0, .ref 6), (1, .ref 1006), (2, .int x2)] [.int r4] I1 L2 (w, a, (some 1))
    refine gx_aload_n 1 dX5_isWord_45 rfl rfl ?_
    refine gx_iload_n 2 dX5_isWord_46 rfl rfl ?_
    obtain ⟨hi, h⟩ := h
    refine gx_char 6 dX5_isWord_47 ml_X5_152 rfl rfl rfl rfl rfl hi ?_
    show Z_Rd_isWord_1006 g Q 50 [(0, .ref 6), (1, .ref 1006), (2, .int x2)] [.int (gm_ch 6 (Int32.toNatClampNeg x2)), .int r4] I1 L2 (w, a, (some 1))
    refine gx_icmp_eq 55 dX5_isWord_50 (by decide) ⟨fun z => ?_, fun z => ?_⟩
    · replace h := h.1 z
      refine gx_iinc (v := (x2 + 1)) (lv' := [(0, .ref 6), (1, .ref 1006), (2, .int (x2 + 1))]) 2 dX5_isWord_55 rfl rfl rfl rfl ?_
      refine gx_goto 27 dX5_isWord_58 (by decide) ?_
      exact h
    · replace h := h.2 z
      refine gx_iconst (v := 0) dX5_isWord_53 (by decide) ?_
      exact gx_zret .boolean dX5_isWord_54 rfl rfl rfl rfl ⟨false, _, _, _, rfl, rfl, h⟩
abbrev Z_Rd_takeWord_1006 (g : gm_G) (Q : Bool → mI → mL → gm_cfg → Prop) (pc : Nat) (lv : List (Nat × Value)) (st : List Value) (I : mI) (L : mL) (c : gm_cfg) : Prop := gm_X g RX5 "takeWord" cX5_takeWord 2 (some .boolean) 6 0 0 (qZ Q) 0 0 pc lv st (SH, I, L, RR c)
abbrev C_Rd_takeWord_1006 (g : gm_G) (I : mI) (L : mL) (c : gm_cfg) (Q : Bool → mI → mL → gm_cfg → Prop) : Prop := gm_Met g yX5_takeWord cX5_takeWord 2 (some .boolean) 6 0 0 [.ref 6, .ref 1006] (SH, I, L, RR c) (qZ Q)
set_option maxRecDepth 100000 in
theorem e_Rd_takeWord_1006 {g : gm_G} {Q : Bool → mI → mL → gm_cfg → Prop} {I : mI} {L : mL} {w a : Option Nat} (h : (C_Rd_isWord_1006 g I L (w, a, (some 1)) (fun b4 I1 L2 c3 => c3 = (w, a, (some 1)) ∧ ((b4 = false → Q false I1 L2 (w, a, (some 1))) ∧ (b4 = true → (C_Rd_next g I1 L2 (w, a, (some 1)) (fun I5 L6 c7 => c7 = (w, a, (some 1)) ∧ Q true I5 L6 (w, a, (some 1))))))))) : C_Rd_takeWord_1006 g  I L (w, a, (some 1)) Q := by
  refine gm_enter (lv := [(0, .ref 6), (1, .ref 1006)]) (by decide) rfl rfl rfl rfl ?_
  show Z_Rd_takeWord_1006 g Q 0 [(0, .ref 6), (1, .ref 1006)] [] I L (w, a, (some 1))
  refine gx_aload_n 0 dX5_takeWord_0 rfl rfl ?_
  refine gx_aload_n 1 dX5_takeWord_1 rfl rfl ?_
  refine gx_callV 5 (As := [.ref 1006]) (st := []) dX5_takeWord_2 ml_X5_72 mm_X5_isWord rfl rfl rfl rfl rfl rfl ⟨rfl, rfl⟩ h (fun v h2 hq => ?_)
  clear h
  obtain ⟨b4, I1, L2, c3, rfl, rfl, h⟩ := hq
  obtain ⟨rfl, h⟩ := h
  show Z_Rd_takeWord_1006 g Q 5 [(0, .ref 6), (1, .ref 1006)] [.int (gm_b b4)] I1 L2 (w, a, (some 1))
  refine gx_if_ne 10 dX5_takeWord_5 (by decide) ⟨fun z => ?_, fun z => ?_⟩
  · replace h := h.1 (gm_b0.mp z)
    refine gx_iconst (v := 0) dX5_takeWord_8 (by decide) ?_
    exact gx_zret .boolean dX5_takeWord_9 rfl rfl rfl rfl ⟨false, _, _, _, rfl, rfl, h⟩
  · replace h := h.2 (gm_bn0 z)
    refine gx_aload_n 0 dX5_takeWord_10 rfl rfl ?_
    refine gx_callV 5 (As := []) (st := []) dX5_takeWord_11 ml_X5_39 mm_X5_next rfl rfl rfl rfl rfl rfl ⟨rfl, rfl⟩ h (fun v h2 hq => ?_)
    clear h
    obtain ⟨I5, L6, c7, rfl, rfl, h⟩ := hq
    obtain ⟨rfl, h⟩ := h
    show Z_Rd_takeWord_1006 g Q 14 [(0, .ref 6), (1, .ref 1006)] [] I5 L6 (w, a, (some 1))
    refine gx_iconst (v := 1) dX5_takeWord_14 (by decide) ?_
    exact gx_zret .boolean dX5_takeWord_15 rfl rfl rfl rfl ⟨true, _, _, _, rfl, rfl, h⟩
abbrev Z_Rd_isWord_1007 (g : gm_G) (Q : Bool → mI → mL → gm_cfg → Prop) (pc : Nat) (lv : List (Nat × Value)) (st : List Value) (I : mI) (L : mL) (c : gm_cfg) : Prop := gm_X g RX5 "isWord" cX5_isWord 3 (some .boolean) 5 0 0 (qZ Q) 0 0 pc lv st (SH, I, L, RR c)
abbrev C_Rd_isWord_1007 (g : gm_G) (I : mI) (L : mL) (c : gm_cfg) (Q : Bool → mI → mL → gm_cfg → Prop) : Prop := gm_Met g yX5_isWord cX5_isWord 3 (some .boolean) 5 0 0 [.ref 6, .ref 1007] (SH, I, L, RR c) (qZ Q)
set_option maxRecDepth 100000 in
theorem e_Rd_isWord_1007 {g : gm_G} {Q : Bool → mI → mL → gm_cfg → Prop} {I : mI} {L : mL} {w a : Option Nat} (h : (((I 6 4) = 0 → ((((I 6 6) - (I 6 5)) = 3 → Z_Rd_isWord_1007 g Q 27 [(0, .ref 6), (1, .ref 1007), (2, .int 0)] [] I L (w, a, (some 1))) ∧ (¬ ((I 6 6) - (I 6 5)) = 3 → Q false I L (w, a, (some 1))))) ∧ (¬ (I 6 4) = 0 → Q false I L (w, a, (some 1))))) : C_Rd_isWord_1007 g  I L (w, a, (some 1)) Q := by
  refine gm_enter (lv := [(0, .ref 6), (1, .ref 1007)]) (by decide) rfl rfl rfl rfl ?_
  show Z_Rd_isWord_1007 g Q 0 [(0, .ref 6), (1, .ref 1007)] [] I L (w, a, (some 1))
  refine gx_aload_n 0 dX5_isWord_0 rfl rfl ?_
  refine gx_geti 5 4 (v := (I 6 4)) dX5_isWord_1 fl_X5_42 rfl rfl rfl ?_
  refine gx_if_ne 23 dX5_isWord_4 (by decide) ⟨fun z => ?_, fun z => ?_⟩
  · replace h := h.1 z
    refine gx_aload_n 0 dX5_isWord_7 rfl rfl ?_
    refine gx_geti 5 6 (v := (I 6 6)) dX5_isWord_8 fl_X5_28 rfl rfl rfl ?_
    refine gx_aload_n 0 dX5_isWord_11 rfl rfl ?_
    refine gx_geti 5 5 (v := (I 6 5)) dX5_isWord_12 fl_X5_140 rfl rfl rfl ?_
    refine gx_isub dX5_isWord_15 ?_
    refine gx_aload_n 1 dX5_isWord_16 rfl rfl ?_
    refine gx_slen 7 dX5_isWord_17 ml_X5_143 rfl rfl rfl rfl rfl ?_
    show Z_Rd_isWord_1007 g Q 20 [(0, .ref 6), (1, .ref 1007)] [.int 3, .int ((I 6 6) - (I 6 5))] I L (w, a, (some 1))
    refine gx_icmp_eq 25 dX5_isWord_20 (by decide) ⟨fun z => ?_, fun z => ?_⟩
    · replace h := h.1 z
      refine gx_iconst (v := 0) dX5_isWord_25 (by decide) ?_
      refine gx_istore_n (lv' := [(0, .ref 6), (1, .ref 1007), (2, .int 0)]) dX5_isWord_26 rfl rfl rfl ?_
      exact h
    · replace h := h.2 z
      refine gx_iconst (v := 0) dX5_isWord_23 (by decide) ?_
      exact gx_zret .boolean dX5_isWord_24 rfl rfl rfl rfl ⟨false, _, _, _, rfl, rfl, h⟩
  · replace h := h.2 z
    refine gx_iconst (v := 0) dX5_isWord_23 (by decide) ?_
    exact gx_zret .boolean dX5_isWord_24 rfl rfl rfl rfl ⟨false, _, _, _, rfl, rfl, h⟩
set_option maxRecDepth 100000 in
theorem r_Rd_isWord_1007_27 {g : gm_G} {Q : Bool → mI → mL → gm_cfg → Prop} {x2 : Int32} {I : mI} {L : mL} {w a : Option Nat} (h : ((3 ≤ x2 → Q true I L (w, a, (some 1))) ∧ (¬ 3 ≤ x2 → (C_Rd_byteAt g ((I 6 5) + x2) I L (w, a, (some 1)) (fun r4 I1 L2 c3 => c3 = (w, a, (some 1)) ∧ (vp_in x2 3 ∧ ((r4 = (gm_ch 7 (Int32.toNatClampNeg x2)) → Z_Rd_isWord_1007 g Q 27 [(0, .ref 6), (1, .ref 1007), (2, .int (x2 + 1))] [] I1 L2 (w, a, (some 1))) ∧ (¬ r4 = (gm_ch 7 (Int32.toNatClampNeg x2)) → Q false I1 L2 (w, a, (some 1)))))))))) : Z_Rd_isWord_1007 g Q 27 [(0, .ref 6), (1, .ref 1007), (2, .int x2)] [] I L (w, a, (some 1)) := by
  refine gx_iload_n 2 dX5_isWord_27 rfl rfl ?_
  refine gx_aload_n 1 dX5_isWord_28 rfl rfl ?_
  refine gx_slen 7 dX5_isWord_29 ml_X5_143 rfl rfl rfl rfl rfl ?_
  show Z_Rd_isWord_1007 g Q 32 [(0, .ref 6), (1, .ref 1007), (2, .int x2)] [.int 3, .int x2] I L (w, a, (some 1))
  refine gx_icmp_ge 61 dX5_isWord_32 (by decide) ⟨fun z => ?_, fun z => ?_⟩
  · replace h := h.1 z
    refine gx_iconst (v := 1) dX5_isWord_61 (by decide) ?_
    exact gx_zret .boolean dX5_isWord_62 rfl rfl rfl rfl ⟨true, _, _, _, rfl, rfl, h⟩
  · replace h := h.2 z
    refine gx_aload_n 0 dX5_isWord_35 rfl rfl ?_
    refine gx_aload_n 0 dX5_isWord_36 rfl rfl ?_
    refine gx_geti 5 5 (v := (I 6 5)) dX5_isWord_37 fl_X5_140 rfl rfl rfl ?_
    refine gx_iload_n 2 dX5_isWord_40 rfl rfl ?_
    refine gx_iadd dX5_isWord_41 ?_
    refine gx_callV 5 (As := [.int ((I 6 5) + x2)]) (st := []) dX5_isWord_42 ml_X5_148 mm_X5_byteAt rfl rfl rfl rfl rfl rfl ⟨rfl, rfl⟩ h (fun v h2 hq => ?_)
    clear h
    obtain ⟨r4, I1, L2, c3, rfl, rfl, h⟩ := hq
    obtain ⟨rfl, h⟩ := h
    show Z_Rd_isWord_1007 g Q 45 [(0, .ref 6), (1, .ref 1007), (2, .int x2)] [.int r4] I1 L2 (w, a, (some 1))
    refine gx_aload_n 1 dX5_isWord_45 rfl rfl ?_
    refine gx_iload_n 2 dX5_isWord_46 rfl rfl ?_
    obtain ⟨hi, h⟩ := h
    refine gx_char 7 dX5_isWord_47 ml_X5_152 rfl rfl rfl rfl rfl hi ?_
    show Z_Rd_isWord_1007 g Q 50 [(0, .ref 6), (1, .ref 1007), (2, .int x2)] [.int (gm_ch 7 (Int32.toNatClampNeg x2)), .int r4] I1 L2 (w, a, (some 1))
    refine gx_icmp_eq 55 dX5_isWord_50 (by decide) ⟨fun z => ?_, fun z => ?_⟩
    · replace h := h.1 z
      refine gx_iinc (v := (x2 + 1)) (lv' := [(0, .ref 6), (1, .ref 1007), (2, .int (x2 + 1))]) 2 dX5_isWord_55 rfl rfl rfl rfl ?_
      refine gx_goto 27 dX5_isWord_58 (by decide) ?_
      exact h
    · replace h := h.2 z
      refine gx_iconst (v := 0) dX5_isWord_53 (by decide) ?_
      exact gx_zret .boolean dX5_isWord_54 rfl rfl rfl rfl ⟨false, _, _, _, rfl, rfl, h⟩
abbrev Z_Rd_takeWord_1007 (g : gm_G) (Q : Bool → mI → mL → gm_cfg → Prop) (pc : Nat) (lv : List (Nat × Value)) (st : List Value) (I : mI) (L : mL) (c : gm_cfg) : Prop := gm_X g RX5 "takeWord" cX5_takeWord 2 (some .boolean) 6 0 0 (qZ Q) 0 0 pc lv st (SH, I, L, RR c)
abbrev C_Rd_takeWord_1007 (g : gm_G) (I : mI) (L : mL) (c : gm_cfg) (Q : Bool → mI → mL → gm_cfg → Prop) : Prop := gm_Met g yX5_takeWord cX5_takeWord 2 (some .boolean) 6 0 0 [.ref 6, .ref 1007] (SH, I, L, RR c) (qZ Q)
set_option maxRecDepth 100000 in
theorem e_Rd_takeWord_1007 {g : gm_G} {Q : Bool → mI → mL → gm_cfg → Prop} {I : mI} {L : mL} {w a : Option Nat} (h : (C_Rd_isWord_1007 g I L (w, a, (some 1)) (fun b4 I1 L2 c3 => c3 = (w, a, (some 1)) ∧ ((b4 = false → Q false I1 L2 (w, a, (some 1))) ∧ (b4 = true → (C_Rd_next g I1 L2 (w, a, (some 1)) (fun I5 L6 c7 => c7 = (w, a, (some 1)) ∧ Q true I5 L6 (w, a, (some 1))))))))) : C_Rd_takeWord_1007 g  I L (w, a, (some 1)) Q := by
  refine gm_enter (lv := [(0, .ref 6), (1, .ref 1007)]) (by decide) rfl rfl rfl rfl ?_
  show Z_Rd_takeWord_1007 g Q 0 [(0, .ref 6), (1, .ref 1007)] [] I L (w, a, (some 1))
  refine gx_aload_n 0 dX5_takeWord_0 rfl rfl ?_
  refine gx_aload_n 1 dX5_takeWord_1 rfl rfl ?_
  refine gx_callV 5 (As := [.ref 1007]) (st := []) dX5_takeWord_2 ml_X5_72 mm_X5_isWord rfl rfl rfl rfl rfl rfl ⟨rfl, rfl⟩ h (fun v h2 hq => ?_)
  clear h
  obtain ⟨b4, I1, L2, c3, rfl, rfl, h⟩ := hq
  obtain ⟨rfl, h⟩ := h
  show Z_Rd_takeWord_1007 g Q 5 [(0, .ref 6), (1, .ref 1007)] [.int (gm_b b4)] I1 L2 (w, a, (some 1))
  refine gx_if_ne 10 dX5_takeWord_5 (by decide) ⟨fun z => ?_, fun z => ?_⟩
  · replace h := h.1 (gm_b0.mp z)
    refine gx_iconst (v := 0) dX5_takeWord_8 (by decide) ?_
    exact gx_zret .boolean dX5_takeWord_9 rfl rfl rfl rfl ⟨false, _, _, _, rfl, rfl, h⟩
  · replace h := h.2 (gm_bn0 z)
    refine gx_aload_n 0 dX5_takeWord_10 rfl rfl ?_
    refine gx_callV 5 (As := []) (st := []) dX5_takeWord_11 ml_X5_39 mm_X5_next rfl rfl rfl rfl rfl rfl ⟨rfl, rfl⟩ h (fun v h2 hq => ?_)
    clear h
    obtain ⟨I5, L6, c7, rfl, rfl, h⟩ := hq
    obtain ⟨rfl, h⟩ := h
    show Z_Rd_takeWord_1007 g Q 14 [(0, .ref 6), (1, .ref 1007)] [] I5 L6 (w, a, (some 1))
    refine gx_iconst (v := 1) dX5_takeWord_14 (by decide) ?_
    exact gx_zret .boolean dX5_takeWord_15 rfl rfl rfl rfl ⟨true, _, _, _, rfl, rfl, h⟩
abbrev Z_Rd_refuse (g : gm_G) (Q : Bool → mI → mL → gm_cfg → Prop) (pc : Nat) (lv : List (Nat × Value)) (st : List Value) (I : mI) (L : mL) (c : gm_cfg) : Prop := gm_X g RX5 "refuse" cX5_refuse 2 (some .boolean) 1 0 0 (qZ Q) 0 0 pc lv st (SH, I, L, RR c)
abbrev C_Rd_refuse (g : gm_G) (x1 : Int32) (I : mI) (L : mL) (c : gm_cfg) (Q : Bool → mI → mL → gm_cfg → Prop) : Prop := gm_Met g yX5_refuse cX5_refuse 2 (some .boolean) 1 0 0 [.ref 6, .int x1] (SH, I, L, RR c) (qZ Q)
set_option maxRecDepth 100000 in
theorem e_Rd_refuse {g : gm_G} {Q : Bool → mI → mL → gm_cfg → Prop} {x1 : Int32} {I : mI} {L : mL} {w a : Option Nat} (h : (((I 6 4) = 4 → Q false (gm_u (gm_u I 6 0 1) 6 1 (I 6 5)) L (w, a, (some 1))) ∧ (¬ (I 6 4) = 4 → Q false (gm_u (gm_u I 6 0 x1) 6 1 (I 6 5)) L (w, a, (some 1))))) : C_Rd_refuse g x1 I L (w, a, (some 1)) Q := by
  refine gm_enter (lv := [(0, .ref 6), (1, .int x1)]) (by decide) rfl rfl rfl rfl ?_
  show Z_Rd_refuse g Q 0 [(0, .ref 6), (1, .int x1)] [] I L (w, a, (some 1))
  refine gx_aload_n 0 dX5_refuse_0 rfl rfl ?_
  refine gx_aload_n 0 dX5_refuse_1 rfl rfl ?_
  refine gx_geti 5 4 (v := (I 6 4)) dX5_refuse_2 fl_X5_42 rfl rfl rfl ?_
  refine gx_iconst (v := 4) dX5_refuse_5 (by decide) ?_
  refine gx_icmp_ne 13 dX5_refuse_6 (by decide) ⟨fun z => ?_, fun z => ?_⟩
  · replace h := h.1 z
    refine gx_iconst (v := 1) dX5_refuse_9 (by decide) ?_
    refine gx_goto 14 dX5_refuse_10 (by decide) ?_
    refine gx_puti 5 0 dX5_refuse_14 fl_X5_31 rfl rfl rfl ⟨rfl, rfl⟩ ?_
    show Z_Rd_refuse g Q 17 [(0, .ref 6), (1, .int x1)] [] (gm_u I 6 0 1) L (w, a, (some 1))
    refine gx_aload_n 0 dX5_refuse_17 rfl rfl ?_
    refine gx_aload_n 0 dX5_refuse_18 rfl rfl ?_
    refine gx_geti 5 5 (v := (I 6 5)) dX5_refuse_19 fl_X5_140 rfl rfl rfl ?_
    refine gx_puti 5 1 dX5_refuse_22 fl_X5_9 rfl rfl rfl ⟨rfl, rfl⟩ ?_
    show Z_Rd_refuse g Q 25 [(0, .ref 6), (1, .int x1)] [] (gm_u (gm_u I 6 0 1) 6 1 (I 6 5)) L (w, a, (some 1))
    refine gx_iconst (v := 0) dX5_refuse_25 (by decide) ?_
    exact gx_zret .boolean dX5_refuse_26 rfl rfl rfl rfl ⟨false, _, _, _, rfl, rfl, h⟩
  · replace h := h.2 z
    refine gx_iload_n 1 dX5_refuse_13 rfl rfl ?_
    refine gx_puti 5 0 dX5_refuse_14 fl_X5_31 rfl rfl rfl ⟨rfl, rfl⟩ ?_
    show Z_Rd_refuse g Q 17 [(0, .ref 6), (1, .int x1)] [] (gm_u I 6 0 x1) L (w, a, (some 1))
    refine gx_aload_n 0 dX5_refuse_17 rfl rfl ?_
    refine gx_aload_n 0 dX5_refuse_18 rfl rfl ?_
    refine gx_geti 5 5 (v := (I 6 5)) dX5_refuse_19 fl_X5_140 rfl rfl rfl ?_
    refine gx_puti 5 1 dX5_refuse_22 fl_X5_9 rfl rfl rfl ⟨rfl, rfl⟩ ?_
    show Z_Rd_refuse g Q 25 [(0, .ref 6), (1, .int x1)] [] (gm_u (gm_u I 6 0 x1) 6 1 (I 6 5)) L (w, a, (some 1))
    refine gx_iconst (v := 0) dX5_refuse_25 (by decide) ?_
    exact gx_zret .boolean dX5_refuse_26 rfl rfl rfl rfl ⟨false, _, _, _, rfl, rfl, h⟩
abbrev Z_Rd_takeNumber (g : gm_G) (Q : Bool → mI → mL → gm_cfg → Prop) (pc : Nat) (lv : List (Nat × Value)) (st : List Value) (I : mI) (L : mL) (c : gm_cfg) : Prop := gm_X g RX5 "takeNumber" cX5_takeNumber 3 (some .boolean) 3 0 0 (qZ Q) 0 0 pc lv st (SH, I, L, RR c)
abbrev C_Rd_takeNumber (g : gm_G) (x1 : Int32) (x2 : Int32) (I : mI) (L : mL) (c : gm_cfg) (Q : Bool → mI → mL → gm_cfg → Prop) : Prop := gm_Met g yX5_takeNumber cX5_takeNumber 3 (some .boolean) 3 0 0 [.ref 6, .int x1, .int x2] (SH, I, L, RR c) (qZ Q)
set_option maxRecDepth 100000 in
theorem e_Rd_takeNumber {g : gm_G} {Q : Bool → mI → mL → gm_cfg → Prop} {x1 x2 : Int32} {I : mI} {L : mL} {w a : Option Nat} (h : (((I 6 4) = 1 → (((I 6 7) < x1 → (C_Rd_refuse g 3 I L (w, a, (some 1)) (fun b4 I1 L2 c3 => c3 = (w, a, (some 1)) ∧ Q b4 I1 L2 (w, a, (some 1))))) ∧ (¬ (I 6 7) < x1 → (((I 6 7) ≤ x2 → (C_Rd_next g (gm_u I 6 8 (I 6 7)) L (w, a, (some 1)) (fun I5 L6 c7 => c7 = (w, a, (some 1)) ∧ Q true I5 L6 (w, a, (some 1))))) ∧ (¬ (I 6 7) ≤ x2 → (C_Rd_refuse g 3 I L (w, a, (some 1)) (fun b11 I8 L9 c10 => c10 = (w, a, (some 1)) ∧ Q b11 I8 L9 (w, a, (some 1))))))))) ∧ (¬ (I 6 4) = 1 → (C_Rd_refuse g 2 I L (w, a, (some 1)) (fun b15 I12 L13 c14 => c14 = (w, a, (some 1)) ∧ Q b15 I12 L13 (w, a, (some 1))))))) : C_Rd_takeNumber g x1 x2 I L (w, a, (some 1)) Q := by
  refine gm_enter (lv := [(0, .ref 6), (1, .int x1), (2, .int x2)]) (by decide) rfl rfl rfl rfl ?_
  show Z_Rd_takeNumber g Q 0 [(0, .ref 6), (1, .int x1), (2, .int x2)] [] I L (w, a, (some 1))
  refine gx_aload_n 0 dX5_takeNumber_0 rfl rfl ?_
  refine gx_geti 5 4 (v := (I 6 4)) dX5_takeNumber_1 fl_X5_42 rfl rfl rfl ?_
  refine gx_iconst (v := 1) dX5_takeNumber_4 (by decide) ?_
  refine gx_icmp_eq 14 dX5_takeNumber_5 (by decide) ⟨fun z => ?_, fun z => ?_⟩
  · replace h := h.1 z
    refine gx_aload_n 0 dX5_takeNumber_14 rfl rfl ?_
    refine gx_geti 5 7 (v := (I 6 7)) dX5_takeNumber_15 fl_X5_137 rfl rfl rfl ?_
    refine gx_iload_n 1 dX5_takeNumber_18 rfl rfl ?_
    refine gx_icmp_lt 30 dX5_takeNumber_19 (by decide) ⟨fun z => ?_, fun z => ?_⟩
    · replace h := h.1 z
      refine gx_aload_n 0 dX5_takeNumber_30 rfl rfl ?_
      refine gx_iconst (v := 3) dX5_takeNumber_31 (by decide) ?_
      refine gx_callV 5 (As := [.int 3]) (st := []) dX5_takeNumber_32 ml_X5_103 mm_X5_refuse rfl rfl rfl rfl rfl rfl ⟨rfl, rfl⟩ h (fun v h2 hq => ?_)
      clear h
      obtain ⟨b4, I1, L2, c3, rfl, rfl, h⟩ := hq
      obtain ⟨rfl, h⟩ := h
      show Z_Rd_takeNumber g Q 35 [(0, .ref 6), (1, .int x1), (2, .int x2)] [.int (gm_b b4)] I1 L2 (w, a, (some 1))
      exact gx_zret .boolean dX5_takeNumber_35 rfl (gm_b_nar _) rfl rfl ⟨b4, _, _, _, rfl, rfl, h⟩
    · replace h := h.2 z
      refine gx_aload_n 0 dX5_takeNumber_22 rfl rfl ?_
      refine gx_geti 5 7 (v := (I 6 7)) dX5_takeNumber_23 fl_X5_137 rfl rfl rfl ?_
      refine gx_iload_n 2 dX5_takeNumber_26 rfl rfl ?_
      refine gx_icmp_le 36 dX5_takeNumber_27 (by decide) ⟨fun z => ?_, fun z => ?_⟩
      · replace h := h.1 z
        refine gx_aload_n 0 dX5_takeNumber_36 rfl rfl ?_
        refine gx_aload_n 0 dX5_takeNumber_37 rfl rfl ?_
        refine gx_geti 5 7 (v := (I 6 7)) dX5_takeNumber_38 fl_X5_137 rfl rfl rfl ?_
        refine gx_puti 5 8 dX5_takeNumber_41 fl_X5_89 rfl rfl rfl ⟨rfl, rfl⟩ ?_
        show Z_Rd_takeNumber g Q 44 [(0, .ref 6), (1, .int x1), (2, .int x2)] [] (gm_u I 6 8 (I 6 7)) L (w, a, (some 1))
        refine gx_aload_n 0 dX5_takeNumber_44 rfl rfl ?_
        refine gx_callV 5 (As := []) (st := []) dX5_takeNumber_45 ml_X5_39 mm_X5_next rfl rfl rfl rfl rfl rfl ⟨rfl, rfl⟩ h (fun v h2 hq => ?_)
        clear h
        obtain ⟨I5, L6, c7, rfl, rfl, h⟩ := hq
        obtain ⟨rfl, h⟩ := h
        show Z_Rd_takeNumber g Q 48 [(0, .ref 6), (1, .int x1), (2, .int x2)] [] I5 L6 (w, a, (some 1))
        refine gx_iconst (v := 1) dX5_takeNumber_48 (by decide) ?_
        exact gx_zret .boolean dX5_takeNumber_49 rfl rfl rfl rfl ⟨true, _, _, _, rfl, rfl, h⟩
      · replace h := h.2 z
        refine gx_aload_n 0 dX5_takeNumber_30 rfl rfl ?_
        refine gx_iconst (v := 3) dX5_takeNumber_31 (by decide) ?_
        refine gx_callV 5 (As := [.int 3]) (st := []) dX5_takeNumber_32 ml_X5_103 mm_X5_refuse rfl rfl rfl rfl rfl rfl ⟨rfl, rfl⟩ h (fun v h2 hq => ?_)
        clear h
        obtain ⟨b11, I8, L9, c10, rfl, rfl, h⟩ := hq
        obtain ⟨rfl, h⟩ := h
        show Z_Rd_takeNumber g Q 35 [(0, .ref 6), (1, .int x1), (2, .int x2)] [.int (gm_b b11)] I8 L9 (w, a, (some 1))
        exact gx_zret .boolean dX5_takeNumber_35 rfl (gm_b_nar _) rfl rfl ⟨b11, _, _, _, rfl, rfl, h⟩
  · replace h := h.2 z
    refine gx_aload_n 0 dX5_takeNumber_8 rfl rfl ?_
    refine gx_iconst (v := 2) dX5_takeNumber_9 (by decide) ?_
    refine gx_callV 5 (As := [.int 2]) (st := []) dX5_takeNumber_10 ml_X5_103 mm_X5_refuse rfl rfl rfl rfl rfl rfl ⟨rfl, rfl⟩ h (fun v h2 hq => ?_)
    clear h
    obtain ⟨b15, I12, L13, c14, rfl, rfl, h⟩ := hq
    obtain ⟨rfl, h⟩ := h
    show Z_Rd_takeNumber g Q 13 [(0, .ref 6), (1, .int x1), (2, .int x2)] [.int (gm_b b15)] I12 L13 (w, a, (some 1))
    exact gx_zret .boolean dX5_takeNumber_13 rfl (gm_b_nar _) rfl rfl ⟨b15, _, _, _, rfl, rfl, h⟩
abbrev Z_Rd_isWord_1003 (g : gm_G) (Q : Bool → mI → mL → gm_cfg → Prop) (pc : Nat) (lv : List (Nat × Value)) (st : List Value) (I : mI) (L : mL) (c : gm_cfg) : Prop := gm_X g RX5 "isWord" cX5_isWord 3 (some .boolean) 5 0 0 (qZ Q) 0 0 pc lv st (SH, I, L, RR c)
abbrev C_Rd_isWord_1003 (g : gm_G) (I : mI) (L : mL) (c : gm_cfg) (Q : Bool → mI → mL → gm_cfg → Prop) : Prop := gm_Met g yX5_isWord cX5_isWord 3 (some .boolean) 5 0 0 [.ref 6, .ref 1003] (SH, I, L, RR c) (qZ Q)
set_option maxRecDepth 100000 in
theorem e_Rd_isWord_1003 {g : gm_G} {Q : Bool → mI → mL → gm_cfg → Prop} {I : mI} {L : mL} {w a : Option Nat} (h : (((I 6 4) = 0 → ((((I 6 6) - (I 6 5)) = 4 → Z_Rd_isWord_1003 g Q 27 [(0, .ref 6), (1, .ref 1003), (2, .int 0)] [] I L (w, a, (some 1))) ∧ (¬ ((I 6 6) - (I 6 5)) = 4 → Q false I L (w, a, (some 1))))) ∧ (¬ (I 6 4) = 0 → Q false I L (w, a, (some 1))))) : C_Rd_isWord_1003 g  I L (w, a, (some 1)) Q := by
  refine gm_enter (lv := [(0, .ref 6), (1, .ref 1003)]) (by decide) rfl rfl rfl rfl ?_
  show Z_Rd_isWord_1003 g Q 0 [(0, .ref 6), (1, .ref 1003)] [] I L (w, a, (some 1))
  refine gx_aload_n 0 dX5_isWord_0 rfl rfl ?_
  refine gx_geti 5 4 (v := (I 6 4)) dX5_isWord_1 fl_X5_42 rfl rfl rfl ?_
  refine gx_if_ne 23 dX5_isWord_4 (by decide) ⟨fun z => ?_, fun z => ?_⟩
  · replace h := h.1 z
    refine gx_aload_n 0 dX5_isWord_7 rfl rfl ?_
    refine gx_geti 5 6 (v := (I 6 6)) dX5_isWord_8 fl_X5_28 rfl rfl rfl ?_
    refine gx_aload_n 0 dX5_isWord_11 rfl rfl ?_
    refine gx_geti 5 5 (v := (I 6 5)) dX5_isWord_12 fl_X5_140 rfl rfl rfl ?_
    refine gx_isub dX5_isWord_15 ?_
    refine gx_aload_n 1 dX5_isWord_16 rfl rfl ?_
    refine gx_slen 3 dX5_isWord_17 ml_X5_143 rfl rfl rfl rfl rfl ?_
    show Z_Rd_isWord_1003 g Q 20 [(0, .ref 6), (1, .ref 1003)] [.int 4, .int ((I 6 6) - (I 6 5))] I L (w, a, (some 1))
    refine gx_icmp_eq 25 dX5_isWord_20 (by decide) ⟨fun z => ?_, fun z => ?_⟩
    · replace h := h.1 z
      refine gx_iconst (v := 0) dX5_isWord_25 (by decide) ?_
      refine gx_istore_n (lv' := [(0, .ref 6), (1, .ref 1003), (2, .int 0)]) dX5_isWord_26 rfl rfl rfl ?_
      exact h
    · replace h := h.2 z
      refine gx_iconst (v := 0) dX5_isWord_23 (by decide) ?_
      exact gx_zret .boolean dX5_isWord_24 rfl rfl rfl rfl ⟨false, _, _, _, rfl, rfl, h⟩
  · replace h := h.2 z
    refine gx_iconst (v := 0) dX5_isWord_23 (by decide) ?_
    exact gx_zret .boolean dX5_isWord_24 rfl rfl rfl rfl ⟨false, _, _, _, rfl, rfl, h⟩
set_option maxRecDepth 100000 in
theorem r_Rd_isWord_1003_27 {g : gm_G} {Q : Bool → mI → mL → gm_cfg → Prop} {x2 : Int32} {I : mI} {L : mL} {w a : Option Nat} (h : ((4 ≤ x2 → Q true I L (w, a, (some 1))) ∧ (¬ 4 ≤ x2 → (C_Rd_byteAt g ((I 6 5) + x2) I L (w, a, (some 1)) (fun r4 I1 L2 c3 => c3 = (w, a, (some 1)) ∧ (vp_in x2 4 ∧ ((r4 = (gm_ch 3 (Int32.toNatClampNeg x2)) → Z_Rd_isWord_1003 g Q 27 [(0, .ref 6), (1, .ref 1003), (2, .int (x2 + 1))] [] I1 L2 (w, a, (some 1))) ∧ (¬ r4 = (gm_ch 3 (Int32.toNatClampNeg x2)) → Q false I1 L2 (w, a, (some 1)))))))))) : Z_Rd_isWord_1003 g Q 27 [(0, .ref 6), (1, .ref 1003), (2, .int x2)] [] I L (w, a, (some 1)) := by
  refine gx_iload_n 2 dX5_isWord_27 rfl rfl ?_
  refine gx_aload_n 1 dX5_isWord_28 rfl rfl ?_
  refine gx_slen 3 dX5_isWord_29 ml_X5_143 rfl rfl rfl rfl rfl ?_
  show Z_Rd_isWord_1003 g Q 32 [(0, .ref 6), (1, .ref 1003), (2, .int x2)] [.int 4, .int x2] I L (w, a, (some 1))
  refine gx_icmp_ge 61 dX5_isWord_32 (by decide) ⟨fun z => ?_, fun z => ?_⟩
  · replace h := h.1 z
    refine gx_iconst (v := 1) dX5_isWord_61 (by decide) ?_
    exact gx_zret .boolean dX5_isWord_62 rfl rfl rfl rfl ⟨true, _, _, _, rfl, rfl, h⟩
  · replace h := h.2 z
    refine gx_aload_n 0 dX5_isWord_35 rfl rfl ?_
    refine gx_aload_n 0 dX5_isWord_36 rfl rfl ?_
    refine gx_geti 5 5 (v := (I 6 5)) dX5_isWord_37 fl_X5_140 rfl rfl rfl ?_
    refine gx_iload_n 2 dX5_isWord_40 rfl rfl ?_
    refine gx_iadd dX5_isWord_41 ?_
    refine gx_callV 5 (As := [.int ((I 6 5) + x2)]) (st := []) dX5_isWord_42 ml_X5_148 mm_X5_byteAt rfl rfl rfl rfl rfl rfl ⟨rfl, rfl⟩ h (fun v h2 hq => ?_)
    clear h
    obtain ⟨r4, I1, L2, c3, rfl, rfl, h⟩ := hq
    obtain ⟨rfl, h⟩ := h
    show Z_Rd_isWord_1003 g Q 45 [(0, .ref 6), (1, .ref 1003), (2, .int x2)] [.int r4] I1 L2 (w, a, (some 1))
    refine gx_aload_n 1 dX5_isWord_45 rfl rfl ?_
    refine gx_iload_n 2 dX5_isWord_46 rfl rfl ?_
    obtain ⟨hi, h⟩ := h
    refine gx_char 3 dX5_isWord_47 ml_X5_152 rfl rfl rfl rfl rfl hi ?_
    show Z_Rd_isWord_1003 g Q 50 [(0, .ref 6), (1, .ref 1003), (2, .int x2)] [.int (gm_ch 3 (Int32.toNatClampNeg x2)), .int r4] I1 L2 (w, a, (some 1))
    refine gx_icmp_eq 55 dX5_isWord_50 (by decide) ⟨fun z => ?_, fun z => ?_⟩
    · replace h := h.1 z
      refine gx_iinc (v := (x2 + 1)) (lv' := [(0, .ref 6), (1, .ref 1003), (2, .int (x2 + 1))]) 2 dX5_isWord_55 rfl rfl rfl rfl ?_
      refine gx_goto 27 dX5_isWord_58 (by decide) ?_
      exact h
    · replace h := h.2 z
      refine gx_iconst (v := 0) dX5_isWord_53 (by decide) ?_
      exact gx_zret .boolean dX5_isWord_54 rfl rfl rfl rfl ⟨false, _, _, _, rfl, rfl, h⟩
abbrev Z_Rd_takeWord_1003 (g : gm_G) (Q : Bool → mI → mL → gm_cfg → Prop) (pc : Nat) (lv : List (Nat × Value)) (st : List Value) (I : mI) (L : mL) (c : gm_cfg) : Prop := gm_X g RX5 "takeWord" cX5_takeWord 2 (some .boolean) 6 0 0 (qZ Q) 0 0 pc lv st (SH, I, L, RR c)
abbrev C_Rd_takeWord_1003 (g : gm_G) (I : mI) (L : mL) (c : gm_cfg) (Q : Bool → mI → mL → gm_cfg → Prop) : Prop := gm_Met g yX5_takeWord cX5_takeWord 2 (some .boolean) 6 0 0 [.ref 6, .ref 1003] (SH, I, L, RR c) (qZ Q)
set_option maxRecDepth 100000 in
theorem e_Rd_takeWord_1003 {g : gm_G} {Q : Bool → mI → mL → gm_cfg → Prop} {I : mI} {L : mL} {w a : Option Nat} (h : (C_Rd_isWord_1003 g I L (w, a, (some 1)) (fun b4 I1 L2 c3 => c3 = (w, a, (some 1)) ∧ ((b4 = false → Q false I1 L2 (w, a, (some 1))) ∧ (b4 = true → (C_Rd_next g I1 L2 (w, a, (some 1)) (fun I5 L6 c7 => c7 = (w, a, (some 1)) ∧ Q true I5 L6 (w, a, (some 1))))))))) : C_Rd_takeWord_1003 g  I L (w, a, (some 1)) Q := by
  refine gm_enter (lv := [(0, .ref 6), (1, .ref 1003)]) (by decide) rfl rfl rfl rfl ?_
  show Z_Rd_takeWord_1003 g Q 0 [(0, .ref 6), (1, .ref 1003)] [] I L (w, a, (some 1))
  refine gx_aload_n 0 dX5_takeWord_0 rfl rfl ?_
  refine gx_aload_n 1 dX5_takeWord_1 rfl rfl ?_
  refine gx_callV 5 (As := [.ref 1003]) (st := []) dX5_takeWord_2 ml_X5_72 mm_X5_isWord rfl rfl rfl rfl rfl rfl ⟨rfl, rfl⟩ h (fun v h2 hq => ?_)
  clear h
  obtain ⟨b4, I1, L2, c3, rfl, rfl, h⟩ := hq
  obtain ⟨rfl, h⟩ := h
  show Z_Rd_takeWord_1003 g Q 5 [(0, .ref 6), (1, .ref 1003)] [.int (gm_b b4)] I1 L2 (w, a, (some 1))
  refine gx_if_ne 10 dX5_takeWord_5 (by decide) ⟨fun z => ?_, fun z => ?_⟩
  · replace h := h.1 (gm_b0.mp z)
    refine gx_iconst (v := 0) dX5_takeWord_8 (by decide) ?_
    exact gx_zret .boolean dX5_takeWord_9 rfl rfl rfl rfl ⟨false, _, _, _, rfl, rfl, h⟩
  · replace h := h.2 (gm_bn0 z)
    refine gx_aload_n 0 dX5_takeWord_10 rfl rfl ?_
    refine gx_callV 5 (As := []) (st := []) dX5_takeWord_11 ml_X5_39 mm_X5_next rfl rfl rfl rfl rfl rfl ⟨rfl, rfl⟩ h (fun v h2 hq => ?_)
    clear h
    obtain ⟨I5, L6, c7, rfl, rfl, h⟩ := hq
    obtain ⟨rfl, h⟩ := h
    show Z_Rd_takeWord_1003 g Q 14 [(0, .ref 6), (1, .ref 1003)] [] I5 L6 (w, a, (some 1))
    refine gx_iconst (v := 1) dX5_takeWord_14 (by decide) ?_
    exact gx_zret .boolean dX5_takeWord_15 rfl rfl rfl rfl ⟨true, _, _, _, rfl, rfl, h⟩
abbrev Z_Rd_readGuesser_2 (g : gm_G) (Q : Bool → mI → mL → gm_cfg → Prop) (pc : Nat) (lv : List (Nat × Value)) (st : List Value) (I : mI) (L : mL) (c : gm_cfg) : Prop := gm_X g RX5 "readGuesser" cX5_readGuesser 3 (some .boolean) 7 0 0 (qZ Q) 0 0 pc lv st (SH, I, L, RR c)
abbrev C_Rd_readGuesser_2 (g : gm_G) (I : mI) (L : mL) (c : gm_cfg) (Q : Bool → mI → mL → gm_cfg → Prop) : Prop := gm_Met g yX5_readGuesser cX5_readGuesser 3 (some .boolean) 7 0 0 [.ref 6, .ref 2] (SH, I, L, RR c) (qZ Q)
set_option maxRecDepth 100000 in
theorem e_Rd_readGuesser_2 {g : gm_G} {Q : Bool → mI → mL → gm_cfg → Prop} {I : mI} {L : mL} {w a : Option Nat} (h : (((I 2 5) < 0 → (C_Rd_refuse g 4 I L (w, a, (some 1)) (fun b4 I1 L2 c3 => c3 = (w, a, (some 1)) ∧ Q b4 I1 L2 (w, a, (some 1))))) ∧ (¬ (I 2 5) < 0 → (((I 2 5) < 6 → (C_Rd_next g I L (w, a, (some 1)) (fun I5 L6 c7 => c7 = (w, a, (some 1)) ∧ (C_Rd_takeNumber g 1 200 I5 L6 (w, a, (some 1)) (fun b11 I8 L9 c10 => c10 = (w, a, (some 1)) ∧ ((b11 = false → Q false I8 L9 (w, a, (some 1))) ∧ (b11 = true → (vp_in (I 2 5) 6 ∧ (C_Rd_takeNumber g 0 20 (gm_u I8 3 (Int32.toNatClampNeg (I 2 5)) (I8 6 8)) L9 (w, a, (some 1)) (fun b15 I12 L13 c14 => c14 = (w, a, (some 1)) ∧ ((b15 = false → Q false I12 L13 (w, a, (some 1))) ∧ (b15 = true → (vp_in (I 2 5) 6 ∧ (vp_in (I 2 5) 6 ∧ (C_Rd_takeWord_1003 g (gm_u (gm_u I12 4 (Int32.toNatClampNeg (I 2 5)) (I12 6 8)) 5 (Int32.toNatClampNeg (I 2 5)) 0) L13 (w, a, (some 1)) (fun b19 I16 L17 c18 => c18 = (w, a, (some 1)) ∧ ((b19 = false → Q true (gm_u I16 2 5 ((I 2 5) + 1)) L17 (w, a, (some 1))) ∧ (b19 = true → (C_Rd_takeNumber g 0 10 I16 L17 (w, a, (some 1)) (fun b23 I20 L21 c22 => c22 = (w, a, (some 1)) ∧ ((b23 = false → Q false I20 L21 (w, a, (some 1))) ∧ (b23 = true → (vp_in (I 2 5) 6 ∧ Q true (gm_u (gm_u I20 5 (Int32.toNatClampNeg (I 2 5)) (I20 6 8)) 2 5 ((I 2 5) + 1)) L21 (w, a, (some 1))))))))))))))))))))))))) ∧ (¬ (I 2 5) < 6 → (C_Rd_refuse g 4 I L (w, a, (some 1)) (fun b27 I24 L25 c26 => c26 = (w, a, (some 1)) ∧ Q b27 I24 L25 (w, a, (some 1))))))))) : C_Rd_readGuesser_2 g  I L (w, a, (some 1)) Q := by
  refine gm_enter (lv := [(0, .ref 6), (1, .ref 2)]) (by decide) rfl rfl rfl rfl ?_
  show Z_Rd_readGuesser_2 g Q 0 [(0, .ref 6), (1, .ref 2)] [] I L (w, a, (some 1))
  refine gx_aload_n 1 dX5_readGuesser_0 rfl rfl ?_
  refine gx_geti 1 5 (v := (I 2 5)) dX5_readGuesser_1 fl_X5_122 rfl rfl rfl ?_
  refine gx_istore_n (lv' := [(0, .ref 6), (1, .ref 2), (2, .int (I 2 5))]) dX5_readGuesser_4 rfl rfl rfl ?_
  refine gx_iload_n 2 dX5_readGuesser_5 rfl rfl ?_
  refine gx_if_lt 15 dX5_readGuesser_6 (by decide) ⟨fun z => ?_, fun z => ?_⟩
  · replace h := h.1 z
    refine gx_aload_n 0 dX5_readGuesser_15 rfl rfl ?_
    refine gx_iconst (v := 4) dX5_readGuesser_16 (by decide) ?_
    refine gx_callV 5 (As := [.int 4]) (st := []) dX5_readGuesser_17 ml_X5_103 mm_X5_refuse rfl rfl rfl rfl rfl rfl ⟨rfl, rfl⟩ h (fun v h2 hq => ?_)
    clear h
    obtain ⟨b4, I1, L2, c3, rfl, rfl, h⟩ := hq
    obtain ⟨rfl, h⟩ := h
    show Z_Rd_readGuesser_2 g Q 20 [(0, .ref 6), (1, .ref 2), (2, .int (I 2 5))] [.int (gm_b b4)] I1 L2 (w, a, (some 1))
    exact gx_zret .boolean dX5_readGuesser_20 rfl (gm_b_nar _) rfl rfl ⟨b4, _, _, _, rfl, rfl, h⟩
  · replace h := h.2 z
    refine gx_iload_n 2 dX5_readGuesser_9 rfl rfl ?_
    refine gx_bipush (v := 6) dX5_readGuesser_10 (by decide) ?_
    refine gx_icmp_lt 21 dX5_readGuesser_12 (by decide) ⟨fun z => ?_, fun z => ?_⟩
    · replace h := h.1 z
      refine gx_aload_n 0 dX5_readGuesser_21 rfl rfl ?_
      refine gx_callV 5 (As := []) (st := []) dX5_readGuesser_22 ml_X5_39 mm_X5_next rfl rfl rfl rfl rfl rfl ⟨rfl, rfl⟩ h (fun v h2 hq => ?_)
      clear h
      obtain ⟨I5, L6, c7, rfl, rfl, h⟩ := hq
      obtain ⟨rfl, h⟩ := h
      show Z_Rd_readGuesser_2 g Q 25 [(0, .ref 6), (1, .ref 2), (2, .int (I 2 5))] [] I5 L6 (w, a, (some 1))
      refine gx_aload_n 0 dX5_readGuesser_25 rfl rfl ?_
      refine gx_iconst (v := 1) dX5_readGuesser_26 (by decide) ?_
      refine gx_sipush (v := 200) dX5_readGuesser_27 (by decide) ?_
      refine gx_callV 5 (As := [.int 1, .int 200]) (st := []) dX5_readGuesser_30 ml_X5_85 mm_X5_takeNumber rfl rfl rfl rfl rfl rfl ⟨rfl, rfl⟩ h (fun v h2 hq => ?_)
      clear h
      obtain ⟨b11, I8, L9, c10, rfl, rfl, h⟩ := hq
      obtain ⟨rfl, h⟩ := h
      show Z_Rd_readGuesser_2 g Q 33 [(0, .ref 6), (1, .ref 2), (2, .int (I 2 5))] [.int (gm_b b11)] I8 L9 (w, a, (some 1))
      refine gx_if_ne 38 dX5_readGuesser_33 (by decide) ⟨fun z => ?_, fun z => ?_⟩
      · replace h := h.1 (gm_b0.mp z)
        refine gx_iconst (v := 0) dX5_readGuesser_36 (by decide) ?_
        exact gx_zret .boolean dX5_readGuesser_37 rfl rfl rfl rfl ⟨false, _, _, _, rfl, rfl, h⟩
      · replace h := h.2 (gm_bn0 z)
        refine gx_aload_n 1 dX5_readGuesser_38 rfl rfl ?_
        refine gx_getr 1 6 (v := 3) dX5_readGuesser_39 fl_X5_125 rfl rfl rfl ?_
        refine gx_iload_n 2 dX5_readGuesser_42 rfl rfl ?_
        refine gx_aload_n 0 dX5_readGuesser_43 rfl rfl ?_
        refine gx_geti 5 8 (v := (I8 6 8)) dX5_readGuesser_44 fl_X5_89 rfl rfl rfl ?_
        obtain ⟨hi, h⟩ := h
        refine gx_iast dX5_readGuesser_47 rfl rfl hi (k := (Int32.toNatClampNeg (I 2 5))) rfl ?_
        show Z_Rd_readGuesser_2 g Q 48 [(0, .ref 6), (1, .ref 2), (2, .int (I 2 5))] [] (gm_u I8 3 (Int32.toNatClampNeg (I 2 5)) (I8 6 8)) L9 (w, a, (some 1))
        refine gx_aload_n 0 dX5_readGuesser_48 rfl rfl ?_
        refine gx_iconst (v := 0) dX5_readGuesser_49 (by decide) ?_
        refine gx_bipush (v := 20) dX5_readGuesser_50 (by decide) ?_
        refine gx_callV 5 (As := [.int 0, .int 20]) (st := []) dX5_readGuesser_52 ml_X5_85 mm_X5_takeNumber rfl rfl rfl rfl rfl rfl ⟨rfl, rfl⟩ h (fun v h2 hq => ?_)
        clear h
        obtain ⟨b15, I12, L13, c14, rfl, rfl, h⟩ := hq
        obtain ⟨rfl, h⟩ := h
        show Z_Rd_readGuesser_2 g Q 55 [(0, .ref 6), (1, .ref 2), (2, .int (I 2 5))] [.int (gm_b b15)] I12 L13 (w, a, (some 1))
        refine gx_if_ne 60 dX5_readGuesser_55 (by decide) ⟨fun z => ?_, fun z => ?_⟩
        · replace h := h.1 (gm_b0.mp z)
          refine gx_iconst (v := 0) dX5_readGuesser_58 (by decide) ?_
          exact gx_zret .boolean dX5_readGuesser_59 rfl rfl rfl rfl ⟨false, _, _, _, rfl, rfl, h⟩
        · replace h := h.2 (gm_bn0 z)
          refine gx_aload_n 1 dX5_readGuesser_60 rfl rfl ?_
          refine gx_getr 1 7 (v := 4) dX5_readGuesser_61 fl_X5_129 rfl rfl rfl ?_
          refine gx_iload_n 2 dX5_readGuesser_64 rfl rfl ?_
          refine gx_aload_n 0 dX5_readGuesser_65 rfl rfl ?_
          refine gx_geti 5 8 (v := (I12 6 8)) dX5_readGuesser_66 fl_X5_89 rfl rfl rfl ?_
          obtain ⟨hi, h⟩ := h
          refine gx_iast dX5_readGuesser_69 rfl rfl hi (k := (Int32.toNatClampNeg (I 2 5))) rfl ?_
          show Z_Rd_readGuesser_2 g Q 70 [(0, .ref 6), (1, .ref 2), (2, .int (I 2 5))] [] (gm_u I12 4 (Int32.toNatClampNeg (I 2 5)) (I12 6 8)) L13 (w, a, (some 1))
          refine gx_aload_n 1 dX5_readGuesser_70 rfl rfl ?_
          refine gx_getr 1 8 (v := 5) dX5_readGuesser_71 fl_X5_132 rfl rfl rfl ?_
          refine gx_iload_n 2 dX5_readGuesser_74 rfl rfl ?_
          refine gx_iconst (v := 0) dX5_readGuesser_75 (by decide) ?_
          obtain ⟨hi, h⟩ := h
          refine gx_iast dX5_readGuesser_76 rfl rfl hi (k := (Int32.toNatClampNeg (I 2 5))) rfl ?_
          show Z_Rd_readGuesser_2 g Q 77 [(0, .ref 6), (1, .ref 2), (2, .int (I 2 5))] [] (gm_u (gm_u I12 4 (Int32.toNatClampNeg (I 2 5)) (I12 6 8)) 5 (Int32.toNatClampNeg (I 2 5)) 0) L13 (w, a, (some 1))
          refine gx_aload_n 0 dX5_readGuesser_77 rfl rfl ?_
          refine gx_ldcS 3 dX5_readGuesser_78 (by decide) rfl rfl ?_
          refine gx_callV 5 (As := [.ref 1003]) (st := []) dX5_readGuesser_80 ml_X5_58 mm_X5_takeWord rfl rfl rfl rfl rfl rfl ⟨rfl, rfl⟩ h (fun v h2 hq => ?_)
          clear h
          obtain ⟨b19, I16, L17, c18, rfl, rfl, h⟩ := hq
          obtain ⟨rfl, h⟩ := h
          show Z_Rd_readGuesser_2 g Q 83 [(0, .ref 6), (1, .ref 2), (2, .int (I 2 5))] [.int (gm_b b19)] I16 L17 (w, a, (some 1))
          refine gx_if_eq 108 dX5_readGuesser_83 (by decide) ⟨fun z => ?_, fun z => ?_⟩
          · replace h := h.1 (gm_b0.mp z)
            refine gx_aload_n 1 dX5_readGuesser_108 rfl rfl ?_
            refine gx_iload_n 2 dX5_readGuesser_109 rfl rfl ?_
            refine gx_iconst (v := 1) dX5_readGuesser_110 (by decide) ?_
            refine gx_iadd dX5_readGuesser_111 ?_
            refine gx_puti 1 5 dX5_readGuesser_112 fl_X5_122 rfl rfl rfl ⟨rfl, rfl⟩ ?_
            show Z_Rd_readGuesser_2 g Q 115 [(0, .ref 6), (1, .ref 2), (2, .int (I 2 5))] [] (gm_u I16 2 5 ((I 2 5) + 1)) L17 (w, a, (some 1))
            refine gx_iconst (v := 1) dX5_readGuesser_115 (by decide) ?_
            exact gx_zret .boolean dX5_readGuesser_116 rfl rfl rfl rfl ⟨true, _, _, _, rfl, rfl, h⟩
          · replace h := h.2 (gm_bn0 z)
            refine gx_aload_n 0 dX5_readGuesser_86 rfl rfl ?_
            refine gx_iconst (v := 0) dX5_readGuesser_87 (by decide) ?_
            refine gx_bipush (v := 10) dX5_readGuesser_88 (by decide) ?_
            refine gx_callV 5 (As := [.int 0, .int 10]) (st := []) dX5_readGuesser_90 ml_X5_85 mm_X5_takeNumber rfl rfl rfl rfl rfl rfl ⟨rfl, rfl⟩ h (fun v h2 hq => ?_)
            clear h
            obtain ⟨b23, I20, L21, c22, rfl, rfl, h⟩ := hq
            obtain ⟨rfl, h⟩ := h
            show Z_Rd_readGuesser_2 g Q 93 [(0, .ref 6), (1, .ref 2), (2, .int (I 2 5))] [.int (gm_b b23)] I20 L21 (w, a, (some 1))
            refine gx_if_ne 98 dX5_readGuesser_93 (by decide) ⟨fun z => ?_, fun z => ?_⟩
            · replace h := h.1 (gm_b0.mp z)
              refine gx_iconst (v := 0) dX5_readGuesser_96 (by decide) ?_
              exact gx_zret .boolean dX5_readGuesser_97 rfl rfl rfl rfl ⟨false, _, _, _, rfl, rfl, h⟩
            · replace h := h.2 (gm_bn0 z)
              refine gx_aload_n 1 dX5_readGuesser_98 rfl rfl ?_
              refine gx_getr 1 8 (v := 5) dX5_readGuesser_99 fl_X5_132 rfl rfl rfl ?_
              refine gx_iload_n 2 dX5_readGuesser_102 rfl rfl ?_
              refine gx_aload_n 0 dX5_readGuesser_103 rfl rfl ?_
              refine gx_geti 5 8 (v := (I20 6 8)) dX5_readGuesser_104 fl_X5_89 rfl rfl rfl ?_
              obtain ⟨hi, h⟩ := h
              refine gx_iast dX5_readGuesser_107 rfl rfl hi (k := (Int32.toNatClampNeg (I 2 5))) rfl ?_
              show Z_Rd_readGuesser_2 g Q 108 [(0, .ref 6), (1, .ref 2), (2, .int (I 2 5))] [] (gm_u I20 5 (Int32.toNatClampNeg (I 2 5)) (I20 6 8)) L21 (w, a, (some 1))
              refine gx_aload_n 1 dX5_readGuesser_108 rfl rfl ?_
              refine gx_iload_n 2 dX5_readGuesser_109 rfl rfl ?_
              refine gx_iconst (v := 1) dX5_readGuesser_110 (by decide) ?_
              refine gx_iadd dX5_readGuesser_111 ?_
              refine gx_puti 1 5 dX5_readGuesser_112 fl_X5_122 rfl rfl rfl ⟨rfl, rfl⟩ ?_
              show Z_Rd_readGuesser_2 g Q 115 [(0, .ref 6), (1, .ref 2), (2, .int (I 2 5))] [] (gm_u (gm_u I20 5 (Int32.toNatClampNeg (I 2 5)) (I20 6 8)) 2 5 ((I 2 5) + 1)) L21 (w, a, (some 1))
              refine gx_iconst (v := 1) dX5_readGuesser_115 (by decide) ?_
              exact gx_zret .boolean dX5_readGuesser_116 rfl rfl rfl rfl ⟨true, _, _, _, rfl, rfl, h⟩
    · replace h := h.2 z
      refine gx_aload_n 0 dX5_readGuesser_15 rfl rfl ?_
      refine gx_iconst (v := 4) dX5_readGuesser_16 (by decide) ?_
      refine gx_callV 5 (As := [.int 4]) (st := []) dX5_readGuesser_17 ml_X5_103 mm_X5_refuse rfl rfl rfl rfl rfl rfl ⟨rfl, rfl⟩ h (fun v h2 hq => ?_)
      clear h
      obtain ⟨b27, I24, L25, c26, rfl, rfl, h⟩ := hq
      obtain ⟨rfl, h⟩ := h
      show Z_Rd_readGuesser_2 g Q 20 [(0, .ref 6), (1, .ref 2), (2, .int (I 2 5))] [.int (gm_b b27)] I24 L25 (w, a, (some 1))
      exact gx_zret .boolean dX5_readGuesser_20 rfl (gm_b_nar _) rfl rfl ⟨b27, _, _, _, rfl, rfl, h⟩
abbrev Z_Rd_readPrior_2 (g : gm_G) (Q : Bool → mI → mL → gm_cfg → Prop) (pc : Nat) (lv : List (Nat × Value)) (st : List Value) (I : mI) (L : mL) (c : gm_cfg) : Prop := gm_X g RX5 "readPrior" cX5_readPrior 2 (some .boolean) 4 0 0 (qZ Q) 0 0 pc lv st (SH, I, L, RR c)
abbrev C_Rd_readPrior_2 (g : gm_G) (I : mI) (L : mL) (c : gm_cfg) (Q : Bool → mI → mL → gm_cfg → Prop) : Prop := gm_Met g yX5_readPrior cX5_readPrior 2 (some .boolean) 4 0 0 [.ref 6, .ref 2] (SH, I, L, RR c) (qZ Q)
set_option maxRecDepth 100000 in
theorem e_Rd_readPrior_2 {g : gm_G} {Q : Bool → mI → mL → gm_cfg → Prop} {I : mI} {L : mL} {w a : Option Nat} (h : (C_Rd_takeNumber g 0 999 I L (w, a, (some 1)) (fun b4 I1 L2 c3 => c3 = (w, a, (some 1)) ∧ ((b4 = false → Q false I1 L2 (w, a, (some 1))) ∧ (b4 = true → (C_Rd_takeNumber g 0 8 (gm_u I1 2 3 (I1 6 8)) L2 (w, a, (some 1)) (fun b8 I5 L6 c7 => c7 = (w, a, (some 1)) ∧ ((b8 = false → Q false I5 L6 (w, a, (some 1))) ∧ (b8 = true → Q true (gm_u (gm_u I5 2 4 (I5 6 8)) 2 2 1) L6 (w, a, (some 1))))))))))) : C_Rd_readPrior_2 g  I L (w, a, (some 1)) Q := by
  refine gm_enter (lv := [(0, .ref 6), (1, .ref 2)]) (by decide) rfl rfl rfl rfl ?_
  show Z_Rd_readPrior_2 g Q 0 [(0, .ref 6), (1, .ref 2)] [] I L (w, a, (some 1))
  refine gx_aload_n 0 dX5_readPrior_0 rfl rfl ?_
  refine gx_iconst (v := 0) dX5_readPrior_1 (by decide) ?_
  refine gx_sipush (v := 999) dX5_readPrior_2 (by decide) ?_
  refine gx_callV 5 (As := [.int 0, .int 999]) (st := []) dX5_readPrior_5 ml_X5_85 mm_X5_takeNumber rfl rfl rfl rfl rfl rfl ⟨rfl, rfl⟩ h (fun v h2 hq => ?_)
  clear h
  obtain ⟨b4, I1, L2, c3, rfl, rfl, h⟩ := hq
  obtain ⟨rfl, h⟩ := h
  show Z_Rd_readPrior_2 g Q 8 [(0, .ref 6), (1, .ref 2)] [.int (gm_b b4)] I1 L2 (w, a, (some 1))
  refine gx_if_ne 13 dX5_readPrior_8 (by decide) ⟨fun z => ?_, fun z => ?_⟩
  · replace h := h.1 (gm_b0.mp z)
    refine gx_iconst (v := 0) dX5_readPrior_11 (by decide) ?_
    exact gx_zret .boolean dX5_readPrior_12 rfl rfl rfl rfl ⟨false, _, _, _, rfl, rfl, h⟩
  · replace h := h.2 (gm_bn0 z)
    refine gx_aload_n 1 dX5_readPrior_13 rfl rfl ?_
    refine gx_aload_n 0 dX5_readPrior_14 rfl rfl ?_
    refine gx_geti 5 8 (v := (I1 6 8)) dX5_readPrior_15 fl_X5_89 rfl rfl rfl ?_
    refine gx_puti 1 3 dX5_readPrior_18 fl_X5_113 rfl rfl rfl ⟨rfl, rfl⟩ ?_
    show Z_Rd_readPrior_2 g Q 21 [(0, .ref 6), (1, .ref 2)] [] (gm_u I1 2 3 (I1 6 8)) L2 (w, a, (some 1))
    refine gx_aload_n 0 dX5_readPrior_21 rfl rfl ?_
    refine gx_iconst (v := 0) dX5_readPrior_22 (by decide) ?_
    refine gx_bipush (v := 8) dX5_readPrior_23 (by decide) ?_
    refine gx_callV 5 (As := [.int 0, .int 8]) (st := []) dX5_readPrior_25 ml_X5_85 mm_X5_takeNumber rfl rfl rfl rfl rfl rfl ⟨rfl, rfl⟩ h (fun v h2 hq => ?_)
    clear h
    obtain ⟨b8, I5, L6, c7, rfl, rfl, h⟩ := hq
    obtain ⟨rfl, h⟩ := h
    show Z_Rd_readPrior_2 g Q 28 [(0, .ref 6), (1, .ref 2)] [.int (gm_b b8)] I5 L6 (w, a, (some 1))
    refine gx_if_ne 33 dX5_readPrior_28 (by decide) ⟨fun z => ?_, fun z => ?_⟩
    · replace h := h.1 (gm_b0.mp z)
      refine gx_iconst (v := 0) dX5_readPrior_31 (by decide) ?_
      exact gx_zret .boolean dX5_readPrior_32 rfl rfl rfl rfl ⟨false, _, _, _, rfl, rfl, h⟩
    · replace h := h.2 (gm_bn0 z)
      refine gx_aload_n 1 dX5_readPrior_33 rfl rfl ?_
      refine gx_aload_n 0 dX5_readPrior_34 rfl rfl ?_
      refine gx_geti 5 8 (v := (I5 6 8)) dX5_readPrior_35 fl_X5_89 rfl rfl rfl ?_
      refine gx_puti 1 4 dX5_readPrior_38 fl_X5_116 rfl rfl rfl ⟨rfl, rfl⟩ ?_
      show Z_Rd_readPrior_2 g Q 41 [(0, .ref 6), (1, .ref 2)] [] (gm_u I5 2 4 (I5 6 8)) L6 (w, a, (some 1))
      refine gx_aload_n 1 dX5_readPrior_41 rfl rfl ?_
      refine gx_iconst (v := 1) dX5_readPrior_42 (by decide) ?_
      refine gx_puti 1 2 dX5_readPrior_43 fl_X5_119 rfl rfl rfl ⟨rfl, rfl⟩ ?_
      show Z_Rd_readPrior_2 g Q 46 [(0, .ref 6), (1, .ref 2)] [] (gm_u (gm_u I5 2 4 (I5 6 8)) 2 2 1) L6 (w, a, (some 1))
      refine gx_iconst (v := 1) dX5_readPrior_46 (by decide) ?_
      exact gx_zret .boolean dX5_readPrior_47 rfl rfl rfl rfl ⟨true, _, _, _, rfl, rfl, h⟩
abbrev Z_Rd_readGrid_2 (g : gm_G) (Q : Bool → mI → mL → gm_cfg → Prop) (pc : Nat) (lv : List (Nat × Value)) (st : List Value) (I : mI) (L : mL) (c : gm_cfg) : Prop := gm_X g RX5 "readGrid" cX5_readGrid 2 (some .boolean) 4 0 0 (qZ Q) 0 0 pc lv st (SH, I, L, RR c)
abbrev C_Rd_readGrid_2 (g : gm_G) (I : mI) (L : mL) (c : gm_cfg) (Q : Bool → mI → mL → gm_cfg → Prop) : Prop := gm_Met g yX5_readGrid cX5_readGrid 2 (some .boolean) 4 0 0 [.ref 6, .ref 2] (SH, I, L, RR c) (qZ Q)
set_option maxRecDepth 100000 in
theorem e_Rd_readGrid_2 {g : gm_G} {Q : Bool → mI → mL → gm_cfg → Prop} {I : mI} {L : mL} {w a : Option Nat} (h : (C_Rd_takeNumber g 1 999 I L (w, a, (some 1)) (fun b4 I1 L2 c3 => c3 = (w, a, (some 1)) ∧ ((b4 = false → Q false I1 L2 (w, a, (some 1))) ∧ (b4 = true → (C_Rd_takeNumber g (I1 6 8) (((I1 6 8) + 200) - 1) (gm_u I1 2 0 (I1 6 8)) L2 (w, a, (some 1)) (fun b8 I5 L6 c7 => c7 = (w, a, (some 1)) ∧ ((b8 = false → Q false I5 L6 (w, a, (some 1))) ∧ (b8 = true → Q true (gm_u I5 2 1 (I5 6 8)) L6 (w, a, (some 1))))))))))) : C_Rd_readGrid_2 g  I L (w, a, (some 1)) Q := by
  refine gm_enter (lv := [(0, .ref 6), (1, .ref 2)]) (by decide) rfl rfl rfl rfl ?_
  show Z_Rd_readGrid_2 g Q 0 [(0, .ref 6), (1, .ref 2)] [] I L (w, a, (some 1))
  refine gx_aload_n 0 dX5_readGrid_0 rfl rfl ?_
  refine gx_iconst (v := 1) dX5_readGrid_1 (by decide) ?_
  refine gx_sipush (v := 999) dX5_readGrid_2 (by decide) ?_
  refine gx_callV 5 (As := [.int 1, .int 999]) (st := []) dX5_readGrid_5 ml_X5_85 mm_X5_takeNumber rfl rfl rfl rfl rfl rfl ⟨rfl, rfl⟩ h (fun v h2 hq => ?_)
  clear h
  obtain ⟨b4, I1, L2, c3, rfl, rfl, h⟩ := hq
  obtain ⟨rfl, h⟩ := h
  show Z_Rd_readGrid_2 g Q 8 [(0, .ref 6), (1, .ref 2)] [.int (gm_b b4)] I1 L2 (w, a, (some 1))
  refine gx_if_ne 13 dX5_readGrid_8 (by decide) ⟨fun z => ?_, fun z => ?_⟩
  · replace h := h.1 (gm_b0.mp z)
    refine gx_iconst (v := 0) dX5_readGrid_11 (by decide) ?_
    exact gx_zret .boolean dX5_readGrid_12 rfl rfl rfl rfl ⟨false, _, _, _, rfl, rfl, h⟩
  · replace h := h.2 (gm_bn0 z)
    refine gx_aload_n 1 dX5_readGrid_13 rfl rfl ?_
    refine gx_aload_n 0 dX5_readGrid_14 rfl rfl ?_
    refine gx_geti 5 8 (v := (I1 6 8)) dX5_readGrid_15 fl_X5_89 rfl rfl rfl ?_
    refine gx_puti 1 0 dX5_readGrid_18 fl_X5_107 rfl rfl rfl ⟨rfl, rfl⟩ ?_
    show Z_Rd_readGrid_2 g Q 21 [(0, .ref 6), (1, .ref 2)] [] (gm_u I1 2 0 (I1 6 8)) L2 (w, a, (some 1))
    refine gx_aload_n 0 dX5_readGrid_21 rfl rfl ?_
    refine gx_aload_n 1 dX5_readGrid_22 rfl rfl ?_
    refine gx_geti 1 0 (v := (I1 6 8)) dX5_readGrid_23 fl_X5_107 rfl rfl rfl ?_
    refine gx_aload_n 1 dX5_readGrid_26 rfl rfl ?_
    refine gx_geti 1 0 (v := (I1 6 8)) dX5_readGrid_27 fl_X5_107 rfl rfl rfl ?_
    refine gx_sipush (v := 200) dX5_readGrid_30 (by decide) ?_
    refine gx_iadd dX5_readGrid_33 ?_
    refine gx_iconst (v := 1) dX5_readGrid_34 (by decide) ?_
    refine gx_isub dX5_readGrid_35 ?_
    refine gx_callV 5 (As := [.int (I1 6 8), .int (((I1 6 8) + 200) - 1)]) (st := []) dX5_readGrid_36 ml_X5_85 mm_X5_takeNumber rfl rfl rfl rfl rfl rfl ⟨rfl, rfl⟩ h (fun v h2 hq => ?_)
    clear h
    obtain ⟨b8, I5, L6, c7, rfl, rfl, h⟩ := hq
    obtain ⟨rfl, h⟩ := h
    show Z_Rd_readGrid_2 g Q 39 [(0, .ref 6), (1, .ref 2)] [.int (gm_b b8)] I5 L6 (w, a, (some 1))
    refine gx_if_ne 44 dX5_readGrid_39 (by decide) ⟨fun z => ?_, fun z => ?_⟩
    · replace h := h.1 (gm_b0.mp z)
      refine gx_iconst (v := 0) dX5_readGrid_42 (by decide) ?_
      exact gx_zret .boolean dX5_readGrid_43 rfl rfl rfl rfl ⟨false, _, _, _, rfl, rfl, h⟩
    · replace h := h.2 (gm_bn0 z)
      refine gx_aload_n 1 dX5_readGrid_44 rfl rfl ?_
      refine gx_aload_n 0 dX5_readGrid_45 rfl rfl ?_
      refine gx_geti 5 8 (v := (I5 6 8)) dX5_readGrid_46 fl_X5_89 rfl rfl rfl ?_
      refine gx_puti 1 1 dX5_readGrid_49 fl_X5_110 rfl rfl rfl ⟨rfl, rfl⟩ ?_
      show Z_Rd_readGrid_2 g Q 52 [(0, .ref 6), (1, .ref 2)] [] (gm_u I5 2 1 (I5 6 8)) L6 (w, a, (some 1))
      refine gx_iconst (v := 1) dX5_readGrid_52 (by decide) ?_
      exact gx_zret .boolean dX5_readGrid_53 rfl rfl rfl rfl ⟨true, _, _, _, rfl, rfl, h⟩
abbrev Z_Rd_readLine_2 (g : gm_G) (Q : Bool → mI → mL → gm_cfg → Prop) (pc : Nat) (lv : List (Nat × Value)) (st : List Value) (I : mI) (L : mL) (c : gm_cfg) : Prop := gm_X g RX5 "readLine" cX5_readLine 3 (some .boolean) 8 0 0 (qZ Q) 0 0 pc lv st (SH, I, L, RR c)
abbrev C_Rd_readLine_2 (g : gm_G) (I : mI) (L : mL) (c : gm_cfg) (Q : Bool → mI → mL → gm_cfg → Prop) : Prop := gm_Met g yX5_readLine cX5_readLine 3 (some .boolean) 8 0 0 [.ref 6, .ref 2] (SH, I, L, RR c) (qZ Q)
set_option maxRecDepth 100000 in
theorem e_Rd_readLine_2 {g : gm_G} {Q : Bool → mI → mL → gm_cfg → Prop} {I : mI} {L : mL} {w a : Option Nat} (h : (C_Rd_takeWord_1000 g I L (w, a, (some 1)) (fun b4 I1 L2 c3 => c3 = (w, a, (some 1)) ∧ ((b4 = false → (C_Rd_takeWord_1001 g I1 L2 (w, a, (some 1)) (fun b8 I5 L6 c7 => c7 = (w, a, (some 1)) ∧ ((b8 = false → (C_Rd_isWord_1002 g I5 L6 (w, a, (some 1)) (fun b12 I9 L10 c11 => c11 = (w, a, (some 1)) ∧ ((b12 = false → (C_Rd_takeWord_1004 g I9 L10 (w, a, (some 1)) (fun b16 I13 L14 c15 => c15 = (w, a, (some 1)) ∧ ((b16 = false → (C_Rd_takeWord_1005 g I13 L14 (w, a, (some 1)) (fun b20 I17 L18 c19 => c19 = (w, a, (some 1)) ∧ ((b20 = false → (C_Rd_takeWord_1006 g I17 L18 (w, a, (some 1)) (fun b24 I21 L22 c23 => c23 = (w, a, (some 1)) ∧ ((b24 = false → (C_Rd_takeWord_1007 g I21 L22 (w, a, (some 1)) (fun b28 I25 L26 c27 => c27 = (w, a, (some 1)) ∧ ((b28 = false → (C_Rd_refuse g 2 I25 L26 (w, a, (some 1)) (fun b32 I29 L30 c31 => c31 = (w, a, (some 1)) ∧ Q b32 I29 L30 (w, a, (some 1))))) ∧ (b28 = true → (C_Rd_takeNumber g 1 999 I25 L26 (w, a, (some 1)) (fun b36 I33 L34 c35 => c35 = (w, a, (some 1)) ∧ Q b36 (gm_u I33 2 12 (I33 6 8)) L34 (w, a, (some 1))))))))) ∧ (b24 = true → (C_Rd_takeNumber g 0 9999 I21 L22 (w, a, (some 1)) (fun b40 I37 L38 c39 => c39 = (w, a, (some 1)) ∧ Q b40 (gm_u I37 2 11 (I37 6 8)) L38 (w, a, (some 1))))))))) ∧ (b20 = true → (C_Rd_takeNumber g 0 99 I17 L18 (w, a, (some 1)) (fun b44 I41 L42 c43 => c43 = (w, a, (some 1)) ∧ Q b44 (gm_u I41 2 10 (I41 6 8)) L42 (w, a, (some 1))))))))) ∧ (b16 = true → Q true (gm_u I13 2 9 1) L14 (w, a, (some 1))))))) ∧ (b12 = true → (C_Rd_readGuesser_2 g I9 L10 (w, a, (some 1)) (fun b48 I45 L46 c47 => c47 = (w, a, (some 1)) ∧ Q b48 I45 L46 (w, a, (some 1))))))))) ∧ (b8 = true → (C_Rd_readPrior_2 g I5 L6 (w, a, (some 1)) (fun b52 I49 L50 c51 => c51 = (w, a, (some 1)) ∧ Q b52 I49 L50 (w, a, (some 1))))))))) ∧ (b4 = true → (C_Rd_readGrid_2 g I1 L2 (w, a, (some 1)) (fun b56 I53 L54 c55 => c55 = (w, a, (some 1)) ∧ Q b56 I53 L54 (w, a, (some 1))))))))) : C_Rd_readLine_2 g  I L (w, a, (some 1)) Q := by
  refine gm_enter (lv := [(0, .ref 6), (1, .ref 2)]) (by decide) rfl rfl rfl rfl ?_
  show Z_Rd_readLine_2 g Q 0 [(0, .ref 6), (1, .ref 2)] [] I L (w, a, (some 1))
  refine gx_aload_n 0 dX5_readLine_0 rfl rfl ?_
  refine gx_ldcS 0 dX5_readLine_1 (by decide) rfl rfl ?_
  refine gx_callV 5 (As := [.ref 1000]) (st := []) dX5_readLine_3 ml_X5_58 mm_X5_takeWord rfl rfl rfl rfl rfl rfl ⟨rfl, rfl⟩ h (fun v h2 hq => ?_)
  clear h
  obtain ⟨b4, I1, L2, c3, rfl, rfl, h⟩ := hq
  obtain ⟨rfl, h⟩ := h
  show Z_Rd_readLine_2 g Q 6 [(0, .ref 6), (1, .ref 2)] [.int (gm_b b4)] I1 L2 (w, a, (some 1))
  refine gx_if_eq 15 dX5_readLine_6 (by decide) ⟨fun z => ?_, fun z => ?_⟩
  · replace h := h.1 (gm_b0.mp z)
    refine gx_aload_n 0 dX5_readLine_15 rfl rfl ?_
    refine gx_ldcS 1 dX5_readLine_16 (by decide) rfl rfl ?_
    refine gx_callV 5 (As := [.ref 1001]) (st := []) dX5_readLine_18 ml_X5_58 mm_X5_takeWord rfl rfl rfl rfl rfl rfl ⟨rfl, rfl⟩ h (fun v h2 hq => ?_)
    clear h
    obtain ⟨b8, I5, L6, c7, rfl, rfl, h⟩ := hq
    obtain ⟨rfl, h⟩ := h
    show Z_Rd_readLine_2 g Q 21 [(0, .ref 6), (1, .ref 2)] [.int (gm_b b8)] I5 L6 (w, a, (some 1))
    refine gx_if_eq 30 dX5_readLine_21 (by decide) ⟨fun z => ?_, fun z => ?_⟩
    · replace h := h.1 (gm_b0.mp z)
      refine gx_aload_n 0 dX5_readLine_30 rfl rfl ?_
      refine gx_ldcS 2 dX5_readLine_31 (by decide) rfl rfl ?_
      refine gx_callV 5 (As := [.ref 1002]) (st := []) dX5_readLine_33 ml_X5_72 mm_X5_isWord rfl rfl rfl rfl rfl rfl ⟨rfl, rfl⟩ h (fun v h2 hq => ?_)
      clear h
      obtain ⟨b12, I9, L10, c11, rfl, rfl, h⟩ := hq
      obtain ⟨rfl, h⟩ := h
      show Z_Rd_readLine_2 g Q 36 [(0, .ref 6), (1, .ref 2)] [.int (gm_b b12)] I9 L10 (w, a, (some 1))
      refine gx_if_eq 45 dX5_readLine_36 (by decide) ⟨fun z => ?_, fun z => ?_⟩
      · replace h := h.1 (gm_b0.mp z)
        refine gx_aload_n 0 dX5_readLine_45 rfl rfl ?_
        refine gx_ldcS 4 dX5_readLine_46 (by decide) rfl rfl ?_
        refine gx_callV 5 (As := [.ref 1004]) (st := []) dX5_readLine_48 ml_X5_58 mm_X5_takeWord rfl rfl rfl rfl rfl rfl ⟨rfl, rfl⟩ h (fun v h2 hq => ?_)
        clear h
        obtain ⟨b16, I13, L14, c15, rfl, rfl, h⟩ := hq
        obtain ⟨rfl, h⟩ := h
        show Z_Rd_readLine_2 g Q 51 [(0, .ref 6), (1, .ref 2)] [.int (gm_b b16)] I13 L14 (w, a, (some 1))
        refine gx_if_eq 61 dX5_readLine_51 (by decide) ⟨fun z => ?_, fun z => ?_⟩
        · replace h := h.1 (gm_b0.mp z)
          refine gx_aload_n 0 dX5_readLine_61 rfl rfl ?_
          refine gx_ldcS 5 dX5_readLine_62 (by decide) rfl rfl ?_
          refine gx_callV 5 (As := [.ref 1005]) (st := []) dX5_readLine_64 ml_X5_58 mm_X5_takeWord rfl rfl rfl rfl rfl rfl ⟨rfl, rfl⟩ h (fun v h2 hq => ?_)
          clear h
          obtain ⟨b20, I17, L18, c19, rfl, rfl, h⟩ := hq
          obtain ⟨rfl, h⟩ := h
          show Z_Rd_readLine_2 g Q 67 [(0, .ref 6), (1, .ref 2)] [.int (gm_b b20)] I17 L18 (w, a, (some 1))
          refine gx_if_eq 88 dX5_readLine_67 (by decide) ⟨fun z => ?_, fun z => ?_⟩
          · replace h := h.1 (gm_b0.mp z)
            refine gx_aload_n 0 dX5_readLine_88 rfl rfl ?_
            refine gx_ldcS 6 dX5_readLine_89 (by decide) rfl rfl ?_
            refine gx_callV 5 (As := [.ref 1006]) (st := []) dX5_readLine_91 ml_X5_58 mm_X5_takeWord rfl rfl rfl rfl rfl rfl ⟨rfl, rfl⟩ h (fun v h2 hq => ?_)
            clear h
            obtain ⟨b24, I21, L22, c23, rfl, rfl, h⟩ := hq
            obtain ⟨rfl, h⟩ := h
            show Z_Rd_readLine_2 g Q 94 [(0, .ref 6), (1, .ref 2)] [.int (gm_b b24)] I21 L22 (w, a, (some 1))
            refine gx_if_eq 116 dX5_readLine_94 (by decide) ⟨fun z => ?_, fun z => ?_⟩
            · replace h := h.1 (gm_b0.mp z)
              refine gx_aload_n 0 dX5_readLine_116 rfl rfl ?_
              refine gx_ldcS 7 dX5_readLine_117 (by decide) rfl rfl ?_
              refine gx_callV 5 (As := [.ref 1007]) (st := []) dX5_readLine_119 ml_X5_58 mm_X5_takeWord rfl rfl rfl rfl rfl rfl ⟨rfl, rfl⟩ h (fun v h2 hq => ?_)
              clear h
              obtain ⟨b28, I25, L26, c27, rfl, rfl, h⟩ := hq
              obtain ⟨rfl, h⟩ := h
              show Z_Rd_readLine_2 g Q 122 [(0, .ref 6), (1, .ref 2)] [.int (gm_b b28)] I25 L26 (w, a, (some 1))
              refine gx_if_eq 144 dX5_readLine_122 (by decide) ⟨fun z => ?_, fun z => ?_⟩
              · replace h := h.1 (gm_b0.mp z)
                refine gx_aload_n 0 dX5_readLine_144 rfl rfl ?_
                refine gx_iconst (v := 2) dX5_readLine_145 (by decide) ?_
                refine gx_callV 5 (As := [.int 2]) (st := []) dX5_readLine_146 ml_X5_103 mm_X5_refuse rfl rfl rfl rfl rfl rfl ⟨rfl, rfl⟩ h (fun v h2 hq => ?_)
                clear h
                obtain ⟨b32, I29, L30, c31, rfl, rfl, h⟩ := hq
                obtain ⟨rfl, h⟩ := h
                show Z_Rd_readLine_2 g Q 149 [(0, .ref 6), (1, .ref 2)] [.int (gm_b b32)] I29 L30 (w, a, (some 1))
                exact gx_zret .boolean dX5_readLine_149 rfl (gm_b_nar _) rfl rfl ⟨b32, _, _, _, rfl, rfl, h⟩
              · replace h := h.2 (gm_bn0 z)
                refine gx_aload_n 0 dX5_readLine_125 rfl rfl ?_
                refine gx_iconst (v := 1) dX5_readLine_126 (by decide) ?_
                refine gx_sipush (v := 999) dX5_readLine_127 (by decide) ?_
                refine gx_callV 5 (As := [.int 1, .int 999]) (st := []) dX5_readLine_130 ml_X5_85 mm_X5_takeNumber rfl rfl rfl rfl rfl rfl ⟨rfl, rfl⟩ h (fun v h2 hq => ?_)
                clear h
                obtain ⟨b36, I33, L34, c35, rfl, rfl, h⟩ := hq
                obtain ⟨rfl, h⟩ := h
                show Z_Rd_readLine_2 g Q 133 [(0, .ref 6), (1, .ref 2)] [.int (gm_b b36)] I33 L34 (w, a, (some 1))
                refine gx_istore_n (lv' := [(0, .ref 6), (1, .ref 2), (2, .int (gm_b b36))]) dX5_readLine_133 rfl rfl rfl ?_
                refine gx_aload_n 1 dX5_readLine_134 rfl rfl ?_
                refine gx_aload_n 0 dX5_readLine_135 rfl rfl ?_
                refine gx_geti 5 8 (v := (I33 6 8)) dX5_readLine_136 fl_X5_89 rfl rfl rfl ?_
                refine gx_puti 1 12 dX5_readLine_139 fl_X5_100 rfl rfl rfl ⟨rfl, rfl⟩ ?_
                show Z_Rd_readLine_2 g Q 142 [(0, .ref 6), (1, .ref 2), (2, .int (gm_b b36))] [] (gm_u I33 2 12 (I33 6 8)) L34 (w, a, (some 1))
                refine gx_iload_n 2 dX5_readLine_142 rfl rfl ?_
                exact gx_zret .boolean dX5_readLine_143 rfl (gm_b_nar _) rfl rfl ⟨b36, _, _, _, rfl, rfl, h⟩
            · replace h := h.2 (gm_bn0 z)
              refine gx_aload_n 0 dX5_readLine_97 rfl rfl ?_
              refine gx_iconst (v := 0) dX5_readLine_98 (by decide) ?_
              refine gx_sipush (v := 9999) dX5_readLine_99 (by decide) ?_
              refine gx_callV 5 (As := [.int 0, .int 9999]) (st := []) dX5_readLine_102 ml_X5_85 mm_X5_takeNumber rfl rfl rfl rfl rfl rfl ⟨rfl, rfl⟩ h (fun v h2 hq => ?_)
              clear h
              obtain ⟨b40, I37, L38, c39, rfl, rfl, h⟩ := hq
              obtain ⟨rfl, h⟩ := h
              show Z_Rd_readLine_2 g Q 105 [(0, .ref 6), (1, .ref 2)] [.int (gm_b b40)] I37 L38 (w, a, (some 1))
              refine gx_istore_n (lv' := [(0, .ref 6), (1, .ref 2), (2, .int (gm_b b40))]) dX5_readLine_105 rfl rfl rfl ?_
              refine gx_aload_n 1 dX5_readLine_106 rfl rfl ?_
              refine gx_aload_n 0 dX5_readLine_107 rfl rfl ?_
              refine gx_geti 5 8 (v := (I37 6 8)) dX5_readLine_108 fl_X5_89 rfl rfl rfl ?_
              refine gx_puti 1 11 dX5_readLine_111 fl_X5_96 rfl rfl rfl ⟨rfl, rfl⟩ ?_
              show Z_Rd_readLine_2 g Q 114 [(0, .ref 6), (1, .ref 2), (2, .int (gm_b b40))] [] (gm_u I37 2 11 (I37 6 8)) L38 (w, a, (some 1))
              refine gx_iload_n 2 dX5_readLine_114 rfl rfl ?_
              exact gx_zret .boolean dX5_readLine_115 rfl (gm_b_nar _) rfl rfl ⟨b40, _, _, _, rfl, rfl, h⟩
          · replace h := h.2 (gm_bn0 z)
            refine gx_aload_n 0 dX5_readLine_70 rfl rfl ?_
            refine gx_iconst (v := 0) dX5_readLine_71 (by decide) ?_
            refine gx_bipush (v := 99) dX5_readLine_72 (by decide) ?_
            refine gx_callV 5 (As := [.int 0, .int 99]) (st := []) dX5_readLine_74 ml_X5_85 mm_X5_takeNumber rfl rfl rfl rfl rfl rfl ⟨rfl, rfl⟩ h (fun v h2 hq => ?_)
            clear h
            obtain ⟨b44, I41, L42, c43, rfl, rfl, h⟩ := hq
            obtain ⟨rfl, h⟩ := h
            show Z_Rd_readLine_2 g Q 77 [(0, .ref 6), (1, .ref 2)] [.int (gm_b b44)] I41 L42 (w, a, (some 1))
            refine gx_istore_n (lv' := [(0, .ref 6), (1, .ref 2), (2, .int (gm_b b44))]) dX5_readLine_77 rfl rfl rfl ?_
            refine gx_aload_n 1 dX5_readLine_78 rfl rfl ?_
            refine gx_aload_n 0 dX5_readLine_79 rfl rfl ?_
            refine gx_geti 5 8 (v := (I41 6 8)) dX5_readLine_80 fl_X5_89 rfl rfl rfl ?_
            refine gx_puti 1 10 dX5_readLine_83 fl_X5_92 rfl rfl rfl ⟨rfl, rfl⟩ ?_
            show Z_Rd_readLine_2 g Q 86 [(0, .ref 6), (1, .ref 2), (2, .int (gm_b b44))] [] (gm_u I41 2 10 (I41 6 8)) L42 (w, a, (some 1))
            refine gx_iload_n 2 dX5_readLine_86 rfl rfl ?_
            exact gx_zret .boolean dX5_readLine_87 rfl (gm_b_nar _) rfl rfl ⟨b44, _, _, _, rfl, rfl, h⟩
        · replace h := h.2 (gm_bn0 z)
          refine gx_aload_n 1 dX5_readLine_54 rfl rfl ?_
          refine gx_iconst (v := 1) dX5_readLine_55 (by decide) ?_
          refine gx_puti 1 9 dX5_readLine_56 fl_X5_80 rfl rfl rfl ⟨rfl, rfl⟩ ?_
          show Z_Rd_readLine_2 g Q 59 [(0, .ref 6), (1, .ref 2)] [] (gm_u I13 2 9 1) L14 (w, a, (some 1))
          refine gx_iconst (v := 1) dX5_readLine_59 (by decide) ?_
          exact gx_zret .boolean dX5_readLine_60 rfl rfl rfl rfl ⟨true, _, _, _, rfl, rfl, h⟩
      · replace h := h.2 (gm_bn0 z)
        refine gx_aload_n 0 dX5_readLine_39 rfl rfl ?_
        refine gx_aload_n 1 dX5_readLine_40 rfl rfl ?_
        refine gx_callV 5 (As := [.ref 2]) (st := []) dX5_readLine_41 ml_X5_75 mm_X5_readGuesser rfl rfl rfl rfl rfl rfl ⟨rfl, rfl⟩ h (fun v h2 hq => ?_)
        clear h
        obtain ⟨b48, I45, L46, c47, rfl, rfl, h⟩ := hq
        obtain ⟨rfl, h⟩ := h
        show Z_Rd_readLine_2 g Q 44 [(0, .ref 6), (1, .ref 2)] [.int (gm_b b48)] I45 L46 (w, a, (some 1))
        exact gx_zret .boolean dX5_readLine_44 rfl (gm_b_nar _) rfl rfl ⟨b48, _, _, _, rfl, rfl, h⟩
    · replace h := h.2 (gm_bn0 z)
      refine gx_aload_n 0 dX5_readLine_24 rfl rfl ?_
      refine gx_aload_n 1 dX5_readLine_25 rfl rfl ?_
      refine gx_callV 5 (As := [.ref 2]) (st := []) dX5_readLine_26 ml_X5_67 mm_X5_readPrior rfl rfl rfl rfl rfl rfl ⟨rfl, rfl⟩ h (fun v h2 hq => ?_)
      clear h
      obtain ⟨b52, I49, L50, c51, rfl, rfl, h⟩ := hq
      obtain ⟨rfl, h⟩ := h
      show Z_Rd_readLine_2 g Q 29 [(0, .ref 6), (1, .ref 2)] [.int (gm_b b52)] I49 L50 (w, a, (some 1))
      exact gx_zret .boolean dX5_readLine_29 rfl (gm_b_nar _) rfl rfl ⟨b52, _, _, _, rfl, rfl, h⟩
  · replace h := h.2 (gm_bn0 z)
    refine gx_aload_n 0 dX5_readLine_9 rfl rfl ?_
    refine gx_aload_n 1 dX5_readLine_10 rfl rfl ?_
    refine gx_callV 5 (As := [.ref 2]) (st := []) dX5_readLine_11 ml_X5_62 mm_X5_readGrid rfl rfl rfl rfl rfl rfl ⟨rfl, rfl⟩ h (fun v h2 hq => ?_)
    clear h
    obtain ⟨b56, I53, L54, c55, rfl, rfl, h⟩ := hq
    obtain ⟨rfl, h⟩ := h
    show Z_Rd_readLine_2 g Q 14 [(0, .ref 6), (1, .ref 2)] [.int (gm_b b56)] I53 L54 (w, a, (some 1))
    exact gx_zret .boolean dX5_readLine_14 rfl (gm_b_nar _) rfl rfl ⟨b56, _, _, _, rfl, rfl, h⟩
abbrev Z_Rd_endLine (g : gm_G) (Q : Bool → mI → mL → gm_cfg → Prop) (pc : Nat) (lv : List (Nat × Value)) (st : List Value) (I : mI) (L : mL) (c : gm_cfg) : Prop := gm_X g RX5 "endLine" cX5_endLine 1 (some .boolean) 3 0 0 (qZ Q) 0 0 pc lv st (SH, I, L, RR c)
abbrev C_Rd_endLine (g : gm_G) (I : mI) (L : mL) (c : gm_cfg) (Q : Bool → mI → mL → gm_cfg → Prop) : Prop := gm_Met g yX5_endLine cX5_endLine 1 (some .boolean) 3 0 0 [.ref 6] (SH, I, L, RR c) (qZ Q)
set_option maxRecDepth 100000 in
theorem e_Rd_endLine {g : gm_G} {Q : Bool → mI → mL → gm_cfg → Prop} {I : mI} {L : mL} {w a : Option Nat} (h : (((I 6 4) = 2 → (C_Rd_next g I L (w, a, (some 1)) (fun I1 L2 c3 => c3 = (w, a, (some 1)) ∧ Q true I1 L2 (w, a, (some 1))))) ∧ (¬ (I 6 4) = 2 → (C_Rd_refuse g 2 I L (w, a, (some 1)) (fun b7 I4 L5 c6 => c6 = (w, a, (some 1)) ∧ Q b7 I4 L5 (w, a, (some 1))))))) : C_Rd_endLine g  I L (w, a, (some 1)) Q := by
  refine gm_enter (lv := [(0, .ref 6)]) (by decide) rfl rfl rfl rfl ?_
  show Z_Rd_endLine g Q 0 [(0, .ref 6)] [] I L (w, a, (some 1))
  refine gx_aload_n 0 dX5_endLine_0 rfl rfl ?_
  refine gx_geti 5 4 (v := (I 6 4)) dX5_endLine_1 fl_X5_42 rfl rfl rfl ?_
  refine gx_iconst (v := 2) dX5_endLine_4 (by decide) ?_
  refine gx_icmp_eq 14 dX5_endLine_5 (by decide) ⟨fun z => ?_, fun z => ?_⟩
  · replace h := h.1 z
    refine gx_aload_n 0 dX5_endLine_14 rfl rfl ?_
    refine gx_callV 5 (As := []) (st := []) dX5_endLine_15 ml_X5_39 mm_X5_next rfl rfl rfl rfl rfl rfl ⟨rfl, rfl⟩ h (fun v h2 hq => ?_)
    clear h
    obtain ⟨I1, L2, c3, rfl, rfl, h⟩ := hq
    obtain ⟨rfl, h⟩ := h
    show Z_Rd_endLine g Q 18 [(0, .ref 6)] [] I1 L2 (w, a, (some 1))
    refine gx_iconst (v := 1) dX5_endLine_18 (by decide) ?_
    exact gx_zret .boolean dX5_endLine_19 rfl rfl rfl rfl ⟨true, _, _, _, rfl, rfl, h⟩
  · replace h := h.2 z
    refine gx_aload_n 0 dX5_endLine_8 rfl rfl ?_
    refine gx_iconst (v := 2) dX5_endLine_9 (by decide) ?_
    refine gx_callV 5 (As := [.int 2]) (st := []) dX5_endLine_10 ml_X5_103 mm_X5_refuse rfl rfl rfl rfl rfl rfl ⟨rfl, rfl⟩ h (fun v h2 hq => ?_)
    clear h
    obtain ⟨b7, I4, L5, c6, rfl, rfl, h⟩ := hq
    obtain ⟨rfl, h⟩ := h
    show Z_Rd_endLine g Q 13 [(0, .ref 6)] [.int (gm_b b7)] I4 L5 (w, a, (some 1))
    exact gx_zret .boolean dX5_endLine_13 rfl (gm_b_nar _) rfl rfl ⟨b7, _, _, _, rfl, rfl, h⟩
abbrev Z_Rd_readText_1_2 (g : gm_G) (Q : mI → mL → gm_cfg → Prop) (pc : Nat) (lv : List (Nat × Value)) (st : List Value) (I : mI) (L : mL) (c : gm_cfg) : Prop := gm_X g RX5 "readText" cX5_readText 5 none 9 0 0 (qV Q) 0 0 pc lv st (SH, I, L, RR c)
abbrev C_Rd_readText_1_2 (g : gm_G) (x2 : Int32) (I : mI) (L : mL) (c : gm_cfg) (Q : mI → mL → gm_cfg → Prop) : Prop := gm_Met g yX5_readText cX5_readText 5 none 9 0 0 [.ref 6, .ref 1, .int x2, .ref 2] (SH, I, L, RR c) (qV Q)
set_option maxRecDepth 100000 in
theorem e_Rd_readText_1_2 {g : gm_G} {Q : mI → mL → gm_cfg → Prop} {x2 : Int32} {I : mI} {L : mL} {w a t : Option Nat} (h : (C_Fe2_clear g (gm_u (gm_u (gm_u (gm_u I 6 3 ((if 700 < x2 then 700 else x2) : Int32)) 6 6 0) 6 0 0) 6 1 (-1)) L (w, a, (some 1)) (fun I1 L2 c3 => c3 = (w, a, (some 1)) ∧ (C_Rd_next g I1 L2 (w, a, (some 1)) (fun I4 L5 c6 => c6 = (w, a, (some 1)) ∧ Z_Rd_readText_1_2 g Q 41 [(0, .ref 6), (1, .ref 1), (2, .int x2), (3, .ref 2), (4, .int 0)] [] I4 L5 (w, a, (some 1))))))) : C_Rd_readText_1_2 g x2 I L (w, a, t) Q := by
  refine gm_enter (lv := [(0, .ref 6), (1, .ref 1), (2, .int x2), (3, .ref 2)]) (by decide) rfl rfl rfl rfl ?_
  show Z_Rd_readText_1_2 g Q 0 [(0, .ref 6), (1, .ref 1), (2, .int x2), (3, .ref 2)] [] I L (w, a, t)
  refine gx_aload_n 0 dX5_readText_0 rfl rfl ?_
  refine gx_aload_n 1 dX5_readText_1 rfl rfl ?_
  refine gx_putr 5 2 (v := 1) dX5_readText_2 fl_X5_15 rfl rfl rfl ⟨rfl, rfl⟩ ?_
  rw [RR_2]
  show Z_Rd_readText_1_2 g Q 5 [(0, .ref 6), (1, .ref 1), (2, .int x2), (3, .ref 2)] [] I L (w, a, (some 1))
  refine gx_aload_n 0 dX5_readText_5 rfl rfl ?_
  refine gx_iload_n 2 dX5_readText_6 rfl rfl ?_
  refine gx_aload_n 1 dX5_readText_7 rfl rfl ?_
  refine gx_alen (v := 700) dX5_readText_8 rfl rfl rfl rfl ?_
  refine gx_mmin dX5_readText_9 ml_X5_19 mw_min rfl rfl rfl rfl ?_
  refine gx_puti 5 3 dX5_readText_12 fl_X5_25 rfl rfl rfl ⟨rfl, rfl⟩ ?_
  show Z_Rd_readText_1_2 g Q 15 [(0, .ref 6), (1, .ref 1), (2, .int x2), (3, .ref 2)] [] (gm_u I 6 3 ((if 700 < x2 then 700 else x2) : Int32)) L (w, a, (some 1))
  refine gx_aload_n 0 dX5_readText_15 rfl rfl ?_
  refine gx_iconst (v := 0) dX5_readText_16 (by decide) ?_
  refine gx_puti 5 6 dX5_readText_17 fl_X5_28 rfl rfl rfl ⟨rfl, rfl⟩ ?_
  show Z_Rd_readText_1_2 g Q 20 [(0, .ref 6), (1, .ref 1), (2, .int x2), (3, .ref 2)] [] (gm_u (gm_u I 6 3 ((if 700 < x2 then 700 else x2) : Int32)) 6 6 0) L (w, a, (some 1))
  refine gx_aload_n 0 dX5_readText_20 rfl rfl ?_
  refine gx_iconst (v := 0) dX5_readText_21 (by decide) ?_
  refine gx_puti 5 0 dX5_readText_22 fl_X5_31 rfl rfl rfl ⟨rfl, rfl⟩ ?_
  show Z_Rd_readText_1_2 g Q 25 [(0, .ref 6), (1, .ref 1), (2, .int x2), (3, .ref 2)] [] (gm_u (gm_u (gm_u I 6 3 ((if 700 < x2 then 700 else x2) : Int32)) 6 6 0) 6 0 0) L (w, a, (some 1))
  refine gx_aload_n 0 dX5_readText_25 rfl rfl ?_
  refine gx_iconst (v := (-1)) dX5_readText_26 (by decide) ?_
  refine gx_puti 5 1 dX5_readText_27 fl_X5_9 rfl rfl rfl ⟨rfl, rfl⟩ ?_
  show Z_Rd_readText_1_2 g Q 30 [(0, .ref 6), (1, .ref 1), (2, .int x2), (3, .ref 2)] [] (gm_u (gm_u (gm_u (gm_u I 6 3 ((if 700 < x2 then 700 else x2) : Int32)) 6 6 0) 6 0 0) 6 1 (-1)) L (w, a, (some 1))
  refine gx_aload_n 3 dX5_readText_30 rfl rfl ?_
  refine gx_callV 1 (As := []) (st := []) dX5_readText_31 ml_X5_34 mm_X1_clear rfl rfl rfl rfl rfl rfl ⟨rfl, rfl⟩ h (fun v h2 hq => ?_)
  clear h
  obtain ⟨I1, L2, c3, rfl, rfl, h⟩ := hq
  obtain ⟨rfl, h⟩ := h
  show Z_Rd_readText_1_2 g Q 34 [(0, .ref 6), (1, .ref 1), (2, .int x2), (3, .ref 2)] [] I1 L2 (w, a, (some 1))
  refine gx_aload_n 0 dX5_readText_34 rfl rfl ?_
  refine gx_callV 5 (As := []) (st := []) dX5_readText_35 ml_X5_39 mm_X5_next rfl rfl rfl rfl rfl rfl ⟨rfl, rfl⟩ h (fun v h2 hq => ?_)
  clear h
  obtain ⟨I4, L5, c6, rfl, rfl, h⟩ := hq
  obtain ⟨rfl, h⟩ := h
  show Z_Rd_readText_1_2 g Q 38 [(0, .ref 6), (1, .ref 1), (2, .int x2), (3, .ref 2)] [] I4 L5 (w, a, (some 1))
  refine gx_iconst (v := 0) dX5_readText_38 (by decide) ?_
  refine gx_istore (lv' := [(0, .ref 6), (1, .ref 1), (2, .int x2), (3, .ref 2), (4, .int 0)]) dX5_readText_39 rfl rfl ?_
  exact h
set_option maxRecDepth 100000 in
theorem r_Rd_readText_1_2_41 {g : gm_G} {Q : mI → mL → gm_cfg → Prop} {x2 x4 : Int32} {I : mI} {L : mL} {w a : Option Nat} (h : (((I 6 3) ≤ x4 → Q I L (w, a, (some 1))) ∧ (¬ (I 6 3) ≤ x4 → (((I 6 4) = 3 → Q I L (w, a, (some 1))) ∧ (¬ (I 6 4) = 3 → (C_Rd_readLine_2 g I L (w, a, (some 1)) (fun b4 I1 L2 c3 => c3 = (w, a, (some 1)) ∧ ((b4 = false → Q I1 L2 (w, a, (some 1))) ∧ (b4 = true → (C_Rd_endLine g I1 L2 (w, a, (some 1)) (fun b8 I5 L6 c7 => c7 = (w, a, (some 1)) ∧ ((b8 = false → Q I5 L6 (w, a, (some 1))) ∧ (b8 = true → Z_Rd_readText_1_2 g Q 41 [(0, .ref 6), (1, .ref 1), (2, .int x2), (3, .ref 2), (4, .int (x4 + 1))] [] (gm_u I5 2 13 ((I5 2 13) + 1)) L6 (w, a, (some 1))))))))))))))) : Z_Rd_readText_1_2 g Q 41 [(0, .ref 6), (1, .ref 1), (2, .int x2), (3, .ref 2), (4, .int x4)] [] I L (w, a, (some 1)) := by
  refine gx_iload 4 dX5_readText_41 rfl ?_
  refine gx_aload_n 0 dX5_readText_43 rfl rfl ?_
  refine gx_geti 5 3 (v := (I 6 3)) dX5_readText_44 fl_X5_25 rfl rfl rfl ?_
  refine gx_icmp_ge 90 dX5_readText_47 (by decide) ⟨fun z => ?_, fun z => ?_⟩
  · replace h := h.1 z
    exact gx_vret dX5_readText_90 rfl rfl rfl ⟨_, _, _, rfl, rfl, h⟩
  · replace h := h.2 z
    refine gx_aload_n 0 dX5_readText_50 rfl rfl ?_
    refine gx_geti 5 4 (v := (I 6 4)) dX5_readText_51 fl_X5_42 rfl rfl rfl ?_
    refine gx_iconst (v := 3) dX5_readText_54 (by decide) ?_
    refine gx_icmp_eq 90 dX5_readText_55 (by decide) ⟨fun z => ?_, fun z => ?_⟩
    · replace h := h.1 z
      exact gx_vret dX5_readText_90 rfl rfl rfl ⟨_, _, _, rfl, rfl, h⟩
    · replace h := h.2 z
      refine gx_aload_n 0 dX5_readText_58 rfl rfl ?_
      refine gx_aload_n 3 dX5_readText_59 rfl rfl ?_
      refine gx_callV 5 (As := [.ref 2]) (st := []) dX5_readText_60 ml_X5_45 mm_X5_readLine rfl rfl rfl rfl rfl rfl ⟨rfl, rfl⟩ h (fun v h2 hq => ?_)
      clear h
      obtain ⟨b4, I1, L2, c3, rfl, rfl, h⟩ := hq
      obtain ⟨rfl, h⟩ := h
      show Z_Rd_readText_1_2 g Q 63 [(0, .ref 6), (1, .ref 1), (2, .int x2), (3, .ref 2), (4, .int x4)] [.int (gm_b b4)] I1 L2 (w, a, (some 1))
      refine gx_if_eq 73 dX5_readText_63 (by decide) ⟨fun z => ?_, fun z => ?_⟩
      · replace h := h.1 (gm_b0.mp z)
        exact gx_vret dX5_readText_73 rfl rfl rfl ⟨_, _, _, rfl, rfl, h⟩
      · replace h := h.2 (gm_bn0 z)
        refine gx_aload_n 0 dX5_readText_66 rfl rfl ?_
        refine gx_callV 5 (As := []) (st := []) dX5_readText_67 ml_X5_49 mm_X5_endLine rfl rfl rfl rfl rfl rfl ⟨rfl, rfl⟩ h (fun v h2 hq => ?_)
        clear h
        obtain ⟨b8, I5, L6, c7, rfl, rfl, h⟩ := hq
        obtain ⟨rfl, h⟩ := h
        show Z_Rd_readText_1_2 g Q 70 [(0, .ref 6), (1, .ref 1), (2, .int x2), (3, .ref 2), (4, .int x4)] [.int (gm_b b8)] I5 L6 (w, a, (some 1))
        refine gx_if_ne 74 dX5_readText_70 (by decide) ⟨fun z => ?_, fun z => ?_⟩
        · replace h := h.1 (gm_b0.mp z)
          exact gx_vret dX5_readText_73 rfl rfl rfl ⟨_, _, _, rfl, rfl, h⟩
        · replace h := h.2 (gm_bn0 z)
          refine gx_aload_n 3 dX5_readText_74 rfl rfl ?_
          refine gx_dup dX5_readText_75 rfl ?_
          refine gx_geti 1 13 (v := (I5 2 13)) dX5_readText_76 fl_X5_53 rfl rfl rfl ?_
          refine gx_iconst (v := 1) dX5_readText_79 (by decide) ?_
          refine gx_iadd dX5_readText_80 ?_
          refine gx_puti 1 13 dX5_readText_81 fl_X5_53 rfl rfl rfl ⟨rfl, rfl⟩ ?_
          show Z_Rd_readText_1_2 g Q 84 [(0, .ref 6), (1, .ref 1), (2, .int x2), (3, .ref 2), (4, .int x4)] [] (gm_u I5 2 13 ((I5 2 13) + 1)) L6 (w, a, (some 1))
          refine gx_iinc (v := (x4 + 1)) (lv' := [(0, .ref 6), (1, .ref 1), (2, .int x2), (3, .ref 2), (4, .int (x4 + 1))]) 4 dX5_readText_84 rfl rfl rfl rfl ?_
          refine gx_goto 41 dX5_readText_87 (by decide) ?_
          exact h
abbrev Z_Sr_reachBehind (g : gm_G) (Q : Nat → mI → mL → gm_cfg → Prop) (pc : Nat) (lv : List (Nat × Value)) (st : List Value) (I : mI) (L : mL) (c : gm_cfg) : Prop := gm_X g RX7 "reachBehind" cX7_reachBehind 4 (some (.object "JarGuess$Reach")) 2 0 0 (qR Q) 0 0 pc lv st (SH, I, L, RR c)
abbrev C_Sr_reachBehind (g : gm_G) (x1 : Int32) (x2 : Int32) (I : mI) (L : mL) (c : gm_cfg) (Q : Nat → mI → mL → gm_cfg → Prop) : Prop := gm_Met g yX7_reachBehind cX7_reachBehind 4 (some (.object "JarGuess$Reach")) 2 0 0 [.ref 23, .int x1, .int x2] (SH, I, L, RR c) (qR Q)
set_option maxRecDepth 100000 in
theorem e_Sr_reachBehind {g : gm_G} {Q : Nat → mI → mL → gm_cfg → Prop} {x1 x2 : Int32} {I : mI} {L : mL} {c : gm_cfg} (h : (C_Re_open g x1 (I 16 0) (I 16 1) I L c (fun I1 L2 c3 => Z_Sr_reachBehind g Q 24 [(0, .ref 23), (1, .int x1), (2, .int x2), (3, .int 0)] [] I1 L2 c3))) : C_Sr_reachBehind g x1 x2 I L c Q := by
  refine gm_enter (lv := [(0, .ref 23), (1, .int x1), (2, .int x2)]) (by decide) rfl rfl rfl rfl ?_
  show Z_Sr_reachBehind g Q 0 [(0, .ref 23), (1, .int x1), (2, .int x2)] [] I L c
  refine gx_aload_n 0 dX7_reachBehind_0 rfl rfl ?_
  refine gx_getr 7 2 (v := 24) dX7_reachBehind_1 fl_X7_12 rfl rfl rfl ?_
  refine gx_iload_n 1 dX7_reachBehind_4 rfl rfl ?_
  refine gx_aload_n 0 dX7_reachBehind_5 rfl rfl ?_
  refine gx_getr 7 0 (v := 16) dX7_reachBehind_6 fl_X7_32 rfl rfl rfl ?_
  refine gx_geti 1 0 (v := (I 16 0)) dX7_reachBehind_9 fl_X7_40 rfl rfl rfl ?_
  refine gx_aload_n 0 dX7_reachBehind_12 rfl rfl ?_
  refine gx_getr 7 0 (v := 16) dX7_reachBehind_13 fl_X7_32 rfl rfl rfl ?_
  refine gx_geti 1 1 (v := (I 16 1)) dX7_reachBehind_16 fl_X7_96 rfl rfl rfl ?_
  refine gx_callV 4 (As := [.int x1, .int (I 16 0), .int (I 16 1)]) (st := []) dX7_reachBehind_19 ml_X7_118 mm_X4_open rfl rfl rfl rfl rfl rfl ⟨rfl, rfl⟩ h (fun v h2 hq => ?_)
  clear h
  obtain ⟨I1, L2, c3, rfl, rfl, h⟩ := hq
  show Z_Sr_reachBehind g Q 22 [(0, .ref 23), (1, .int x1), (2, .int x2)] [] I1 L2 c3
  refine gx_iconst (v := 0) dX7_reachBehind_22 (by decide) ?_
  refine gx_istore_n (lv' := [(0, .ref 23), (1, .int x1), (2, .int x2), (3, .int 0)]) dX7_reachBehind_23 rfl rfl rfl ?_
  exact h
set_option maxRecDepth 100000 in
theorem r_Sr_reachBehind_24 {g : gm_G} {Q : Nat → mI → mL → gm_cfg → Prop} {x1 x2 x3 : Int32} {I : mI} {L : mL} {c : gm_cfg} (h : ((x2 ≤ x3 → Q 24 I L c) ∧ (¬ x2 ≤ x3 → (C_Sh20_has g x3 I L c (fun b4 I1 L2 c3 => ((b4 = false → Q 24 I1 L2 c3) ∧ (b4 = true → (vp_in x3 40 ∧ (C_Re_yieldTo g (I1 21 (Int32.toNatClampNeg x3)) I1 L2 c3 (fun I5 L6 c7 => Z_Sr_reachBehind g Q 24 [(0, .ref 23), (1, .int x1), (2, .int x2), (3, .int (x3 + 1))] [] I5 L6 c7)))))))))) : Z_Sr_reachBehind g Q 24 [(0, .ref 23), (1, .int x1), (2, .int x2), (3, .int x3)] [] I L c := by
  refine gx_iload_n 3 dX7_reachBehind_24 rfl rfl ?_
  refine gx_iload_n 2 dX7_reachBehind_25 rfl rfl ?_
  refine gx_icmp_ge 62 dX7_reachBehind_26 (by decide) ⟨fun z => ?_, fun z => ?_⟩
  · replace h := h.1 z
    refine gx_aload_n 0 dX7_reachBehind_62 rfl rfl ?_
    refine gx_getr 7 2 (v := 24) dX7_reachBehind_63 fl_X7_12 rfl rfl rfl ?_
    exact gx_aret dX7_reachBehind_66 rfl rfl rfl ⟨_, _, _, _, rfl, rfl, h⟩
  · replace h := h.2 z
    refine gx_aload_n 0 dX7_reachBehind_29 rfl rfl ?_
    refine gx_getr 7 1 (v := 20) dX7_reachBehind_30 fl_X7_36 rfl rfl rfl ?_
    refine gx_iload_n 3 dX7_reachBehind_33 rfl rfl ?_
    refine gx_callV 8 (As := [.int x3]) (st := []) dX7_reachBehind_34 ml_X7_58 mm_X8_has rfl rfl rfl rfl rfl rfl ⟨rfl, rfl⟩ h (fun v h2 hq => ?_)
    clear h
    obtain ⟨b4, I1, L2, c3, rfl, rfl, h⟩ := hq
    show Z_Sr_reachBehind g Q 37 [(0, .ref 23), (1, .int x1), (2, .int x2), (3, .int x3)] [.int (gm_b b4)] I1 L2 c3
    refine gx_if_eq 62 dX7_reachBehind_37 (by decide) ⟨fun z => ?_, fun z => ?_⟩
    · replace h := h.1 (gm_b0.mp z)
      refine gx_aload_n 0 dX7_reachBehind_62 rfl rfl ?_
      refine gx_getr 7 2 (v := 24) dX7_reachBehind_63 fl_X7_12 rfl rfl rfl ?_
      exact gx_aret dX7_reachBehind_66 rfl rfl rfl ⟨_, _, _, _, rfl, rfl, h⟩
    · replace h := h.2 (gm_bn0 z)
      refine gx_aload_n 0 dX7_reachBehind_40 rfl rfl ?_
      refine gx_getr 7 2 (v := 24) dX7_reachBehind_41 fl_X7_12 rfl rfl rfl ?_
      refine gx_aload_n 0 dX7_reachBehind_44 rfl rfl ?_
      refine gx_getr 7 1 (v := 20) dX7_reachBehind_45 fl_X7_36 rfl rfl rfl ?_
      refine gx_getr 8 0 (v := 21) dX7_reachBehind_48 fl_X7_68 rfl rfl rfl ?_
      refine gx_iload_n 3 dX7_reachBehind_51 rfl rfl ?_
      obtain ⟨hi, h⟩ := h
      refine gx_iald (v := (I1 21 (Int32.toNatClampNeg x3))) dX7_reachBehind_52 rfl rfl hi (k := (Int32.toNatClampNeg x3)) rfl rfl ?_
      refine gx_callV 4 (As := [.int (I1 21 (Int32.toNatClampNeg x3))]) (st := []) dX7_reachBehind_53 ml_X7_122 mm_X4_yieldTo rfl rfl rfl rfl rfl rfl ⟨rfl, rfl⟩ h (fun v h2 hq => ?_)
      clear h
      obtain ⟨I5, L6, c7, rfl, rfl, h⟩ := hq
      show Z_Sr_reachBehind g Q 56 [(0, .ref 23), (1, .int x1), (2, .int x2), (3, .int x3)] [] I5 L6 c7
      refine gx_iinc (v := (x3 + 1)) (lv' := [(0, .ref 23), (1, .int x1), (2, .int x2), (3, .int (x3 + 1))]) 3 dX7_reachBehind_56 rfl rfl rfl rfl ?_
      refine gx_goto 24 dX7_reachBehind_59 (by decide) ?_
      exact h
abbrev Z_Sr_reachOf (g : gm_G) (Q : Nat → mI → mL → gm_cfg → Prop) (pc : Nat) (lv : List (Nat × Value)) (st : List Value) (I : mI) (L : mL) (c : gm_cfg) : Prop := gm_X g RX7 "reachOf" cX7_reachOf 3 (some (.object "JarGuess$Reach")) 3 0 0 (qR Q) 0 0 pc lv st (SH, I, L, RR c)
abbrev C_Sr_reachOf (g : gm_G) (x1 : Int32) (I : mI) (L : mL) (c : gm_cfg) (Q : Nat → mI → mL → gm_cfg → Prop) : Prop := gm_Met g yX7_reachOf cX7_reachOf 3 (some (.object "JarGuess$Reach")) 3 0 0 [.ref 23, .int x1] (SH, I, L, RR c) (qR Q)
set_option maxRecDepth 100000 in
theorem e_Sr_reachOf {g : gm_G} {Q : Nat → mI → mL → gm_cfg → Prop} {x1 : Int32} {I : mI} {L : mL} {c : gm_cfg} (h : (C_Sh20_has g x1 I L c (fun b4 I1 L2 c3 => ((b4 = false → Z_Sr_reachOf g Q 30 [(0, .ref 23), (1, .int x1), (2, .int (x1 + 1))] [] I1 L2 c3) ∧ (b4 = true → (vp_in x1 40 ∧ (C_Sr_reachBehind g (I1 21 (Int32.toNatClampNeg x1)) x1 I1 L2 c3 (fun o8 I5 L6 c7 => o8 = 24 ∧ Z_Sr_reachOf g Q 30 [(0, .ref 23), (1, .int x1), (2, .int (x1 + 1))] [] I5 L6 c7)))))))) : C_Sr_reachOf g x1 I L c Q := by
  refine gm_enter (lv := [(0, .ref 23), (1, .int x1)]) (by decide) rfl rfl rfl rfl ?_
  show Z_Sr_reachOf g Q 0 [(0, .ref 23), (1, .int x1)] [] I L c
  refine gx_aload_n 0 dX7_reachOf_0 rfl rfl ?_
  refine gx_getr 7 1 (v := 20) dX7_reachOf_1 fl_X7_36 rfl rfl rfl ?_
  refine gx_iload_n 1 dX7_reachOf_4 rfl rfl ?_
  refine gx_callV 8 (As := [.int x1]) (st := []) dX7_reachOf_5 ml_X7_58 mm_X8_has rfl rfl rfl rfl rfl rfl ⟨rfl, rfl⟩ h (fun v h2 hq => ?_)
  clear h
  obtain ⟨b4, I1, L2, c3, rfl, rfl, h⟩ := hq
  show Z_Sr_reachOf g Q 8 [(0, .ref 23), (1, .int x1)] [.int (gm_b b4)] I1 L2 c3
  refine gx_if_eq 26 dX7_reachOf_8 (by decide) ⟨fun z => ?_, fun z => ?_⟩
  · replace h := h.1 (gm_b0.mp z)
    refine gx_iload_n 1 dX7_reachOf_26 rfl rfl ?_
    refine gx_iconst (v := 1) dX7_reachOf_27 (by decide) ?_
    refine gx_iadd dX7_reachOf_28 ?_
    refine gx_istore_n (lv' := [(0, .ref 23), (1, .int x1), (2, .int (x1 + 1))]) dX7_reachOf_29 rfl rfl rfl ?_
    exact h
  · replace h := h.2 (gm_bn0 z)
    refine gx_aload_n 0 dX7_reachOf_11 rfl rfl ?_
    refine gx_aload_n 0 dX7_reachOf_12 rfl rfl ?_
    refine gx_getr 7 1 (v := 20) dX7_reachOf_13 fl_X7_36 rfl rfl rfl ?_
    refine gx_getr 8 0 (v := 21) dX7_reachOf_16 fl_X7_68 rfl rfl rfl ?_
    refine gx_iload_n 1 dX7_reachOf_19 rfl rfl ?_
    obtain ⟨hi, h⟩ := h
    refine gx_iald (v := (I1 21 (Int32.toNatClampNeg x1))) dX7_reachOf_20 rfl rfl hi (k := (Int32.toNatClampNeg x1)) rfl rfl ?_
    refine gx_iload_n 1 dX7_reachOf_21 rfl rfl ?_
    refine gx_callV 7 (As := [.int (I1 21 (Int32.toNatClampNeg x1)), .int x1]) (st := []) dX7_reachOf_22 ml_X7_126 mm_X7_reachBehind rfl rfl rfl rfl rfl rfl ⟨rfl, rfl⟩ h (fun v h2 hq => ?_)
    clear h
    obtain ⟨o8, I5, L6, c7, rfl, rfl, h⟩ := hq
    obtain ⟨rfl, h⟩ := h
    show Z_Sr_reachOf g Q 25 [(0, .ref 23), (1, .int x1)] [.ref 24] I5 L6 c7
    refine gx_pop dX7_reachOf_25 rfl ?_
    refine gx_iload_n 1 dX7_reachOf_26 rfl rfl ?_
    refine gx_iconst (v := 1) dX7_reachOf_27 (by decide) ?_
    refine gx_iadd dX7_reachOf_28 ?_
    refine gx_istore_n (lv' := [(0, .ref 23), (1, .int x1), (2, .int (x1 + 1))]) dX7_reachOf_29 rfl rfl rfl ?_
    exact h
set_option maxRecDepth 100000 in
theorem r_Sr_reachOf_30 {g : gm_G} {Q : Nat → mI → mL → gm_cfg → Prop} {x1 x2 : Int32} {I : mI} {L : mL} {c : gm_cfg} (h : (((I 20 2) ≤ x2 → Q 24 I L c) ∧ (¬ (I 20 2) ≤ x2 → (vp_in x2 40 ∧ (C_Re_keepFrom g (I 21 (Int32.toNatClampNeg x2)) I L c (fun I1 L2 c3 => Z_Sr_reachOf g Q 30 [(0, .ref 23), (1, .int x1), (2, .int (x2 + 1))] [] I1 L2 c3)))))) : Z_Sr_reachOf g Q 30 [(0, .ref 23), (1, .int x1), (2, .int x2)] [] I L c := by
  refine gx_iload_n 2 dX7_reachOf_30 rfl rfl ?_
  refine gx_aload_n 0 dX7_reachOf_31 rfl rfl ?_
  refine gx_getr 7 1 (v := 20) dX7_reachOf_32 fl_X7_36 rfl rfl rfl ?_
  refine gx_geti 8 2 (v := (I 20 2)) dX7_reachOf_35 fl_X7_130 rfl rfl rfl ?_
  refine gx_icmp_ge 63 dX7_reachOf_38 (by decide) ⟨fun z => ?_, fun z => ?_⟩
  · replace h := h.1 z
    refine gx_aload_n 0 dX7_reachOf_63 rfl rfl ?_
    refine gx_getr 7 2 (v := 24) dX7_reachOf_64 fl_X7_12 rfl rfl rfl ?_
    exact gx_aret dX7_reachOf_67 rfl rfl rfl ⟨_, _, _, _, rfl, rfl, h⟩
  · replace h := h.2 z
    refine gx_aload_n 0 dX7_reachOf_41 rfl rfl ?_
    refine gx_getr 7 2 (v := 24) dX7_reachOf_42 fl_X7_12 rfl rfl rfl ?_
    refine gx_aload_n 0 dX7_reachOf_45 rfl rfl ?_
    refine gx_getr 7 1 (v := 20) dX7_reachOf_46 fl_X7_36 rfl rfl rfl ?_
    refine gx_getr 8 0 (v := 21) dX7_reachOf_49 fl_X7_68 rfl rfl rfl ?_
    refine gx_iload_n 2 dX7_reachOf_52 rfl rfl ?_
    obtain ⟨hi, h⟩ := h
    refine gx_iald (v := (I 21 (Int32.toNatClampNeg x2))) dX7_reachOf_53 rfl rfl hi (k := (Int32.toNatClampNeg x2)) rfl rfl ?_
    refine gx_callV 4 (As := [.int (I 21 (Int32.toNatClampNeg x2))]) (st := []) dX7_reachOf_54 ml_X7_133 mm_X4_keepFrom rfl rfl rfl rfl rfl rfl ⟨rfl, rfl⟩ h (fun v h2 hq => ?_)
    clear h
    obtain ⟨I1, L2, c3, rfl, rfl, h⟩ := hq
    show Z_Sr_reachOf g Q 57 [(0, .ref 23), (1, .int x1), (2, .int x2)] [] I1 L2 c3
    refine gx_iinc (v := (x2 + 1)) (lv' := [(0, .ref 23), (1, .int x1), (2, .int (x2 + 1))]) 2 dX7_reachOf_57 rfl rfl rfl rfl ?_
    refine gx_goto 30 dX7_reachOf_60 (by decide) ?_
    exact h
abbrev Z_Sr_copyChance (g : gm_G) (Q : Int64 → mI → mL → gm_cfg → Prop) (pc : Nat) (lv : List (Nat × Value)) (st : List Value) (I : mI) (L : mL) (c : gm_cfg) : Prop := gm_X g RX7 "copyChance" cX7_copyChance 4 (some .long) 3 0 0 (qL Q) 0 0 pc lv st (SH, I, L, RR c)
abbrev C_Sr_copyChance (g : gm_G) (x1 : Int32) (I : mI) (L : mL) (c : gm_cfg) (Q : Int64 → mI → mL → gm_cfg → Prop) : Prop := gm_Met g yX7_copyChance cX7_copyChance 4 (some .long) 3 0 0 [.ref 23, .int x1] (SH, I, L, RR c) (qL Q)
set_option maxRecDepth 100000 in
theorem e_Sr_copyChance {g : gm_G} {Q : Int64 → mI → mL → gm_cfg → Prop} {x1 : Int32} {I : mI} {L : mL} {c : gm_cfg} (h : (C_Sh20_has g x1 I L c (fun b4 I1 L2 c3 => ((b4 = false → Q 0 I1 L2 c3) ∧ (b4 = true → (vp_in x1 40 ∧ (C_Fe16_has g (I1 22 (Int32.toNatClampNeg x1)) I1 L2 c3 (fun b8 I5 L6 c7 => ((b8 = false → Q 0 I5 L6 c7) ∧ (b8 = true → (vp_in x1 40 ∧ (vp_in x1 40 ∧ (C_Sh20_goalAt g x1 (I5 16 9) I5 L6 c7 (fun r12 I9 L10 c11 => (((I5 21 (Int32.toNatClampNeg x1)) = r12 → (vp_in (I5 22 (Int32.toNatClampNeg x1)) 6 ∧ (vp_in (I5 22 (Int32.toNatClampNeg x1)) 6 ∧ Q ((Int32.toInt64 (I9 19 (Int32.toNatClampNeg (I5 22 (Int32.toNatClampNeg x1))))) * (Int32.toInt64 ((2 * (I9 18 (Int32.toNatClampNeg (I5 22 (Int32.toNatClampNeg x1))))) + 1))) I9 L10 c11))) ∧ (¬ (I5 21 (Int32.toNatClampNeg x1)) = r12 → Q 0 I9 L10 c11)))))))))))))))) : C_Sr_copyChance g x1 I L c Q := by
  refine gm_enter (lv := [(0, .ref 23), (1, .int x1)]) (by decide) rfl rfl rfl rfl ?_
  show Z_Sr_copyChance g Q 0 [(0, .ref 23), (1, .int x1)] [] I L c
  refine gx_aload_n 0 dX7_copyChance_0 rfl rfl ?_
  refine gx_getr 7 1 (v := 20) dX7_copyChance_1 fl_X7_36 rfl rfl rfl ?_
  refine gx_iload_n 1 dX7_copyChance_4 rfl rfl ?_
  refine gx_callV 8 (As := [.int x1]) (st := []) dX7_copyChance_5 ml_X7_58 mm_X8_has rfl rfl rfl rfl rfl rfl ⟨rfl, rfl⟩ h (fun v h2 hq => ?_)
  clear h
  obtain ⟨b4, I1, L2, c3, rfl, rfl, h⟩ := hq
  show Z_Sr_copyChance g Q 8 [(0, .ref 23), (1, .int x1)] [.int (gm_b b4)] I1 L2 c3
  refine gx_if_eq 30 dX7_copyChance_8 (by decide) ⟨fun z => ?_, fun z => ?_⟩
  · replace h := h.1 (gm_b0.mp z)
    refine gx_lconst (v := 0) dX7_copyChance_30 (by decide) ?_
    exact gx_lret dX7_copyChance_31 rfl rfl rfl ⟨_, _, _, _, rfl, rfl, h⟩
  · replace h := h.2 (gm_bn0 z)
    refine gx_aload_n 0 dX7_copyChance_11 rfl rfl ?_
    refine gx_getr 7 0 (v := 16) dX7_copyChance_12 fl_X7_32 rfl rfl rfl ?_
    refine gx_aload_n 0 dX7_copyChance_15 rfl rfl ?_
    refine gx_getr 7 1 (v := 20) dX7_copyChance_16 fl_X7_36 rfl rfl rfl ?_
    refine gx_getr 8 1 (v := 22) dX7_copyChance_19 fl_X7_64 rfl rfl rfl ?_
    refine gx_iload_n 1 dX7_copyChance_22 rfl rfl ?_
    obtain ⟨hi, h⟩ := h
    refine gx_iald (v := (I1 22 (Int32.toNatClampNeg x1))) dX7_copyChance_23 rfl rfl hi (k := (Int32.toNatClampNeg x1)) rfl rfl ?_
    refine gx_callV 1 (As := [.int (I1 22 (Int32.toNatClampNeg x1))]) (st := []) dX7_copyChance_24 ml_X7_67 mm_X1_has rfl rfl rfl rfl rfl rfl ⟨rfl, rfl⟩ h (fun v h2 hq => ?_)
    clear h
    obtain ⟨b8, I5, L6, c7, rfl, rfl, h⟩ := hq
    show Z_Sr_copyChance g Q 27 [(0, .ref 23), (1, .int x1)] [.int (gm_b b8)] I5 L6 c7
    refine gx_if_ne 32 dX7_copyChance_27 (by decide) ⟨fun z => ?_, fun z => ?_⟩
    · replace h := h.1 (gm_b0.mp z)
      refine gx_lconst (v := 0) dX7_copyChance_30 (by decide) ?_
      exact gx_lret dX7_copyChance_31 rfl rfl rfl ⟨_, _, _, _, rfl, rfl, h⟩
    · replace h := h.2 (gm_bn0 z)
      refine gx_aload_n 0 dX7_copyChance_32 rfl rfl ?_
      refine gx_getr 7 1 (v := 20) dX7_copyChance_33 fl_X7_36 rfl rfl rfl ?_
      refine gx_getr 8 1 (v := 22) dX7_copyChance_36 fl_X7_64 rfl rfl rfl ?_
      refine gx_iload_n 1 dX7_copyChance_39 rfl rfl ?_
      obtain ⟨hi, h⟩ := h
      refine gx_iald (v := (I5 22 (Int32.toNatClampNeg x1))) dX7_copyChance_40 rfl rfl hi (k := (Int32.toNatClampNeg x1)) rfl rfl ?_
      refine gx_istore_n (lv' := [(0, .ref 23), (1, .int x1), (2, .int (I5 22 (Int32.toNatClampNeg x1)))]) dX7_copyChance_41 rfl rfl rfl ?_
      refine gx_aload_n 0 dX7_copyChance_42 rfl rfl ?_
      refine gx_getr 7 1 (v := 20) dX7_copyChance_43 fl_X7_36 rfl rfl rfl ?_
      refine gx_getr 8 0 (v := 21) dX7_copyChance_46 fl_X7_68 rfl rfl rfl ?_
      refine gx_iload_n 1 dX7_copyChance_49 rfl rfl ?_
      obtain ⟨hi, h⟩ := h
      refine gx_iald (v := (I5 21 (Int32.toNatClampNeg x1))) dX7_copyChance_50 rfl rfl hi (k := (Int32.toNatClampNeg x1)) rfl rfl ?_
      refine gx_aload_n 0 dX7_copyChance_51 rfl rfl ?_
      refine gx_getr 7 1 (v := 20) dX7_copyChance_52 fl_X7_36 rfl rfl rfl ?_
      refine gx_iload_n 1 dX7_copyChance_55 rfl rfl ?_
      refine gx_aload_n 0 dX7_copyChance_56 rfl rfl ?_
      refine gx_getr 7 0 (v := 16) dX7_copyChance_57 fl_X7_32 rfl rfl rfl ?_
      refine gx_geti 1 9 (v := (I5 16 9)) dX7_copyChance_60 fl_X7_71 rfl rfl rfl ?_
      refine gx_callV 8 (As := [.int x1, .int (I5 16 9)]) (st := [.int (I5 21 (Int32.toNatClampNeg x1))]) dX7_copyChance_63 ml_X7_75 mm_X8_goalAt rfl rfl rfl rfl rfl rfl ⟨rfl, rfl⟩ h (fun v h2 hq => ?_)
      clear h
      obtain ⟨r12, I9, L10, c11, rfl, rfl, h⟩ := hq
      show Z_Sr_copyChance g Q 66 [(0, .ref 23), (1, .int x1), (2, .int (I5 22 (Int32.toNatClampNeg x1)))] [.int r12, .int (I5 21 (Int32.toNatClampNeg x1))] I9 L10 c11
      refine gx_icmp_ne 73 dX7_copyChance_66 (by decide) ⟨fun z => ?_, fun z => ?_⟩
      · replace h := h.1 z
        refine gx_iconst (v := 1) dX7_copyChance_69 (by decide) ?_
        refine gx_goto 74 dX7_copyChance_70 (by decide) ?_
        refine gx_istore_n (lv' := [(0, .ref 23), (1, .int x1), (2, .int (I5 22 (Int32.toNatClampNeg x1))), (3, .int 1)]) dX7_copyChance_74 rfl rfl rfl ?_
        refine gx_iload_n 3 dX7_copyChance_75 rfl rfl ?_
        refine gx_if_eq 107 dX7_copyChance_76 (by decide) (br_f (by decide) ?_)
        refine gx_aload_n 0 dX7_copyChance_79 rfl rfl ?_
        refine gx_getr 7 0 (v := 16) dX7_copyChance_80 fl_X7_32 rfl rfl rfl ?_
        refine gx_getr 1 8 (v := 19) dX7_copyChance_83 fl_X7_79 rfl rfl rfl ?_
        refine gx_iload_n 2 dX7_copyChance_86 rfl rfl ?_
        obtain ⟨hi, h⟩ := h
        refine gx_iald (v := (I9 19 (Int32.toNatClampNeg (I5 22 (Int32.toNatClampNeg x1))))) dX7_copyChance_87 rfl rfl hi (k := (Int32.toNatClampNeg (I5 22 (Int32.toNatClampNeg x1)))) rfl rfl ?_
        refine gx_i2l dX7_copyChance_88 ?_
        refine gx_iconst (v := 2) dX7_copyChance_89 (by decide) ?_
        refine gx_aload_n 0 dX7_copyChance_90 rfl rfl ?_
        refine gx_getr 7 0 (v := 16) dX7_copyChance_91 fl_X7_32 rfl rfl rfl ?_
        refine gx_getr 1 7 (v := 18) dX7_copyChance_94 fl_X7_82 rfl rfl rfl ?_
        refine gx_iload_n 2 dX7_copyChance_97 rfl rfl ?_
        obtain ⟨hi, h⟩ := h
        refine gx_iald (v := (I9 18 (Int32.toNatClampNeg (I5 22 (Int32.toNatClampNeg x1))))) dX7_copyChance_98 rfl rfl hi (k := (Int32.toNatClampNeg (I5 22 (Int32.toNatClampNeg x1)))) rfl rfl ?_
        refine gx_imul dX7_copyChance_99 ?_
        refine gx_iconst (v := 1) dX7_copyChance_100 (by decide) ?_
        refine gx_iadd dX7_copyChance_101 ?_
        refine gx_i2l dX7_copyChance_102 ?_
        refine gx_lmul dX7_copyChance_103 ?_
        refine gx_goto 108 dX7_copyChance_104 (by decide) ?_
        exact gx_lret dX7_copyChance_108 rfl rfl rfl ⟨_, _, _, _, rfl, rfl, h⟩
      · replace h := h.2 z
        refine gx_iconst (v := 0) dX7_copyChance_73 (by decide) ?_
        refine gx_istore_n (lv' := [(0, .ref 23), (1, .int x1), (2, .int (I5 22 (Int32.toNatClampNeg x1))), (3, .int 0)]) dX7_copyChance_74 rfl rfl rfl ?_
        refine gx_iload_n 3 dX7_copyChance_75 rfl rfl ?_
        refine gx_if_eq 107 dX7_copyChance_76 (by decide) (br_t (by decide) ?_)
        refine gx_lconst (v := 0) dX7_copyChance_107 (by decide) ?_
        exact gx_lret dX7_copyChance_108 rfl rfl rfl ⟨_, _, _, _, rfl, rfl, h⟩
abbrev Z_Sr_sightChance (g : gm_G) (Q : Int64 → mI → mL → gm_cfg → Prop) (pc : Nat) (lv : List (Nat × Value)) (st : List Value) (I : mI) (L : mL) (c : gm_cfg) : Prop := gm_X g RX7 "sightChance" cX7_sightChance 4 (some .long) 3 0 0 (qL Q) 0 0 pc lv st (SH, I, L, RR c)
abbrev C_Sr_sightChance (g : gm_G) (x1 : Int32) (x2 : Int32) (I : mI) (L : mL) (c : gm_cfg) (Q : Int64 → mI → mL → gm_cfg → Prop) : Prop := gm_Met g yX7_sightChance cX7_sightChance 4 (some .long) 3 0 0 [.ref 23, .int x1, .int x2] (SH, I, L, RR c) (qL Q)
set_option maxRecDepth 100000 in
theorem e_Sr_sightChance {g : gm_G} {Q : Int64 → mI → mL → gm_cfg → Prop} {x1 x2 : Int32} {I : mI} {L : mL} {c : gm_cfg} (h : (C_Sh20_has g x1 I L c (fun b4 I1 L2 c3 => ((b4 = false → Q 0 I1 L2 c3) ∧ (b4 = true → (vp_in x1 40 ∧ (C_Fe16_has g (I1 22 (Int32.toNatClampNeg x1)) I1 L2 c3 (fun b8 I5 L6 c7 => ((b8 = false → Q 0 I5 L6 c7) ∧ (b8 = true → (vp_in x1 40 ∧ (vp_in x1 40 ∧ (C_Fe16_sightOf g (I5 22 (Int32.toNatClampNeg x1)) x2 I5 L6 c7 (fun r12 I9 L10 c11 => (vp_in (I5 22 (Int32.toNatClampNeg x1)) 6 ∧ ((((if 0 ≤ ((I5 21 (Int32.toNatClampNeg x1)) - r12) then ((I5 21 (Int32.toNatClampNeg x1)) - r12) else 0 - ((I5 21 (Int32.toNatClampNeg x1)) - r12)) : Int32) ≤ (I9 18 (Int32.toNatClampNeg (I5 22 (Int32.toNatClampNeg x1)))) → (C_Sh20_goalAt g x1 (I9 16 9) I9 L10 c11 (fun r16 I13 L14 c15 => ((r16 = (-1) → Q 10 I13 L14 c15) ∧ (¬ r16 = (-1) → (vp_in (I5 22 (Int32.toNatClampNeg x1)) 6 ∧ Q (Int32.toInt64 (10 - (I13 19 (Int32.toNatClampNeg (I5 22 (Int32.toNatClampNeg x1)))))) I13 L14 c15)))))) ∧ (¬ ((if 0 ≤ ((I5 21 (Int32.toNatClampNeg x1)) - r12) then ((I5 21 (Int32.toNatClampNeg x1)) - r12) else 0 - ((I5 21 (Int32.toNatClampNeg x1)) - r12)) : Int32) ≤ (I9 18 (Int32.toNatClampNeg (I5 22 (Int32.toNatClampNeg x1)))) → Q 0 I9 L10 c11))))))))))))))))) : C_Sr_sightChance g x1 x2 I L c Q := by
  refine gm_enter (lv := [(0, .ref 23), (1, .int x1), (2, .int x2)]) (by decide) rfl rfl rfl rfl ?_
  show Z_Sr_sightChance g Q 0 [(0, .ref 23), (1, .int x1), (2, .int x2)] [] I L c
  refine gx_aload_n 0 dX7_sightChance_0 rfl rfl ?_
  refine gx_getr 7 1 (v := 20) dX7_sightChance_1 fl_X7_36 rfl rfl rfl ?_
  refine gx_iload_n 1 dX7_sightChance_4 rfl rfl ?_
  refine gx_callV 8 (As := [.int x1]) (st := []) dX7_sightChance_5 ml_X7_58 mm_X8_has rfl rfl rfl rfl rfl rfl ⟨rfl, rfl⟩ h (fun v h2 hq => ?_)
  clear h
  obtain ⟨b4, I1, L2, c3, rfl, rfl, h⟩ := hq
  show Z_Sr_sightChance g Q 8 [(0, .ref 23), (1, .int x1), (2, .int x2)] [.int (gm_b b4)] I1 L2 c3
  refine gx_if_eq 30 dX7_sightChance_8 (by decide) ⟨fun z => ?_, fun z => ?_⟩
  · replace h := h.1 (gm_b0.mp z)
    refine gx_lconst (v := 0) dX7_sightChance_30 (by decide) ?_
    exact gx_lret dX7_sightChance_31 rfl rfl rfl ⟨_, _, _, _, rfl, rfl, h⟩
  · replace h := h.2 (gm_bn0 z)
    refine gx_aload_n 0 dX7_sightChance_11 rfl rfl ?_
    refine gx_getr 7 0 (v := 16) dX7_sightChance_12 fl_X7_32 rfl rfl rfl ?_
    refine gx_aload_n 0 dX7_sightChance_15 rfl rfl ?_
    refine gx_getr 7 1 (v := 20) dX7_sightChance_16 fl_X7_36 rfl rfl rfl ?_
    refine gx_getr 8 1 (v := 22) dX7_sightChance_19 fl_X7_64 rfl rfl rfl ?_
    refine gx_iload_n 1 dX7_sightChance_22 rfl rfl ?_
    obtain ⟨hi, h⟩ := h
    refine gx_iald (v := (I1 22 (Int32.toNatClampNeg x1))) dX7_sightChance_23 rfl rfl hi (k := (Int32.toNatClampNeg x1)) rfl rfl ?_
    refine gx_callV 1 (As := [.int (I1 22 (Int32.toNatClampNeg x1))]) (st := []) dX7_sightChance_24 ml_X7_67 mm_X1_has rfl rfl rfl rfl rfl rfl ⟨rfl, rfl⟩ h (fun v h2 hq => ?_)
    clear h
    obtain ⟨b8, I5, L6, c7, rfl, rfl, h⟩ := hq
    show Z_Sr_sightChance g Q 27 [(0, .ref 23), (1, .int x1), (2, .int x2)] [.int (gm_b b8)] I5 L6 c7
    refine gx_if_ne 32 dX7_sightChance_27 (by decide) ⟨fun z => ?_, fun z => ?_⟩
    · replace h := h.1 (gm_b0.mp z)
      refine gx_lconst (v := 0) dX7_sightChance_30 (by decide) ?_
      exact gx_lret dX7_sightChance_31 rfl rfl rfl ⟨_, _, _, _, rfl, rfl, h⟩
    · replace h := h.2 (gm_bn0 z)
      refine gx_aload_n 0 dX7_sightChance_32 rfl rfl ?_
      refine gx_getr 7 1 (v := 20) dX7_sightChance_33 fl_X7_36 rfl rfl rfl ?_
      refine gx_getr 8 1 (v := 22) dX7_sightChance_36 fl_X7_64 rfl rfl rfl ?_
      refine gx_iload_n 1 dX7_sightChance_39 rfl rfl ?_
      obtain ⟨hi, h⟩ := h
      refine gx_iald (v := (I5 22 (Int32.toNatClampNeg x1))) dX7_sightChance_40 rfl rfl hi (k := (Int32.toNatClampNeg x1)) rfl rfl ?_
      refine gx_istore_n (lv' := [(0, .ref 23), (1, .int x1), (2, .int x2), (3, .int (I5 22 (Int32.toNatClampNeg x1)))]) dX7_sightChance_41 rfl rfl rfl ?_
      refine gx_aload_n 0 dX7_sightChance_42 rfl rfl ?_
      refine gx_getr 7 1 (v := 20) dX7_sightChance_43 fl_X7_36 rfl rfl rfl ?_
      refine gx_getr 8 0 (v := 21) dX7_sightChance_46 fl_X7_68 rfl rfl rfl ?_
      refine gx_iload_n 1 dX7_sightChance_49 rfl rfl ?_
      obtain ⟨hi, h⟩ := h
      refine gx_iald (v := (I5 21 (Int32.toNatClampNeg x1))) dX7_sightChance_50 rfl rfl hi (k := (Int32.toNatClampNeg x1)) rfl rfl ?_
      refine gx_aload_n 0 dX7_sightChance_51 rfl rfl ?_
      refine gx_getr 7 0 (v := 16) dX7_sightChance_52 fl_X7_32 rfl rfl rfl ?_
      refine gx_iload_n 3 dX7_sightChance_55 rfl rfl ?_
      refine gx_iload_n 2 dX7_sightChance_56 rfl rfl ?_
      refine gx_callV 1 (As := [.int (I5 22 (Int32.toNatClampNeg x1)), .int x2]) (st := [.int (I5 21 (Int32.toNatClampNeg x1))]) dX7_sightChance_57 ml_X7_85 mm_X1_sightOf rfl rfl rfl rfl rfl rfl ⟨rfl, rfl⟩ h (fun v h2 hq => ?_)
      clear h
      obtain ⟨r12, I9, L10, c11, rfl, rfl, h⟩ := hq
      show Z_Sr_sightChance g Q 60 [(0, .ref 23), (1, .int x1), (2, .int x2), (3, .int (I5 22 (Int32.toNatClampNeg x1)))] [.int r12, .int (I5 21 (Int32.toNatClampNeg x1))] I9 L10 c11
      refine gx_isub dX7_sightChance_60 ?_
      refine gx_mabs dX7_sightChance_61 ml_X7_89 mw_abs rfl rfl rfl rfl ?_
      refine gx_aload_n 0 dX7_sightChance_64 rfl rfl ?_
      refine gx_getr 7 0 (v := 16) dX7_sightChance_65 fl_X7_32 rfl rfl rfl ?_
      refine gx_getr 1 7 (v := 18) dX7_sightChance_68 fl_X7_82 rfl rfl rfl ?_
      refine gx_iload_n 3 dX7_sightChance_71 rfl rfl ?_
      obtain ⟨hi, h⟩ := h
      refine gx_iald (v := (I9 18 (Int32.toNatClampNeg (I5 22 (Int32.toNatClampNeg x1))))) dX7_sightChance_72 rfl rfl hi (k := (Int32.toNatClampNeg (I5 22 (Int32.toNatClampNeg x1)))) rfl rfl ?_
      refine gx_icmp_le 78 dX7_sightChance_73 (by decide) ⟨fun z => ?_, fun z => ?_⟩
      · replace h := h.1 z
        refine gx_aload_n 0 dX7_sightChance_78 rfl rfl ?_
        refine gx_getr 7 1 (v := 20) dX7_sightChance_79 fl_X7_36 rfl rfl rfl ?_
        refine gx_iload_n 1 dX7_sightChance_82 rfl rfl ?_
        refine gx_aload_n 0 dX7_sightChance_83 rfl rfl ?_
        refine gx_getr 7 0 (v := 16) dX7_sightChance_84 fl_X7_32 rfl rfl rfl ?_
        refine gx_geti 1 9 (v := (I9 16 9)) dX7_sightChance_87 fl_X7_71 rfl rfl rfl ?_
        refine gx_callV 8 (As := [.int x1, .int (I9 16 9)]) (st := []) dX7_sightChance_90 ml_X7_75 mm_X8_goalAt rfl rfl rfl rfl rfl rfl ⟨rfl, rfl⟩ h (fun v h2 hq => ?_)
        clear h
        obtain ⟨r16, I13, L14, c15, rfl, rfl, h⟩ := hq
        show Z_Sr_sightChance g Q 93 [(0, .ref 23), (1, .int x1), (2, .int x2), (3, .int (I5 22 (Int32.toNatClampNeg x1)))] [.int r16] I13 L14 c15
        refine gx_iconst (v := (-1)) dX7_sightChance_93 (by decide) ?_
        refine gx_icmp_ne 103 dX7_sightChance_94 (by decide) ⟨fun z => ?_, fun z => ?_⟩
        · replace h := h.1 z
          refine gx_ldc2 dX7_sightChance_97 kl_X7_94 ?_
          refine gx_goto 116 dX7_sightChance_100 (by decide) ?_
          exact gx_lret dX7_sightChance_116 rfl rfl rfl ⟨_, _, _, _, rfl, rfl, h⟩
        · replace h := h.2 z
          refine gx_bipush (v := 10) dX7_sightChance_103 (by decide) ?_
          refine gx_aload_n 0 dX7_sightChance_105 rfl rfl ?_
          refine gx_getr 7 0 (v := 16) dX7_sightChance_106 fl_X7_32 rfl rfl rfl ?_
          refine gx_getr 1 8 (v := 19) dX7_sightChance_109 fl_X7_79 rfl rfl rfl ?_
          refine gx_iload_n 3 dX7_sightChance_112 rfl rfl ?_
          obtain ⟨hi, h⟩ := h
          refine gx_iald (v := (I13 19 (Int32.toNatClampNeg (I5 22 (Int32.toNatClampNeg x1))))) dX7_sightChance_113 rfl rfl hi (k := (Int32.toNatClampNeg (I5 22 (Int32.toNatClampNeg x1)))) rfl rfl ?_
          refine gx_isub dX7_sightChance_114 ?_
          refine gx_i2l dX7_sightChance_115 ?_
          exact gx_lret dX7_sightChance_116 rfl rfl rfl ⟨_, _, _, _, rfl, rfl, h⟩
      · replace h := h.2 z
        refine gx_lconst (v := 0) dX7_sightChance_76 (by decide) ?_
        exact gx_lret dX7_sightChance_77 rfl rfl rfl ⟨_, _, _, _, rfl, rfl, h⟩
abbrev Z_Sr_waysFor (g : gm_G) (Q : Int64 → mI → mL → gm_cfg → Prop) (pc : Nat) (lv : List (Nat × Value)) (st : List Value) (I : mI) (L : mL) (c : gm_cfg) : Prop := gm_X g RX7 "waysFor" cX7_waysFor 9 (some .long) 4 0 0 (qL Q) 0 0 pc lv st (SH, I, L, RR c)
abbrev C_Sr_waysFor (g : gm_G) (x1 : Int32) (x2 : Int32) (x3 : Int32) (I : mI) (L : mL) (c : gm_cfg) (Q : Int64 → mI → mL → gm_cfg → Prop) : Prop := gm_Met g yX7_waysFor cX7_waysFor 9 (some .long) 4 0 0 [.ref 23, .int x1, .int x2, .int x3] (SH, I, L, RR c) (qL Q)
set_option maxRecDepth 100000 in
theorem e_Sr_waysFor {g : gm_G} {Q : Int64 → mI → mL → gm_cfg → Prop} {x1 x2 x3 : Int32} {I : mI} {L : mL} {c : gm_cfg} (h : (C_Fe16_weightOf g x1 I L c (fun r4 I1 L2 c3 => Z_Sr_waysFor g Q 14 [(0, .ref 23), (1, .int x1), (2, .int x2), (3, .int x3), (4, .long (Int32.toInt64 r4)), (6, .int 0)] [] I1 L2 c3))) : C_Sr_waysFor g x1 x2 x3 I L c Q := by
  refine gm_enter (lv := [(0, .ref 23), (1, .int x1), (2, .int x2), (3, .int x3)]) (by decide) rfl rfl rfl rfl ?_
  show Z_Sr_waysFor g Q 0 [(0, .ref 23), (1, .int x1), (2, .int x2), (3, .int x3)] [] I L c
  refine gx_aload_n 0 dX7_waysFor_0 rfl rfl ?_
  refine gx_getr 7 0 (v := 16) dX7_waysFor_1 fl_X7_32 rfl rfl rfl ?_
  refine gx_iload_n 1 dX7_waysFor_4 rfl rfl ?_
  refine gx_callV 1 (As := [.int x1]) (st := []) dX7_waysFor_5 ml_X7_46 mm_X1_weightOf rfl rfl rfl rfl rfl rfl ⟨rfl, rfl⟩ h (fun v h2 hq => ?_)
  clear h
  obtain ⟨r4, I1, L2, c3, rfl, rfl, h⟩ := hq
  show Z_Sr_waysFor g Q 8 [(0, .ref 23), (1, .int x1), (2, .int x2), (3, .int x3)] [.int r4] I1 L2 c3
  refine gx_i2l dX7_waysFor_8 ?_
  refine gx_lstore (lv' := [(0, .ref 23), (1, .int x1), (2, .int x2), (3, .int x3), (4, .long (Int32.toInt64 r4))]) dX7_waysFor_9 rfl rfl ?_
  refine gx_iconst (v := 0) dX7_waysFor_11 (by decide) ?_
  refine gx_istore (lv' := [(0, .ref 23), (1, .int x1), (2, .int x2), (3, .int x3), (4, .long (Int32.toInt64 r4)), (6, .int 0)]) dX7_waysFor_12 rfl rfl ?_
  exact h
set_option maxRecDepth 100000 in
theorem r_Sr_waysFor_14 {g : gm_G} {Q : Int64 → mI → mL → gm_cfg → Prop} {x1 x2 x3 x6 : Int32} {x4 : Int64} {I : mI} {L : mL} {c : gm_cfg} (h : ((x2 ≤ x6 → Q x4 I L c) ∧ (¬ x2 ≤ x6 → (C_Sr_copyChance g x6 I L c (fun r4 I1 L2 c3 => ((x6 = x3 → Z_Sr_waysFor g Q 14 [(0, .ref 23), (1, .int x1), (2, .int x2), (3, .int x3), (4, .long (x4 * r4)), (6, .int (x6 + 1))] [] I1 L2 c3) ∧ (¬ x6 = x3 → (C_Sr_sightChance g x6 x1 I1 L2 c3 (fun r8 I5 L6 c7 => Z_Sr_waysFor g Q 14 [(0, .ref 23), (1, .int x1), (2, .int x2), (3, .int x3), (4, .long (x4 * (r4 + r8))), (6, .int (x6 + 1))] [] I5 L6 c7))))))))) : Z_Sr_waysFor g Q 14 [(0, .ref 23), (1, .int x1), (2, .int x2), (3, .int x3), (4, .long x4), (6, .int x6)] [] I L c := by
  refine gx_iload 5 dX7_waysFor_14 rfl ?_
  refine gx_iload_n 2 dX7_waysFor_16 rfl rfl ?_
  refine gx_icmp_ge 60 dX7_waysFor_17 (by decide) ⟨fun z => ?_, fun z => ?_⟩
  · replace h := h.1 z
    refine gx_lload 4 dX7_waysFor_60 rfl ?_
    exact gx_lret dX7_waysFor_62 rfl rfl rfl ⟨_, _, _, _, rfl, rfl, h⟩
  · replace h := h.2 z
    refine gx_aload_n 0 dX7_waysFor_20 rfl rfl ?_
    refine gx_iload 5 dX7_waysFor_21 rfl ?_
    refine gx_callV 7 (As := [.int x6]) (st := []) dX7_waysFor_23 ml_X7_50 mm_X7_copyChance rfl rfl rfl rfl rfl rfl ⟨rfl, rfl⟩ h (fun v h2 hq => ?_)
    clear h
    obtain ⟨r4, I1, L2, c3, rfl, rfl, h⟩ := hq
    show Z_Sr_waysFor g Q 26 [(0, .ref 23), (1, .int x1), (2, .int x2), (3, .int x3), (4, .long x4), (6, .int x6)] [.long r4] I1 L2 c3
    refine gx_lstore (lv' := [(0, .ref 23), (1, .int x1), (2, .int x2), (3, .int x3), (4, .long x4), (6, .int x6), (7, .long r4)]) dX7_waysFor_26 rfl rfl ?_
    refine gx_lload 4 dX7_waysFor_28 rfl ?_
    refine gx_iload 5 dX7_waysFor_30 rfl ?_
    refine gx_iload_n 3 dX7_waysFor_32 rfl rfl ?_
    refine gx_icmp_ne 41 dX7_waysFor_33 (by decide) ⟨fun z => ?_, fun z => ?_⟩
    · replace h := h.1 z
      refine gx_lload 6 dX7_waysFor_36 rfl ?_
      refine gx_goto 51 dX7_waysFor_38 (by decide) ?_
      refine gx_lmul dX7_waysFor_51 ?_
      refine gx_lstore (lv' := [(0, .ref 23), (1, .int x1), (2, .int x2), (3, .int x3), (4, .long (x4 * r4)), (6, .int x6), (7, .long r4)]) dX7_waysFor_52 rfl rfl ?_
      refine gx_iinc (v := (x6 + 1)) (lv' := [(0, .ref 23), (1, .int x1), (2, .int x2), (3, .int x3), (4, .long (x4 * r4)), (6, .int (x6 + 1)), (7, .long r4)]) 5 dX7_waysFor_54 rfl rfl rfl rfl ?_
      refine gx_goto 14 dX7_waysFor_57 (by decide) ?_
      refine gx_sub [0, 1, 2, 3, 4, 5] (lv' := [(0, .ref 23), (1, .int x1), (2, .int x2), (3, .int x3), (4, .long (x4 * r4)), (6, .int (x6 + 1))]) rfl ?_
      exact h
    · replace h := h.2 z
      refine gx_lload 6 dX7_waysFor_41 rfl ?_
      refine gx_aload_n 0 dX7_waysFor_43 rfl rfl ?_
      refine gx_iload 5 dX7_waysFor_44 rfl ?_
      refine gx_iload_n 1 dX7_waysFor_46 rfl rfl ?_
      refine gx_callV 7 (As := [.int x6, .int x1]) (st := [.long r4, .long x4]) dX7_waysFor_47 ml_X7_54 mm_X7_sightChance rfl rfl rfl rfl rfl rfl ⟨rfl, rfl⟩ h (fun v h2 hq => ?_)
      clear h
      obtain ⟨r8, I5, L6, c7, rfl, rfl, h⟩ := hq
      show Z_Sr_waysFor g Q 50 [(0, .ref 23), (1, .int x1), (2, .int x2), (3, .int x3), (4, .long x4), (6, .int x6), (7, .long r4)] [.long r8, .long r4, .long x4] I5 L6 c7
      refine gx_ladd dX7_waysFor_50 ?_
      refine gx_lmul dX7_waysFor_51 ?_
      refine gx_lstore (lv' := [(0, .ref 23), (1, .int x1), (2, .int x2), (3, .int x3), (4, .long (x4 * (r4 + r8))), (6, .int x6), (7, .long r4)]) dX7_waysFor_52 rfl rfl ?_
      refine gx_iinc (v := (x6 + 1)) (lv' := [(0, .ref 23), (1, .int x1), (2, .int x2), (3, .int x3), (4, .long (x4 * (r4 + r8))), (6, .int (x6 + 1)), (7, .long r4)]) 5 dX7_waysFor_54 rfl rfl rfl rfl ?_
      refine gx_goto 14 dX7_waysFor_57 (by decide) ?_
      refine gx_sub [0, 1, 2, 3, 4, 5] (lv' := [(0, .ref 23), (1, .int x1), (2, .int x2), (3, .int x3), (4, .long (x4 * (r4 + r8))), (6, .int (x6 + 1))]) rfl ?_
      exact h
abbrev Z_Sr_weigh (g : gm_G) (Q : mI → mL → gm_cfg → Prop) (pc : Nat) (lv : List (Nat × Value)) (st : List Value) (I : mI) (L : mL) (c : gm_cfg) : Prop := gm_X g RX7 "weigh" cX7_weigh 3 none 5 0 0 (qV Q) 0 0 pc lv st (SH, I, L, RR c)
abbrev C_Sr_weigh (g : gm_G) (x1 : Int32) (I : mI) (L : mL) (c : gm_cfg) (Q : mI → mL → gm_cfg → Prop) : Prop := gm_Met g yX7_weigh cX7_weigh 3 none 5 0 0 [.ref 23, .int x1] (SH, I, L, RR c) (qV Q)
set_option maxRecDepth 100000 in
theorem e_Sr_weigh {g : gm_G} {Q : mI → mL → gm_cfg → Prop} {x1 : Int32} {I : mI} {L : mL} {c : gm_cfg} (h : Z_Sr_weigh g Q 33 [(0, .ref 23), (1, .int x1), (2, .int 0)] [] (gm_u I 23 7 ((if 0 < ((if (((I 16 1) - (I 16 0)) + 1) < 200 then (((I 16 1) - (I 16 0)) + 1) else 200) : Int32) then ((if (((I 16 1) - (I 16 0)) + 1) < 200 then (((I 16 1) - (I 16 0)) + 1) else 200) : Int32) else 0) : Int32)) L c) : C_Sr_weigh g x1 I L c Q := by
  refine gm_enter (lv := [(0, .ref 23), (1, .int x1)]) (by decide) rfl rfl rfl rfl ?_
  show Z_Sr_weigh g Q 0 [(0, .ref 23), (1, .int x1)] [] I L c
  refine gx_aload_n 0 dX7_weigh_0 rfl rfl ?_
  refine gx_iconst (v := 0) dX7_weigh_1 (by decide) ?_
  refine gx_sipush (v := 200) dX7_weigh_2 (by decide) ?_
  refine gx_aload_n 0 dX7_weigh_5 rfl rfl ?_
  refine gx_getr 7 0 (v := 16) dX7_weigh_6 fl_X7_32 rfl rfl rfl ?_
  refine gx_geti 1 1 (v := (I 16 1)) dX7_weigh_9 fl_X7_96 rfl rfl rfl ?_
  refine gx_aload_n 0 dX7_weigh_12 rfl rfl ?_
  refine gx_getr 7 0 (v := 16) dX7_weigh_13 fl_X7_32 rfl rfl rfl ?_
  refine gx_geti 1 0 (v := (I 16 0)) dX7_weigh_16 fl_X7_40 rfl rfl rfl ?_
  refine gx_isub dX7_weigh_19 ?_
  refine gx_iconst (v := 1) dX7_weigh_20 (by decide) ?_
  refine gx_iadd dX7_weigh_21 ?_
  refine gx_mmin dX7_weigh_22 ml_X7_99 mw_min rfl rfl rfl rfl ?_
  refine gx_mmax dX7_weigh_25 ml_X7_102 mw_max rfl rfl rfl rfl ?_
  refine gx_puti 7 7 dX7_weigh_28 fl_X7_105 rfl rfl rfl ⟨rfl, rfl⟩ ?_
  show Z_Sr_weigh g Q 31 [(0, .ref 23), (1, .int x1)] [] (gm_u I 23 7 ((if 0 < ((if (((I 16 1) - (I 16 0)) + 1) < 200 then (((I 16 1) - (I 16 0)) + 1) else 200) : Int32) then ((if (((I 16 1) - (I 16 0)) + 1) < 200 then (((I 16 1) - (I 16 0)) + 1) else 200) : Int32) else 0) : Int32)) L c
  refine gx_iconst (v := 0) dX7_weigh_31 (by decide) ?_
  refine gx_istore_n (lv' := [(0, .ref 23), (1, .int x1), (2, .int 0)]) dX7_weigh_32 rfl rfl rfl ?_
  exact h
set_option maxRecDepth 100000 in
theorem r_Sr_weigh_33 {g : gm_G} {Q : mI → mL → gm_cfg → Prop} {x1 x2 : Int32} {I : mI} {L : mL} {c : gm_cfg} (h : (((I 23 7) ≤ x2 → Q I L c) ∧ (¬ (I 23 7) ≤ x2 → (vp_in x2 201 ∧ (C_Sr_waysFor g ((I 16 0) + x2) x1 (-1) I L c (fun r4 I1 L2 c3 => (vp_in (x2 + 1) 201 ∧ Z_Sr_weigh g Q 33 [(0, .ref 23), (1, .int x1), (2, .int (x2 + 1))] [] I1 (gm_u L2 25 (Int32.toNatClampNeg (x2 + 1)) ((L 25 (Int32.toNatClampNeg x2)) + r4)) c3))))))) : Z_Sr_weigh g Q 33 [(0, .ref 23), (1, .int x1), (2, .int x2)] [] I L c := by
  refine gx_iload_n 2 dX7_weigh_33 rfl rfl ?_
  refine gx_aload_n 0 dX7_weigh_34 rfl rfl ?_
  refine gx_geti 7 7 (v := (I 23 7)) dX7_weigh_35 fl_X7_105 rfl rfl rfl ?_
  refine gx_icmp_ge 77 dX7_weigh_38 (by decide) ⟨fun z => ?_, fun z => ?_⟩
  · replace h := h.1 z
    exact gx_vret dX7_weigh_77 rfl rfl rfl ⟨_, _, _, rfl, rfl, h⟩
  · replace h := h.2 z
    refine gx_aload_n 0 dX7_weigh_41 rfl rfl ?_
    refine gx_getr 7 3 (v := 25) dX7_weigh_42 fl_X7_18 rfl rfl rfl ?_
    refine gx_iload_n 2 dX7_weigh_45 rfl rfl ?_
    refine gx_iconst (v := 1) dX7_weigh_46 (by decide) ?_
    refine gx_iadd dX7_weigh_47 ?_
    refine gx_aload_n 0 dX7_weigh_48 rfl rfl ?_
    refine gx_getr 7 3 (v := 25) dX7_weigh_49 fl_X7_18 rfl rfl rfl ?_
    refine gx_iload_n 2 dX7_weigh_52 rfl rfl ?_
    obtain ⟨hi, h⟩ := h
    refine gx_lald (v := (L 25 (Int32.toNatClampNeg x2))) dX7_weigh_53 rfl rfl hi (k := (Int32.toNatClampNeg x2)) rfl rfl ?_
    refine gx_aload_n 0 dX7_weigh_54 rfl rfl ?_
    refine gx_aload_n 0 dX7_weigh_55 rfl rfl ?_
    refine gx_getr 7 0 (v := 16) dX7_weigh_56 fl_X7_32 rfl rfl rfl ?_
    refine gx_geti 1 0 (v := (I 16 0)) dX7_weigh_59 fl_X7_40 rfl rfl rfl ?_
    refine gx_iload_n 2 dX7_weigh_62 rfl rfl ?_
    refine gx_iadd dX7_weigh_63 ?_
    refine gx_iload_n 1 dX7_weigh_64 rfl rfl ?_
    refine gx_iconst (v := (-1)) dX7_weigh_65 (by decide) ?_
    refine gx_callV 7 (As := [.int ((I 16 0) + x2), .int x1, .int (-1)]) (st := [.long (L 25 (Int32.toNatClampNeg x2)), .int (x2 + 1), .ref 25]) dX7_weigh_66 ml_X7_108 mm_X7_waysFor rfl rfl rfl rfl rfl rfl ⟨rfl, rfl⟩ h (fun v h2 hq => ?_)
    clear h
    obtain ⟨r4, I1, L2, c3, rfl, rfl, h⟩ := hq
    show Z_Sr_weigh g Q 69 [(0, .ref 23), (1, .int x1), (2, .int x2)] [.long r4, .long (L 25 (Int32.toNatClampNeg x2)), .int (x2 + 1), .ref 25] I1 L2 c3
    refine gx_ladd dX7_weigh_69 ?_
    obtain ⟨hi, h⟩ := h
    refine gx_last dX7_weigh_70 rfl rfl hi (k := (Int32.toNatClampNeg (x2 + 1))) rfl ?_
    show Z_Sr_weigh g Q 71 [(0, .ref 23), (1, .int x1), (2, .int x2)] [] I1 (gm_u L2 25 (Int32.toNatClampNeg (x2 + 1)) ((L 25 (Int32.toNatClampNeg x2)) + r4)) c3
    refine gx_iinc (v := (x2 + 1)) (lv' := [(0, .ref 23), (1, .int x1), (2, .int (x2 + 1))]) 2 dX7_weigh_71 rfl rfl rfl rfl ?_
    refine gx_goto 33 dX7_weigh_74 (by decide) ?_
    exact h
abbrev Z_Sr_sum (g : gm_G) (Q : Int64 → mI → mL → gm_cfg → Prop) (pc : Nat) (lv : List (Nat × Value)) (st : List Value) (I : mI) (L : mL) (c : gm_cfg) : Prop := gm_X g RX7 "sum" cX7_sum 5 (some .long) 1 0 0 (qL Q) 0 0 pc lv st (SH, I, L, RR c)
abbrev C_Sr_sum (g : gm_G) (x1 : Int32) (x2 : Int32) (I : mI) (L : mL) (c : gm_cfg) (Q : Int64 → mI → mL → gm_cfg → Prop) : Prop := gm_Met g yX7_sum cX7_sum 5 (some .long) 1 0 0 [.ref 23, .int x1, .int x2] (SH, I, L, RR c) (qL Q)
set_option maxRecDepth 100000 in
theorem e_Sr_sum {g : gm_G} {Q : Int64 → mI → mL → gm_cfg → Prop} {x1 x2 : Int32} {I : mI} {L : mL} {c : gm_cfg} (h : (((x1 - (I 16 0)) < 0 → Q 0 I L c) ∧ (¬ (x1 - (I 16 0)) < 0 → ((((x2 - (I 16 0)) + 1) ≤ (x1 - (I 16 0)) → Q 0 I L c) ∧ (¬ ((x2 - (I 16 0)) + 1) ≤ (x1 - (I 16 0)) → (((I 23 7) < ((x2 - (I 16 0)) + 1) → Q 0 I L c) ∧ (¬ (I 23 7) < ((x2 - (I 16 0)) + 1) → (vp_in ((x2 - (I 16 0)) + 1) 201 ∧ (vp_in (x1 - (I 16 0)) 201 ∧ Q ((L 25 (Int32.toNatClampNeg ((x2 - (I 16 0)) + 1))) - (L 25 (Int32.toNatClampNeg (x1 - (I 16 0))))) I L c))))))))) : C_Sr_sum g x1 x2 I L c Q := by
  refine gm_enter (lv := [(0, .ref 23), (1, .int x1), (2, .int x2)]) (by decide) rfl rfl rfl rfl ?_
  show Z_Sr_sum g Q 0 [(0, .ref 23), (1, .int x1), (2, .int x2)] [] I L c
  refine gx_iload_n 1 dX7_sum_0 rfl rfl ?_
  refine gx_aload_n 0 dX7_sum_1 rfl rfl ?_
  refine gx_getr 7 0 (v := 16) dX7_sum_2 fl_X7_32 rfl rfl rfl ?_
  refine gx_geti 1 0 (v := (I 16 0)) dX7_sum_5 fl_X7_40 rfl rfl rfl ?_
  refine gx_isub dX7_sum_8 ?_
  refine gx_istore_n (lv' := [(0, .ref 23), (1, .int x1), (2, .int x2), (3, .int (x1 - (I 16 0)))]) dX7_sum_9 rfl rfl rfl ?_
  refine gx_iload_n 2 dX7_sum_10 rfl rfl ?_
  refine gx_aload_n 0 dX7_sum_11 rfl rfl ?_
  refine gx_getr 7 0 (v := 16) dX7_sum_12 fl_X7_32 rfl rfl rfl ?_
  refine gx_geti 1 0 (v := (I 16 0)) dX7_sum_15 fl_X7_40 rfl rfl rfl ?_
  refine gx_isub dX7_sum_18 ?_
  refine gx_iconst (v := 1) dX7_sum_19 (by decide) ?_
  refine gx_iadd dX7_sum_20 ?_
  refine gx_istore (lv' := [(0, .ref 23), (1, .int x1), (2, .int x2), (3, .int (x1 - (I 16 0))), (4, .int ((x2 - (I 16 0)) + 1))]) dX7_sum_21 rfl rfl ?_
  refine gx_iload_n 3 dX7_sum_23 rfl rfl ?_
  refine gx_if_lt 59 dX7_sum_24 (by decide) ⟨fun z => ?_, fun z => ?_⟩
  · replace h := h.1 z
    refine gx_lconst (v := 0) dX7_sum_59 (by decide) ?_
    exact gx_lret dX7_sum_60 rfl rfl rfl ⟨_, _, _, _, rfl, rfl, h⟩
  · replace h := h.2 z
    refine gx_iload_n 3 dX7_sum_27 rfl rfl ?_
    refine gx_iload 4 dX7_sum_28 rfl ?_
    refine gx_icmp_ge 59 dX7_sum_30 (by decide) ⟨fun z => ?_, fun z => ?_⟩
    · replace h := h.1 z
      refine gx_lconst (v := 0) dX7_sum_59 (by decide) ?_
      exact gx_lret dX7_sum_60 rfl rfl rfl ⟨_, _, _, _, rfl, rfl, h⟩
    · replace h := h.2 z
      refine gx_iload 4 dX7_sum_33 rfl ?_
      refine gx_aload_n 0 dX7_sum_35 rfl rfl ?_
      refine gx_geti 7 7 (v := (I 23 7)) dX7_sum_36 fl_X7_105 rfl rfl rfl ?_
      refine gx_icmp_gt 59 dX7_sum_39 (by decide) ⟨fun z => ?_, fun z => ?_⟩
      · replace h := h.1 z
        refine gx_lconst (v := 0) dX7_sum_59 (by decide) ?_
        exact gx_lret dX7_sum_60 rfl rfl rfl ⟨_, _, _, _, rfl, rfl, h⟩
      · replace h := h.2 z
        refine gx_aload_n 0 dX7_sum_42 rfl rfl ?_
        refine gx_getr 7 3 (v := 25) dX7_sum_43 fl_X7_18 rfl rfl rfl ?_
        refine gx_iload 4 dX7_sum_46 rfl ?_
        obtain ⟨hi, h⟩ := h
        refine gx_lald (v := (L 25 (Int32.toNatClampNeg ((x2 - (I 16 0)) + 1)))) dX7_sum_48 rfl rfl hi (k := (Int32.toNatClampNeg ((x2 - (I 16 0)) + 1))) rfl rfl ?_
        refine gx_aload_n 0 dX7_sum_49 rfl rfl ?_
        refine gx_getr 7 3 (v := 25) dX7_sum_50 fl_X7_18 rfl rfl rfl ?_
        refine gx_iload_n 3 dX7_sum_53 rfl rfl ?_
        obtain ⟨hi, h⟩ := h
        refine gx_lald (v := (L 25 (Int32.toNatClampNeg (x1 - (I 16 0))))) dX7_sum_54 rfl rfl hi (k := (Int32.toNatClampNeg (x1 - (I 16 0)))) rfl rfl ?_
        refine gx_lsub dX7_sum_55 ?_
        refine gx_goto 60 dX7_sum_56 (by decide) ?_
        exact gx_lret dX7_sum_60 rfl rfl rfl ⟨_, _, _, _, rfl, rfl, h⟩
abbrev Z_Sr_total (g : gm_G) (Q : Int64 → mI → mL → gm_cfg → Prop) (pc : Nat) (lv : List (Nat × Value)) (st : List Value) (I : mI) (L : mL) (c : gm_cfg) : Prop := gm_X g RX7 "total" cX7_total 1 (some .long) 1 0 0 (qL Q) 0 0 pc lv st (SH, I, L, RR c)
abbrev C_Sr_total (g : gm_G) (I : mI) (L : mL) (c : gm_cfg) (Q : Int64 → mI → mL → gm_cfg → Prop) : Prop := gm_Met g yX7_total cX7_total 1 (some .long) 1 0 0 [.ref 23] (SH, I, L, RR c) (qL Q)
set_option maxRecDepth 100000 in
theorem e_Sr_total {g : gm_G} {Q : Int64 → mI → mL → gm_cfg → Prop} {I : mI} {L : mL} {c : gm_cfg} (h : (vp_in (I 23 7) 201 ∧ Q (L 25 (Int32.toNatClampNeg (I 23 7))) I L c)) : C_Sr_total g  I L c Q := by
  refine gm_enter (lv := [(0, .ref 23)]) (by decide) rfl rfl rfl rfl ?_
  show Z_Sr_total g Q 0 [(0, .ref 23)] [] I L c
  refine gx_aload_n 0 dX7_total_0 rfl rfl ?_
  refine gx_getr 7 3 (v := 25) dX7_total_1 fl_X7_18 rfl rfl rfl ?_
  refine gx_aload_n 0 dX7_total_4 rfl rfl ?_
  refine gx_geti 7 7 (v := (I 23 7)) dX7_total_5 fl_X7_105 rfl rfl rfl ?_
  obtain ⟨hi, h⟩ := h
  refine gx_lald (v := (L 25 (Int32.toNatClampNeg (I 23 7)))) dX7_total_8 rfl rfl hi (k := (Int32.toNatClampNeg (I 23 7))) rfl rfl ?_
  exact gx_lret dX7_total_9 rfl rfl rfl ⟨_, _, _, _, rfl, rfl, h⟩
abbrev Z_Sr_halfway (g : gm_G) (Q : Int32 → mI → mL → gm_cfg → Prop) (pc : Nat) (lv : List (Nat × Value)) (st : List Value) (I : mI) (L : mL) (c : gm_cfg) : Prop := gm_X g RX7 "halfway" cX7_halfway 2 (some .int) 2 0 0 (qI Q) 0 0 pc lv st (SH, I, L, RR c)
abbrev C_Sr_halfway (g : gm_G) (I : mI) (L : mL) (c : gm_cfg) (Q : Int32 → mI → mL → gm_cfg → Prop) : Prop := gm_Met g yX7_halfway cX7_halfway 2 (some .int) 2 0 0 [.ref 23] (SH, I, L, RR c) (qI Q)
set_option maxRecDepth 100000 in
theorem e_Sr_halfway {g : gm_G} {Q : Int32 → mI → mL → gm_cfg → Prop} {I : mI} {L : mL} {c : gm_cfg} (h : Z_Sr_halfway g Q 2 [(0, .ref 23), (1, .int 0)] [] I L c) : C_Sr_halfway g  I L c Q := by
  refine gm_enter (lv := [(0, .ref 23)]) (by decide) rfl rfl rfl rfl ?_
  show Z_Sr_halfway g Q 0 [(0, .ref 23)] [] I L c
  refine gx_iconst (v := 0) dX7_halfway_0 (by decide) ?_
  refine gx_istore_n (lv' := [(0, .ref 23), (1, .int 0)]) dX7_halfway_1 rfl rfl rfl ?_
  exact h
set_option maxRecDepth 100000 in
theorem r_Sr_halfway_2 {g : gm_G} {Q : Int32 → mI → mL → gm_cfg → Prop} {x1 : Int32} {I : mI} {L : mL} {c : gm_cfg} (h : (((I 23 7) ≤ x1 → Q (-1) I L c) ∧ (¬ (I 23 7) ≤ x1 → (vp_in (x1 + 1) 201 ∧ (C_Sr_total g I L c (fun r4 I1 L2 c3 => (((2 * (L 25 (Int32.toNatClampNeg (x1 + 1)))) < r4 → Z_Sr_halfway g Q 2 [(0, .ref 23), (1, .int (x1 + 1))] [] I1 L2 c3) ∧ (¬ (2 * (L 25 (Int32.toNatClampNeg (x1 + 1)))) < r4 → Q ((I1 16 0) + x1) I1 L2 c3)))))))) : Z_Sr_halfway g Q 2 [(0, .ref 23), (1, .int x1)] [] I L c := by
  refine gx_iload_n 1 dX7_halfway_2 rfl rfl ?_
  refine gx_aload_n 0 dX7_halfway_3 rfl rfl ?_
  refine gx_geti 7 7 (v := (I 23 7)) dX7_halfway_4 fl_X7_105 rfl rfl rfl ?_
  refine gx_icmp_ge 46 dX7_halfway_7 (by decide) ⟨fun z => ?_, fun z => ?_⟩
  · replace h := h.1 z
    refine gx_iconst (v := (-1)) dX7_halfway_46 (by decide) ?_
    exact gx_iret dX7_halfway_47 rfl rfl rfl ⟨_, _, _, _, rfl, rfl, h⟩
  · replace h := h.2 z
    refine gx_ldc2 dX7_halfway_10 kl_X7_112 ?_
    refine gx_aload_n 0 dX7_halfway_13 rfl rfl ?_
    refine gx_getr 7 3 (v := 25) dX7_halfway_14 fl_X7_18 rfl rfl rfl ?_
    refine gx_iload_n 1 dX7_halfway_17 rfl rfl ?_
    refine gx_iconst (v := 1) dX7_halfway_18 (by decide) ?_
    refine gx_iadd dX7_halfway_19 ?_
    obtain ⟨hi, h⟩ := h
    refine gx_lald (v := (L 25 (Int32.toNatClampNeg (x1 + 1)))) dX7_halfway_20 rfl rfl hi (k := (Int32.toNatClampNeg (x1 + 1))) rfl rfl ?_
    refine gx_lmul dX7_halfway_21 ?_
    refine gx_aload_n 0 dX7_halfway_22 rfl rfl ?_
    refine gx_callV 7 (As := []) (st := [.long (2 * (L 25 (Int32.toNatClampNeg (x1 + 1))))]) dX7_halfway_23 ml_X7_114 mm_X7_total rfl rfl rfl rfl rfl rfl ⟨rfl, rfl⟩ h (fun v h2 hq => ?_)
    clear h
    obtain ⟨r4, I1, L2, c3, rfl, rfl, h⟩ := hq
    show Z_Sr_halfway g Q 26 [(0, .ref 23), (1, .int x1)] [.long r4, .long (2 * (L 25 (Int32.toNatClampNeg (x1 + 1))))] I1 L2 c3
    refine gx_lcmp_lt 40 dX7_halfway_26 dX7_halfway_27 (by decide) ⟨fun z => ?_, fun z => ?_⟩
    · replace h := h.1 z
      refine gx_iinc (v := (x1 + 1)) (lv' := [(0, .ref 23), (1, .int (x1 + 1))]) 1 dX7_halfway_40 rfl rfl rfl rfl ?_
      refine gx_goto 2 dX7_halfway_43 (by decide) ?_
      exact h
    · replace h := h.2 z
      refine gx_aload_n 0 dX7_halfway_30 rfl rfl ?_
      refine gx_getr 7 0 (v := 16) dX7_halfway_31 fl_X7_32 rfl rfl rfl ?_
      refine gx_geti 1 0 (v := (I1 16 0)) dX7_halfway_34 fl_X7_40 rfl rfl rfl ?_
      refine gx_iload_n 1 dX7_halfway_37 rfl rfl ?_
      refine gx_iadd dX7_halfway_38 ?_
      exact gx_iret dX7_halfway_39 rfl rfl rfl ⟨_, _, _, _, rfl, rfl, h⟩
abbrev Z_Sr_weightedSum (g : gm_G) (Q : Int64 → mI → mL → gm_cfg → Prop) (pc : Nat) (lv : List (Nat × Value)) (st : List Value) (I : mI) (L : mL) (c : gm_cfg) : Prop := gm_X g RX7 "weightedSum" cX7_weightedSum 4 (some .long) 1 0 0 (qL Q) 0 0 pc lv st (SH, I, L, RR c)
abbrev C_Sr_weightedSum (g : gm_G) (I : mI) (L : mL) (c : gm_cfg) (Q : Int64 → mI → mL → gm_cfg → Prop) : Prop := gm_Met g yX7_weightedSum cX7_weightedSum 4 (some .long) 1 0 0 [.ref 23] (SH, I, L, RR c) (qL Q)
set_option maxRecDepth 100000 in
theorem e_Sr_weightedSum {g : gm_G} {Q : Int64 → mI → mL → gm_cfg → Prop} {I : mI} {L : mL} {c : gm_cfg} (h : Z_Sr_weightedSum g Q 4 [(0, .ref 23), (1, .long 0), (3, .int 0)] [] I L c) : C_Sr_weightedSum g  I L c Q := by
  refine gm_enter (lv := [(0, .ref 23)]) (by decide) rfl rfl rfl rfl ?_
  show Z_Sr_weightedSum g Q 0 [(0, .ref 23)] [] I L c
  refine gx_lconst (v := 0) dX7_weightedSum_0 (by decide) ?_
  refine gx_lstore_n (lv' := [(0, .ref 23), (1, .long 0)]) dX7_weightedSum_1 rfl rfl rfl ?_
  refine gx_iconst (v := 0) dX7_weightedSum_2 (by decide) ?_
  refine gx_istore_n (lv' := [(0, .ref 23), (1, .long 0), (3, .int 0)]) dX7_weightedSum_3 rfl rfl rfl ?_
  exact h
set_option maxRecDepth 100000 in
theorem r_Sr_weightedSum_4 {g : gm_G} {Q : Int64 → mI → mL → gm_cfg → Prop} {x3 : Int32} {x1 : Int64} {I : mI} {L : mL} {c : gm_cfg} (h : (((I 23 7) ≤ x3 → Q x1 I L c) ∧ (¬ (I 23 7) ≤ x3 → (vp_in (x3 + 1) 201 ∧ (vp_in x3 201 ∧ Z_Sr_weightedSum g Q 4 [(0, .ref 23), (1, .long (x1 + (((L 25 (Int32.toNatClampNeg (x3 + 1))) - (L 25 (Int32.toNatClampNeg x3))) * (Int32.toInt64 ((I 16 0) + x3))))), (3, .int (x3 + 1))] [] I L c))))) : Z_Sr_weightedSum g Q 4 [(0, .ref 23), (1, .long x1), (3, .int x3)] [] I L c := by
  refine gx_iload_n 2 dX7_weightedSum_4 rfl rfl ?_
  refine gx_aload_n 0 dX7_weightedSum_5 rfl rfl ?_
  refine gx_geti 7 7 (v := (I 23 7)) dX7_weightedSum_6 fl_X7_105 rfl rfl rfl ?_
  refine gx_icmp_ge 47 dX7_weightedSum_9 (by decide) ⟨fun z => ?_, fun z => ?_⟩
  · replace h := h.1 z
    refine gx_lload_n 1 dX7_weightedSum_47 rfl rfl ?_
    exact gx_lret dX7_weightedSum_48 rfl rfl rfl ⟨_, _, _, _, rfl, rfl, h⟩
  · replace h := h.2 z
    refine gx_lload_n 1 dX7_weightedSum_12 rfl rfl ?_
    refine gx_aload_n 0 dX7_weightedSum_13 rfl rfl ?_
    refine gx_getr 7 3 (v := 25) dX7_weightedSum_14 fl_X7_18 rfl rfl rfl ?_
    refine gx_iload_n 2 dX7_weightedSum_17 rfl rfl ?_
    refine gx_iconst (v := 1) dX7_weightedSum_18 (by decide) ?_
    refine gx_iadd dX7_weightedSum_19 ?_
    obtain ⟨hi, h⟩ := h
    refine gx_lald (v := (L 25 (Int32.toNatClampNeg (x3 + 1)))) dX7_weightedSum_20 rfl rfl hi (k := (Int32.toNatClampNeg (x3 + 1))) rfl rfl ?_
    refine gx_aload_n 0 dX7_weightedSum_21 rfl rfl ?_
    refine gx_getr 7 3 (v := 25) dX7_weightedSum_22 fl_X7_18 rfl rfl rfl ?_
    refine gx_iload_n 2 dX7_weightedSum_25 rfl rfl ?_
    obtain ⟨hi, h⟩ := h
    refine gx_lald (v := (L 25 (Int32.toNatClampNeg x3))) dX7_weightedSum_26 rfl rfl hi (k := (Int32.toNatClampNeg x3)) rfl rfl ?_
    refine gx_lsub dX7_weightedSum_27 ?_
    refine gx_aload_n 0 dX7_weightedSum_28 rfl rfl ?_
    refine gx_getr 7 0 (v := 16) dX7_weightedSum_29 fl_X7_32 rfl rfl rfl ?_
    refine gx_geti 1 0 (v := (I 16 0)) dX7_weightedSum_32 fl_X7_40 rfl rfl rfl ?_
    refine gx_iload_n 2 dX7_weightedSum_35 rfl rfl ?_
    refine gx_iadd dX7_weightedSum_36 ?_
    refine gx_i2l dX7_weightedSum_37 ?_
    refine gx_lmul dX7_weightedSum_38 ?_
    refine gx_ladd dX7_weightedSum_39 ?_
    refine gx_lstore_n (lv' := [(0, .ref 23), (1, .long (x1 + (((L 25 (Int32.toNatClampNeg (x3 + 1))) - (L 25 (Int32.toNatClampNeg x3))) * (Int32.toInt64 ((I 16 0) + x3))))), (3, .int x3)]) dX7_weightedSum_40 rfl rfl rfl ?_
    refine gx_iinc (v := (x3 + 1)) (lv' := [(0, .ref 23), (1, .long (x1 + (((L 25 (Int32.toNatClampNeg (x3 + 1))) - (L 25 (Int32.toNatClampNeg x3))) * (Int32.toInt64 ((I 16 0) + x3))))), (3, .int (x3 + 1))]) 2 dX7_weightedSum_41 rfl rfl rfl rfl ?_
    refine gx_goto 4 dX7_weightedSum_44 (by decide) ?_
    exact h
abbrev Z_Sr_copiedWays (g : gm_G) (Q : Int64 → mI → mL → gm_cfg → Prop) (pc : Nat) (lv : List (Nat × Value)) (st : List Value) (I : mI) (L : mL) (c : gm_cfg) : Prop := gm_X g RX7 "copiedWays" cX7_copiedWays 6 (some .long) 5 0 0 (qL Q) 0 0 pc lv st (SH, I, L, RR c)
abbrev C_Sr_copiedWays (g : gm_G) (x1 : Int32) (x2 : Int32) (I : mI) (L : mL) (c : gm_cfg) (Q : Int64 → mI → mL → gm_cfg → Prop) : Prop := gm_Met g yX7_copiedWays cX7_copiedWays 6 (some .long) 5 0 0 [.ref 23, .int x1, .int x2] (SH, I, L, RR c) (qL Q)
set_option maxRecDepth 100000 in
theorem e_Sr_copiedWays {g : gm_G} {Q : Int64 → mI → mL → gm_cfg → Prop} {x1 x2 : Int32} {I : mI} {L : mL} {c : gm_cfg} (h : Z_Sr_copiedWays g Q 11 [(0, .ref 23), (1, .int x1), (2, .int x2), (3, .long 0), (5, .int (I 16 0))] [] I L c) : C_Sr_copiedWays g x1 x2 I L c Q := by
  refine gm_enter (lv := [(0, .ref 23), (1, .int x1), (2, .int x2)]) (by decide) rfl rfl rfl rfl ?_
  show Z_Sr_copiedWays g Q 0 [(0, .ref 23), (1, .int x1), (2, .int x2)] [] I L c
  refine gx_lconst (v := 0) dX7_copiedWays_0 (by decide) ?_
  refine gx_lstore_n (lv' := [(0, .ref 23), (1, .int x1), (2, .int x2), (3, .long 0)]) dX7_copiedWays_1 rfl rfl rfl ?_
  refine gx_aload_n 0 dX7_copiedWays_2 rfl rfl ?_
  refine gx_getr 7 0 (v := 16) dX7_copiedWays_3 fl_X7_32 rfl rfl rfl ?_
  refine gx_geti 1 0 (v := (I 16 0)) dX7_copiedWays_6 fl_X7_40 rfl rfl rfl ?_
  refine gx_istore (lv' := [(0, .ref 23), (1, .int x1), (2, .int x2), (3, .long 0), (5, .int (I 16 0))]) dX7_copiedWays_9 rfl rfl ?_
  exact h
set_option maxRecDepth 100000 in
theorem r_Sr_copiedWays_11 {g : gm_G} {Q : Int64 → mI → mL → gm_cfg → Prop} {x1 x2 x5 : Int32} {x3 : Int64} {I : mI} {L : mL} {c : gm_cfg} (h : (((I 16 1) < x5 → Q x3 I L c) ∧ (¬ (I 16 1) < x5 → (C_Sr_waysFor g x5 x2 x1 I L c (fun r4 I1 L2 c3 => Z_Sr_copiedWays g Q 11 [(0, .ref 23), (1, .int x1), (2, .int x2), (3, .long (x3 + r4)), (5, .int (x5 + 1))] [] I1 L2 c3))))) : Z_Sr_copiedWays g Q 11 [(0, .ref 23), (1, .int x1), (2, .int x2), (3, .long x3), (5, .int x5)] [] I L c := by
  refine gx_iload 4 dX7_copiedWays_11 rfl ?_
  refine gx_aload_n 0 dX7_copiedWays_13 rfl rfl ?_
  refine gx_getr 7 0 (v := 16) dX7_copiedWays_14 fl_X7_32 rfl rfl rfl ?_
  refine gx_geti 1 1 (v := (I 16 1)) dX7_copiedWays_17 fl_X7_96 rfl rfl rfl ?_
  refine gx_icmp_gt 40 dX7_copiedWays_20 (by decide) ⟨fun z => ?_, fun z => ?_⟩
  · replace h := h.1 z
    refine gx_lload_n 3 dX7_copiedWays_40 rfl rfl ?_
    exact gx_lret dX7_copiedWays_41 rfl rfl rfl ⟨_, _, _, _, rfl, rfl, h⟩
  · replace h := h.2 z
    refine gx_lload_n 3 dX7_copiedWays_23 rfl rfl ?_
    refine gx_aload_n 0 dX7_copiedWays_24 rfl rfl ?_
    refine gx_iload 4 dX7_copiedWays_25 rfl ?_
    refine gx_iload_n 2 dX7_copiedWays_27 rfl rfl ?_
    refine gx_iload_n 1 dX7_copiedWays_28 rfl rfl ?_
    refine gx_callV 7 (As := [.int x5, .int x2, .int x1]) (st := [.long x3]) dX7_copiedWays_29 ml_X7_108 mm_X7_waysFor rfl rfl rfl rfl rfl rfl ⟨rfl, rfl⟩ h (fun v h2 hq => ?_)
    clear h
    obtain ⟨r4, I1, L2, c3, rfl, rfl, h⟩ := hq
    show Z_Sr_copiedWays g Q 32 [(0, .ref 23), (1, .int x1), (2, .int x2), (3, .long x3), (5, .int x5)] [.long r4, .long x3] I1 L2 c3
    refine gx_ladd dX7_copiedWays_32 ?_
    refine gx_lstore_n (lv' := [(0, .ref 23), (1, .int x1), (2, .int x2), (3, .long (x3 + r4)), (5, .int x5)]) dX7_copiedWays_33 rfl rfl rfl ?_
    refine gx_iinc (v := (x5 + 1)) (lv' := [(0, .ref 23), (1, .int x1), (2, .int x2), (3, .long (x3 + r4)), (5, .int (x5 + 1))]) 4 dX7_copiedWays_34 rfl rfl rfl rfl ?_
    refine gx_goto 11 dX7_copiedWays_37 (by decide) ?_
    exact h
abbrev Z_Sr_lay (g : gm_G) (Q : mI → mL → gm_cfg → Prop) (pc : Nat) (lv : List (Nat × Value)) (st : List Value) (I : mI) (L : mL) (c : gm_cfg) : Prop := gm_X g RX7 "lay" cX7_lay 4 none 6 0 0 (qV Q) 0 0 pc lv st (SH, I, L, RR c)
abbrev C_Sr_lay (g : gm_G) (x1 : Int32) (x2 : Int32) (I : mI) (L : mL) (c : gm_cfg) (Q : mI → mL → gm_cfg → Prop) : Prop := gm_Met g yX7_lay cX7_lay 4 none 6 0 0 [.ref 23, .int x1, .int x2] (SH, I, L, RR c) (qV Q)
set_option maxRecDepth 100000 in
theorem e_Sr_lay {g : gm_G} {Q : mI → mL → gm_cfg → Prop} {x1 x2 : Int32} {I : mI} {L : mL} {c : gm_cfg} (h : (C_Sr_weigh g x1 I L c (fun I1 L2 c3 => Z_Sr_lay g Q 7 [(0, .ref 23), (1, .int x1), (2, .int x2), (3, .int 0)] [] I1 L2 c3))) : C_Sr_lay g x1 x2 I L c Q := by
  refine gm_enter (lv := [(0, .ref 23), (1, .int x1), (2, .int x2)]) (by decide) rfl rfl rfl rfl ?_
  show Z_Sr_lay g Q 0 [(0, .ref 23), (1, .int x1), (2, .int x2)] [] I L c
  refine gx_aload_n 0 dX7_lay_0 rfl rfl ?_
  refine gx_iload_n 1 dX7_lay_1 rfl rfl ?_
  refine gx_callV 7 (As := [.int x1]) (st := []) dX7_lay_2 ml_X7_136 mm_X7_weigh rfl rfl rfl rfl rfl rfl ⟨rfl, rfl⟩ h (fun v h2 hq => ?_)
  clear h
  obtain ⟨I1, L2, c3, rfl, rfl, h⟩ := hq
  show Z_Sr_lay g Q 5 [(0, .ref 23), (1, .int x1), (2, .int x2)] [] I1 L2 c3
  refine gx_iconst (v := 0) dX7_lay_5 (by decide) ?_
  refine gx_istore_n (lv' := [(0, .ref 23), (1, .int x1), (2, .int x2), (3, .int 0)]) dX7_lay_6 rfl rfl rfl ?_
  exact h
set_option maxRecDepth 100000 in
theorem r_Sr_lay_7 {g : gm_G} {Q : mI → mL → gm_cfg → Prop} {x1 x2 x3 : Int32} {I : mI} {L : mL} {c : gm_cfg} (h : (((I 23 7) ≤ x3 → Q I L c) ∧ (¬ (I 23 7) ≤ x3 → (C_Sr_reachBehind g ((I 16 0) + x3) x2 I L c (fun o4 I1 L2 c3 => o4 = 24 ∧ (vp_in x3 200 ∧ (vp_in x3 200 ∧ (C_Sr_sum g (I1 24 0) (I1 24 1) (gm_u (gm_u I1 26 (Int32.toNatClampNeg x3) (I1 24 0)) 27 (Int32.toNatClampNeg x3) (I1 24 1)) L2 c3 (fun r8 I5 L6 c7 => (vp_in x3 200 ∧ Z_Sr_lay g Q 7 [(0, .ref 23), (1, .int x1), (2, .int x2), (3, .int (x3 + 1))] [] I5 (gm_u L6 28 (Int32.toNatClampNeg x3) r8) c7)))))))))) : Z_Sr_lay g Q 7 [(0, .ref 23), (1, .int x1), (2, .int x2), (3, .int x3)] [] I L c := by
  refine gx_iload_n 3 dX7_lay_7 rfl rfl ?_
  refine gx_aload_n 0 dX7_lay_8 rfl rfl ?_
  refine gx_geti 7 7 (v := (I 23 7)) dX7_lay_9 fl_X7_105 rfl rfl rfl ?_
  refine gx_icmp_ge 86 dX7_lay_12 (by decide) ⟨fun z => ?_, fun z => ?_⟩
  · replace h := h.1 z
    exact gx_vret dX7_lay_86 rfl rfl rfl ⟨_, _, _, rfl, rfl, h⟩
  · replace h := h.2 z
    refine gx_aload_n 0 dX7_lay_15 rfl rfl ?_
    refine gx_aload_n 0 dX7_lay_16 rfl rfl ?_
    refine gx_getr 7 0 (v := 16) dX7_lay_17 fl_X7_32 rfl rfl rfl ?_
    refine gx_geti 1 0 (v := (I 16 0)) dX7_lay_20 fl_X7_40 rfl rfl rfl ?_
    refine gx_iload_n 3 dX7_lay_23 rfl rfl ?_
    refine gx_iadd dX7_lay_24 ?_
    refine gx_iload_n 2 dX7_lay_25 rfl rfl ?_
    refine gx_callV 7 (As := [.int ((I 16 0) + x3), .int x2]) (st := []) dX7_lay_26 ml_X7_126 mm_X7_reachBehind rfl rfl rfl rfl rfl rfl ⟨rfl, rfl⟩ h (fun v h2 hq => ?_)
    clear h
    obtain ⟨o4, I1, L2, c3, rfl, rfl, h⟩ := hq
    obtain ⟨rfl, h⟩ := h
    show Z_Sr_lay g Q 29 [(0, .ref 23), (1, .int x1), (2, .int x2), (3, .int x3)] [.ref 24] I1 L2 c3
    refine gx_pop dX7_lay_29 rfl ?_
    refine gx_aload_n 0 dX7_lay_30 rfl rfl ?_
    refine gx_getr 7 4 (v := 26) dX7_lay_31 fl_X7_22 rfl rfl rfl ?_
    refine gx_iload_n 3 dX7_lay_34 rfl rfl ?_
    refine gx_aload_n 0 dX7_lay_35 rfl rfl ?_
    refine gx_getr 7 2 (v := 24) dX7_lay_36 fl_X7_12 rfl rfl rfl ?_
    refine gx_geti 4 0 (v := (I1 24 0)) dX7_lay_39 fl_X7_139 rfl rfl rfl ?_
    obtain ⟨hi, h⟩ := h
    refine gx_iast dX7_lay_42 rfl rfl hi (k := (Int32.toNatClampNeg x3)) rfl ?_
    show Z_Sr_lay g Q 43 [(0, .ref 23), (1, .int x1), (2, .int x2), (3, .int x3)] [] (gm_u I1 26 (Int32.toNatClampNeg x3) (I1 24 0)) L2 c3
    refine gx_aload_n 0 dX7_lay_43 rfl rfl ?_
    refine gx_getr 7 5 (v := 27) dX7_lay_44 fl_X7_26 rfl rfl rfl ?_
    refine gx_iload_n 3 dX7_lay_47 rfl rfl ?_
    refine gx_aload_n 0 dX7_lay_48 rfl rfl ?_
    refine gx_getr 7 2 (v := 24) dX7_lay_49 fl_X7_12 rfl rfl rfl ?_
    refine gx_geti 4 1 (v := (I1 24 1)) dX7_lay_52 fl_X7_142 rfl rfl rfl ?_
    obtain ⟨hi, h⟩ := h
    refine gx_iast dX7_lay_55 rfl rfl hi (k := (Int32.toNatClampNeg x3)) rfl ?_
    show Z_Sr_lay g Q 56 [(0, .ref 23), (1, .int x1), (2, .int x2), (3, .int x3)] [] (gm_u (gm_u I1 26 (Int32.toNatClampNeg x3) (I1 24 0)) 27 (Int32.toNatClampNeg x3) (I1 24 1)) L2 c3
    refine gx_aload_n 0 dX7_lay_56 rfl rfl ?_
    refine gx_getr 7 6 (v := 28) dX7_lay_57 fl_X7_29 rfl rfl rfl ?_
    refine gx_iload_n 3 dX7_lay_60 rfl rfl ?_
    refine gx_aload_n 0 dX7_lay_61 rfl rfl ?_
    refine gx_aload_n 0 dX7_lay_62 rfl rfl ?_
    refine gx_getr 7 2 (v := 24) dX7_lay_63 fl_X7_12 rfl rfl rfl ?_
    refine gx_geti 4 0 (v := (I1 24 0)) dX7_lay_66 fl_X7_139 rfl rfl rfl ?_
    refine gx_aload_n 0 dX7_lay_69 rfl rfl ?_
    refine gx_getr 7 2 (v := 24) dX7_lay_70 fl_X7_12 rfl rfl rfl ?_
    refine gx_geti 4 1 (v := (I1 24 1)) dX7_lay_73 fl_X7_142 rfl rfl rfl ?_
    refine gx_callV 7 (As := [.int (I1 24 0), .int (I1 24 1)]) (st := [.int x3, .ref 28]) dX7_lay_76 ml_X7_145 mm_X7_sum rfl rfl rfl rfl rfl rfl ⟨rfl, rfl⟩ h (fun v h2 hq => ?_)
    clear h
    obtain ⟨r8, I5, L6, c7, rfl, rfl, h⟩ := hq
    show Z_Sr_lay g Q 79 [(0, .ref 23), (1, .int x1), (2, .int x2), (3, .int x3)] [.long r8, .int x3, .ref 28] I5 L6 c7
    obtain ⟨hi, h⟩ := h
    refine gx_last dX7_lay_79 rfl rfl hi (k := (Int32.toNatClampNeg x3)) rfl ?_
    show Z_Sr_lay g Q 80 [(0, .ref 23), (1, .int x1), (2, .int x2), (3, .int x3)] [] I5 (gm_u L6 28 (Int32.toNatClampNeg x3) r8) c7
    refine gx_iinc (v := (x3 + 1)) (lv' := [(0, .ref 23), (1, .int x1), (2, .int x2), (3, .int (x3 + 1))]) 3 dX7_lay_80 rfl rfl rfl rfl ?_
    refine gx_goto 7 dX7_lay_83 (by decide) ?_
    exact h
abbrev Z_Sr_low (g : gm_G) (Q : Int32 → mI → mL → gm_cfg → Prop) (pc : Nat) (lv : List (Nat × Value)) (st : List Value) (I : mI) (L : mL) (c : gm_cfg) : Prop := gm_X g RX7 "low" cX7_low 1 (some .int) 1 0 0 (qI Q) 0 0 pc lv st (SH, I, L, RR c)
abbrev C_Sr_low (g : gm_G) (I : mI) (L : mL) (c : gm_cfg) (Q : Int32 → mI → mL → gm_cfg → Prop) : Prop := gm_Met g yX7_low cX7_low 1 (some .int) 1 0 0 [.ref 23] (SH, I, L, RR c) (qI Q)
set_option maxRecDepth 100000 in
theorem e_Sr_low {g : gm_G} {Q : Int32 → mI → mL → gm_cfg → Prop} {I : mI} {L : mL} {c : gm_cfg} (h : Q (I 16 0) I L c) : C_Sr_low g  I L c Q := by
  refine gm_enter (lv := [(0, .ref 23)]) (by decide) rfl rfl rfl rfl ?_
  show Z_Sr_low g Q 0 [(0, .ref 23)] [] I L c
  refine gx_aload_n 0 dX7_low_0 rfl rfl ?_
  refine gx_getr 7 0 (v := 16) dX7_low_1 fl_X7_32 rfl rfl rfl ?_
  refine gx_geti 1 0 (v := (I 16 0)) dX7_low_4 fl_X7_40 rfl rfl rfl ?_
  exact gx_iret dX7_low_7 rfl rfl rfl ⟨_, _, _, _, rfl, rfl, h⟩
abbrev Z_Sr_wholeOf (g : gm_G) (Q : Int64 → mI → mL → gm_cfg → Prop) (pc : Nat) (lv : List (Nat × Value)) (st : List Value) (I : mI) (L : mL) (c : gm_cfg) : Prop := gm_X g RX7 "wholeOf" cX7_wholeOf 3 (some .long) 1 0 0 (qL Q) 0 0 pc lv st (SH, I, L, RR c)
abbrev C_Sr_wholeOf (g : gm_G) (x1 : Int32) (I : mI) (L : mL) (c : gm_cfg) (Q : Int64 → mI → mL → gm_cfg → Prop) : Prop := gm_Met g yX7_wholeOf cX7_wholeOf 3 (some .long) 1 0 0 [.ref 23, .int x1] (SH, I, L, RR c) (qL Q)
set_option maxRecDepth 100000 in
theorem e_Sr_wholeOf {g : gm_G} {Q : Int64 → mI → mL → gm_cfg → Prop} {x1 : Int32} {I : mI} {L : mL} {c : gm_cfg} (h : (((x1 - (I 16 0)) < 0 → Q 0 I L c) ∧ (¬ (x1 - (I 16 0)) < 0 → (((I 23 7) ≤ (x1 - (I 16 0)) → Q 0 I L c) ∧ (¬ (I 23 7) ≤ (x1 - (I 16 0)) → (vp_in (x1 - (I 16 0)) 200 ∧ Q (L 28 (Int32.toNatClampNeg (x1 - (I 16 0)))) I L c)))))) : C_Sr_wholeOf g x1 I L c Q := by
  refine gm_enter (lv := [(0, .ref 23), (1, .int x1)]) (by decide) rfl rfl rfl rfl ?_
  show Z_Sr_wholeOf g Q 0 [(0, .ref 23), (1, .int x1)] [] I L c
  refine gx_iload_n 1 dX7_wholeOf_0 rfl rfl ?_
  refine gx_aload_n 0 dX7_wholeOf_1 rfl rfl ?_
  refine gx_getr 7 0 (v := 16) dX7_wholeOf_2 fl_X7_32 rfl rfl rfl ?_
  refine gx_geti 1 0 (v := (I 16 0)) dX7_wholeOf_5 fl_X7_40 rfl rfl rfl ?_
  refine gx_isub dX7_wholeOf_8 ?_
  refine gx_istore_n (lv' := [(0, .ref 23), (1, .int x1), (2, .int (x1 - (I 16 0)))]) dX7_wholeOf_9 rfl rfl rfl ?_
  refine gx_iload_n 2 dX7_wholeOf_10 rfl rfl ?_
  refine gx_if_lt 31 dX7_wholeOf_11 (by decide) ⟨fun z => ?_, fun z => ?_⟩
  · replace h := h.1 z
    refine gx_lconst (v := 0) dX7_wholeOf_31 (by decide) ?_
    exact gx_lret dX7_wholeOf_32 rfl rfl rfl ⟨_, _, _, _, rfl, rfl, h⟩
  · replace h := h.2 z
    refine gx_iload_n 2 dX7_wholeOf_14 rfl rfl ?_
    refine gx_aload_n 0 dX7_wholeOf_15 rfl rfl ?_
    refine gx_geti 7 7 (v := (I 23 7)) dX7_wholeOf_16 fl_X7_105 rfl rfl rfl ?_
    refine gx_icmp_ge 31 dX7_wholeOf_19 (by decide) ⟨fun z => ?_, fun z => ?_⟩
    · replace h := h.1 z
      refine gx_lconst (v := 0) dX7_wholeOf_31 (by decide) ?_
      exact gx_lret dX7_wholeOf_32 rfl rfl rfl ⟨_, _, _, _, rfl, rfl, h⟩
    · replace h := h.2 z
      refine gx_aload_n 0 dX7_wholeOf_22 rfl rfl ?_
      refine gx_getr 7 6 (v := 28) dX7_wholeOf_23 fl_X7_29 rfl rfl rfl ?_
      refine gx_iload_n 2 dX7_wholeOf_26 rfl rfl ?_
      obtain ⟨hi, h⟩ := h
      refine gx_lald (v := (L 28 (Int32.toNatClampNeg (x1 - (I 16 0))))) dX7_wholeOf_27 rfl rfl hi (k := (Int32.toNatClampNeg (x1 - (I 16 0)))) rfl rfl ?_
      refine gx_goto 32 dX7_wholeOf_28 (by decide) ?_
      exact gx_lret dX7_wholeOf_32 rfl rfl rfl ⟨_, _, _, _, rfl, rfl, h⟩
abbrev Z_Sr_laidReach (g : gm_G) (Q : Nat → mI → mL → gm_cfg → Prop) (pc : Nat) (lv : List (Nat × Value)) (st : List Value) (I : mI) (L : mL) (c : gm_cfg) : Prop := gm_X g RX7 "laidReach" cX7_laidReach 3 (some (.object "JarGuess$Reach")) 2 0 0 (qR Q) 0 0 pc lv st (SH, I, L, RR c)
abbrev C_Sr_laidReach (g : gm_G) (x1 : Int32) (I : mI) (L : mL) (c : gm_cfg) (Q : Nat → mI → mL → gm_cfg → Prop) : Prop := gm_Met g yX7_laidReach cX7_laidReach 3 (some (.object "JarGuess$Reach")) 2 0 0 [.ref 23, .int x1] (SH, I, L, RR c) (qR Q)
set_option maxRecDepth 100000 in
theorem e_Sr_laidReach {g : gm_G} {Q : Nat → mI → mL → gm_cfg → Prop} {x1 : Int32} {I : mI} {L : mL} {c : gm_cfg} (h : (((x1 - (I 16 0)) < 0 → Q 24 I L c) ∧ (¬ (x1 - (I 16 0)) < 0 → (((I 23 7) ≤ (x1 - (I 16 0)) → Q 24 I L c) ∧ (¬ (I 23 7) ≤ (x1 - (I 16 0)) → (vp_in (x1 - (I 16 0)) 200 ∧ (vp_in (x1 - (I 16 0)) 200 ∧ (C_Re_open g x1 (I 26 (Int32.toNatClampNeg (x1 - (I 16 0)))) (I 27 (Int32.toNatClampNeg (x1 - (I 16 0)))) I L c (fun I1 L2 c3 => Q 24 I1 L2 c3))))))))) : C_Sr_laidReach g x1 I L c Q := by
  refine gm_enter (lv := [(0, .ref 23), (1, .int x1)]) (by decide) rfl rfl rfl rfl ?_
  show Z_Sr_laidReach g Q 0 [(0, .ref 23), (1, .int x1)] [] I L c
  refine gx_iload_n 1 dX7_laidReach_0 rfl rfl ?_
  refine gx_aload_n 0 dX7_laidReach_1 rfl rfl ?_
  refine gx_getr 7 0 (v := 16) dX7_laidReach_2 fl_X7_32 rfl rfl rfl ?_
  refine gx_geti 1 0 (v := (I 16 0)) dX7_laidReach_5 fl_X7_40 rfl rfl rfl ?_
  refine gx_isub dX7_laidReach_8 ?_
  refine gx_istore_n (lv' := [(0, .ref 23), (1, .int x1), (2, .int (x1 - (I 16 0)))]) dX7_laidReach_9 rfl rfl rfl ?_
  refine gx_iload_n 2 dX7_laidReach_10 rfl rfl ?_
  refine gx_if_lt 42 dX7_laidReach_11 (by decide) ⟨fun z => ?_, fun z => ?_⟩
  · replace h := h.1 z
    refine gx_aload_n 0 dX7_laidReach_42 rfl rfl ?_
    refine gx_getr 7 2 (v := 24) dX7_laidReach_43 fl_X7_12 rfl rfl rfl ?_
    exact gx_aret dX7_laidReach_46 rfl rfl rfl ⟨_, _, _, _, rfl, rfl, h⟩
  · replace h := h.2 z
    refine gx_iload_n 2 dX7_laidReach_14 rfl rfl ?_
    refine gx_aload_n 0 dX7_laidReach_15 rfl rfl ?_
    refine gx_geti 7 7 (v := (I 23 7)) dX7_laidReach_16 fl_X7_105 rfl rfl rfl ?_
    refine gx_icmp_ge 42 dX7_laidReach_19 (by decide) ⟨fun z => ?_, fun z => ?_⟩
    · replace h := h.1 z
      refine gx_aload_n 0 dX7_laidReach_42 rfl rfl ?_
      refine gx_getr 7 2 (v := 24) dX7_laidReach_43 fl_X7_12 rfl rfl rfl ?_
      exact gx_aret dX7_laidReach_46 rfl rfl rfl ⟨_, _, _, _, rfl, rfl, h⟩
    · replace h := h.2 z
      refine gx_aload_n 0 dX7_laidReach_22 rfl rfl ?_
      refine gx_getr 7 2 (v := 24) dX7_laidReach_23 fl_X7_12 rfl rfl rfl ?_
      refine gx_iload_n 1 dX7_laidReach_26 rfl rfl ?_
      refine gx_aload_n 0 dX7_laidReach_27 rfl rfl ?_
      refine gx_getr 7 4 (v := 26) dX7_laidReach_28 fl_X7_22 rfl rfl rfl ?_
      refine gx_iload_n 2 dX7_laidReach_31 rfl rfl ?_
      obtain ⟨hi, h⟩ := h
      refine gx_iald (v := (I 26 (Int32.toNatClampNeg (x1 - (I 16 0))))) dX7_laidReach_32 rfl rfl hi (k := (Int32.toNatClampNeg (x1 - (I 16 0)))) rfl rfl ?_
      refine gx_aload_n 0 dX7_laidReach_33 rfl rfl ?_
      refine gx_getr 7 5 (v := 27) dX7_laidReach_34 fl_X7_26 rfl rfl rfl ?_
      refine gx_iload_n 2 dX7_laidReach_37 rfl rfl ?_
      obtain ⟨hi, h⟩ := h
      refine gx_iald (v := (I 27 (Int32.toNatClampNeg (x1 - (I 16 0))))) dX7_laidReach_38 rfl rfl hi (k := (Int32.toNatClampNeg (x1 - (I 16 0)))) rfl rfl ?_
      refine gx_callV 4 (As := [.int x1, .int (I 26 (Int32.toNatClampNeg (x1 - (I 16 0)))), .int (I 27 (Int32.toNatClampNeg (x1 - (I 16 0))))]) (st := []) dX7_laidReach_39 ml_X7_118 mm_X4_open rfl rfl rfl rfl rfl rfl ⟨rfl, rfl⟩ h (fun v h2 hq => ?_)
      clear h
      obtain ⟨I1, L2, c3, rfl, rfl, h⟩ := hq
      show Z_Sr_laidReach g Q 42 [(0, .ref 23), (1, .int x1), (2, .int (x1 - (I 16 0)))] [] I1 L2 c3
      refine gx_aload_n 0 dX7_laidReach_42 rfl rfl ?_
      refine gx_getr 7 2 (v := 24) dX7_laidReach_43 fl_X7_12 rfl rfl rfl ?_
      exact gx_aret dX7_laidReach_46 rfl rfl rfl ⟨_, _, _, _, rfl, rfl, h⟩
abbrev Z_Wr_shareOf (g : gm_G) (Q : Int64 → mI → mL → gm_cfg → Prop) (pc : Nat) (lv : List (Nat × Value)) (st : List Value) (I : mI) (L : mL) (c : gm_cfg) : Prop := gm_X g RX9 "shareOf" cX9_shareOf 5 (some .long) 3 0 0 (qL Q) 0 0 pc lv st (SH, I, L, RR c)
abbrev C_Wr_shareOf (g : gm_G) (x1 : Int32) (x2 : Int32) (I : mI) (L : mL) (c : gm_cfg) (Q : Int64 → mI → mL → gm_cfg → Prop) : Prop := gm_Met g yX9_shareOf cX9_shareOf 5 (some .long) 3 0 0 [.ref 29, .int x1, .int x2] (SH, I, L, RR c) (qL Q)
set_option maxRecDepth 100000 in
theorem e_Wr_shareOf {g : gm_G} {Q : Int64 → mI → mL → gm_cfg → Prop} {x1 x2 : Int32} {I : mI} {L : mL} {c : gm_cfg} (h : ((x1 < 0 → Q 0 I L c) ∧ (¬ x1 < 0 → ((x2 ≤ x1 → Q 0 I L c) ∧ (¬ x2 ≤ x1 → ((x2 ≤ 3 → (vp_in x1 3 ∧ (C_Sr_laidReach g (I 30 (Int32.toNatClampNeg x1)) I L c (fun o4 I1 L2 c3 => o4 = 24 ∧ Z_Wr_shareOf g Q 33 [(0, .ref 29), (1, .int x1), (2, .int x2), (3, .ref 24), (4, .int 0)] [] I1 L2 c3)))) ∧ (¬ x2 ≤ 3 → Q 0 I L c))))))) : C_Wr_shareOf g x1 x2 I L c Q := by
  refine gm_enter (lv := [(0, .ref 29), (1, .int x1), (2, .int x2)]) (by decide) rfl rfl rfl rfl ?_
  show Z_Wr_shareOf g Q 0 [(0, .ref 29), (1, .int x1), (2, .int x2)] [] I L c
  refine gx_iload_n 1 dX9_shareOf_0 rfl rfl ?_
  refine gx_if_lt 14 dX9_shareOf_1 (by decide) ⟨fun z => ?_, fun z => ?_⟩
  · replace h := h.1 z
    refine gx_lconst (v := 0) dX9_shareOf_14 (by decide) ?_
    exact gx_lret dX9_shareOf_15 rfl rfl rfl ⟨_, _, _, _, rfl, rfl, h⟩
  · replace h := h.2 z
    refine gx_iload_n 1 dX9_shareOf_4 rfl rfl ?_
    refine gx_iload_n 2 dX9_shareOf_5 rfl rfl ?_
    refine gx_icmp_ge 14 dX9_shareOf_6 (by decide) ⟨fun z => ?_, fun z => ?_⟩
    · replace h := h.1 z
      refine gx_lconst (v := 0) dX9_shareOf_14 (by decide) ?_
      exact gx_lret dX9_shareOf_15 rfl rfl rfl ⟨_, _, _, _, rfl, rfl, h⟩
    · replace h := h.2 z
      refine gx_iload_n 2 dX9_shareOf_9 rfl rfl ?_
      refine gx_iconst (v := 3) dX9_shareOf_10 (by decide) ?_
      refine gx_icmp_le 16 dX9_shareOf_11 (by decide) ⟨fun z => ?_, fun z => ?_⟩
      · replace h := h.1 z
        refine gx_aload_n 0 dX9_shareOf_16 rfl rfl ?_
        refine gx_getr 9 2 (v := 23) dX9_shareOf_17 fl_X9_20 rfl rfl rfl ?_
        refine gx_aload_n 0 dX9_shareOf_20 rfl rfl ?_
        refine gx_getr 9 0 (v := 30) dX9_shareOf_21 fl_X9_9 rfl rfl rfl ?_
        refine gx_iload_n 1 dX9_shareOf_24 rfl rfl ?_
        obtain ⟨hi, h⟩ := h
        refine gx_iald (v := (I 30 (Int32.toNatClampNeg x1))) dX9_shareOf_25 rfl rfl hi (k := (Int32.toNatClampNeg x1)) rfl rfl ?_
        refine gx_callV 7 (As := [.int (I 30 (Int32.toNatClampNeg x1))]) (st := []) dX9_shareOf_26 ml_X9_54 mm_X7_laidReach rfl rfl rfl rfl rfl rfl ⟨rfl, rfl⟩ h (fun v h2 hq => ?_)
        clear h
        obtain ⟨o4, I1, L2, c3, rfl, rfl, h⟩ := hq
        obtain ⟨rfl, h⟩ := h
        show Z_Wr_shareOf g Q 29 [(0, .ref 29), (1, .int x1), (2, .int x2)] [.ref 24] I1 L2 c3
        refine gx_astore_n (lv' := [(0, .ref 29), (1, .int x1), (2, .int x2), (3, .ref 24)]) dX9_shareOf_29 rfl rfl rfl ?_
        refine gx_iconst (v := 0) dX9_shareOf_30 (by decide) ?_
        refine gx_istore (lv' := [(0, .ref 29), (1, .int x1), (2, .int x2), (3, .ref 24), (4, .int 0)]) dX9_shareOf_31 rfl rfl ?_
        exact h
      · replace h := h.2 z
        refine gx_lconst (v := 0) dX9_shareOf_14 (by decide) ?_
        exact gx_lret dX9_shareOf_15 rfl rfl rfl ⟨_, _, _, _, rfl, rfl, h⟩
set_option maxRecDepth 100000 in
theorem r_Wr_shareOf_33 {g : gm_G} {Q : Int64 → mI → mL → gm_cfg → Prop} {x1 x2 x4 : Int32} {I : mI} {L : mL} {c : gm_cfg} (h : ((x1 ≤ x4 → Z_Wr_shareOf g Q 61 [(0, .ref 29), (1, .int x1), (2, .int x2), (3, .ref 24), (4, .int (x1 + 1))] [] I L c) ∧ (¬ x1 ≤ x4 → (vp_in x4 3 ∧ (C_Re_yieldTo g (I 30 (Int32.toNatClampNeg x4)) I L c (fun I1 L2 c3 => Z_Wr_shareOf g Q 33 [(0, .ref 29), (1, .int x1), (2, .int x2), (3, .ref 24), (4, .int (x4 + 1))] [] I1 L2 c3)))))) : Z_Wr_shareOf g Q 33 [(0, .ref 29), (1, .int x1), (2, .int x2), (3, .ref 24), (4, .int x4)] [] I L c := by
  refine gx_iload 4 dX9_shareOf_33 rfl ?_
  refine gx_iload_n 1 dX9_shareOf_35 rfl rfl ?_
  refine gx_icmp_ge 56 dX9_shareOf_36 (by decide) ⟨fun z => ?_, fun z => ?_⟩
  · replace h := h.1 z
    refine gx_iload_n 1 dX9_shareOf_56 rfl rfl ?_
    refine gx_iconst (v := 1) dX9_shareOf_57 (by decide) ?_
    refine gx_iadd dX9_shareOf_58 ?_
    refine gx_istore (lv' := [(0, .ref 29), (1, .int x1), (2, .int x2), (3, .ref 24), (4, .int (x1 + 1))]) dX9_shareOf_59 rfl rfl ?_
    exact h
  · replace h := h.2 z
    refine gx_aload_n 3 dX9_shareOf_39 rfl rfl ?_
    refine gx_aload_n 0 dX9_shareOf_40 rfl rfl ?_
    refine gx_getr 9 0 (v := 30) dX9_shareOf_41 fl_X9_9 rfl rfl rfl ?_
    refine gx_iload 4 dX9_shareOf_44 rfl ?_
    obtain ⟨hi, h⟩ := h
    refine gx_iald (v := (I 30 (Int32.toNatClampNeg x4))) dX9_shareOf_46 rfl rfl hi (k := (Int32.toNatClampNeg x4)) rfl rfl ?_
    refine gx_callV 4 (As := [.int (I 30 (Int32.toNatClampNeg x4))]) (st := []) dX9_shareOf_47 ml_X9_58 mm_X4_yieldTo rfl rfl rfl rfl rfl rfl ⟨rfl, rfl⟩ h (fun v h2 hq => ?_)
    clear h
    obtain ⟨I1, L2, c3, rfl, rfl, h⟩ := hq
    show Z_Wr_shareOf g Q 50 [(0, .ref 29), (1, .int x1), (2, .int x2), (3, .ref 24), (4, .int x4)] [] I1 L2 c3
    refine gx_iinc (v := (x4 + 1)) (lv' := [(0, .ref 29), (1, .int x1), (2, .int x2), (3, .ref 24), (4, .int (x4 + 1))]) 4 dX9_shareOf_50 rfl rfl rfl rfl ?_
    refine gx_goto 33 dX9_shareOf_53 (by decide) ?_
    exact h
set_option maxRecDepth 100000 in
theorem r_Wr_shareOf_61 {g : gm_G} {Q : Int64 → mI → mL → gm_cfg → Prop} {x1 x2 x4 : Int32} {I : mI} {L : mL} {c : gm_cfg} (h : ((x2 ≤ x4 → (C_Sr_sum g (I 24 0) (I 24 1) I L c (fun r4 I1 L2 c3 => Q r4 I1 L2 c3))) ∧ (¬ x2 ≤ x4 → (vp_in x4 3 ∧ (C_Re_keepFrom g (I 30 (Int32.toNatClampNeg x4)) I L c (fun I5 L6 c7 => Z_Wr_shareOf g Q 61 [(0, .ref 29), (1, .int x1), (2, .int x2), (3, .ref 24), (4, .int (x4 + 1))] [] I5 L6 c7)))))) : Z_Wr_shareOf g Q 61 [(0, .ref 29), (1, .int x1), (2, .int x2), (3, .ref 24), (4, .int x4)] [] I L c := by
  refine gx_iload 4 dX9_shareOf_61 rfl ?_
  refine gx_iload_n 2 dX9_shareOf_63 rfl rfl ?_
  refine gx_icmp_ge 84 dX9_shareOf_64 (by decide) ⟨fun z => ?_, fun z => ?_⟩
  · replace h := h.1 z
    refine gx_aload_n 0 dX9_shareOf_84 rfl rfl ?_
    refine gx_getr 9 2 (v := 23) dX9_shareOf_85 fl_X9_20 rfl rfl rfl ?_
    refine gx_aload_n 3 dX9_shareOf_88 rfl rfl ?_
    refine gx_geti 4 0 (v := (I 24 0)) dX9_shareOf_89 fl_X9_67 rfl rfl rfl ?_
    refine gx_aload_n 3 dX9_shareOf_92 rfl rfl ?_
    refine gx_geti 4 1 (v := (I 24 1)) dX9_shareOf_93 fl_X9_70 rfl rfl rfl ?_
    refine gx_callV 7 (As := [.int (I 24 0), .int (I 24 1)]) (st := []) dX9_shareOf_96 ml_X9_73 mm_X7_sum rfl rfl rfl rfl rfl rfl ⟨rfl, rfl⟩ h (fun v h2 hq => ?_)
    clear h
    obtain ⟨r4, I1, L2, c3, rfl, rfl, h⟩ := hq
    show Z_Wr_shareOf g Q 99 [(0, .ref 29), (1, .int x1), (2, .int x2), (3, .ref 24), (4, .int x4)] [.long r4] I1 L2 c3
    exact gx_lret dX9_shareOf_99 rfl rfl rfl ⟨_, _, _, _, rfl, rfl, h⟩
  · replace h := h.2 z
    refine gx_aload_n 3 dX9_shareOf_67 rfl rfl ?_
    refine gx_aload_n 0 dX9_shareOf_68 rfl rfl ?_
    refine gx_getr 9 0 (v := 30) dX9_shareOf_69 fl_X9_9 rfl rfl rfl ?_
    refine gx_iload 4 dX9_shareOf_72 rfl ?_
    obtain ⟨hi, h⟩ := h
    refine gx_iald (v := (I 30 (Int32.toNatClampNeg x4))) dX9_shareOf_74 rfl rfl hi (k := (Int32.toNatClampNeg x4)) rfl rfl ?_
    refine gx_callV 4 (As := [.int (I 30 (Int32.toNatClampNeg x4))]) (st := []) dX9_shareOf_75 ml_X9_64 mm_X4_keepFrom rfl rfl rfl rfl rfl rfl ⟨rfl, rfl⟩ h (fun v h2 hq => ?_)
    clear h
    obtain ⟨I5, L6, c7, rfl, rfl, h⟩ := hq
    show Z_Wr_shareOf g Q 78 [(0, .ref 29), (1, .int x1), (2, .int x2), (3, .ref 24), (4, .int x4)] [] I5 L6 c7
    refine gx_iinc (v := (x4 + 1)) (lv' := [(0, .ref 29), (1, .int x1), (2, .int x2), (3, .ref 24), (4, .int (x4 + 1))]) 4 dX9_shareOf_78 rfl rfl rfl rfl ?_
    refine gx_goto 61 dX9_shareOf_81 (by decide) ?_
    exact h
abbrev Z_Wr_choose_29_0_1 (g : gm_G) (Q : mI → mL → gm_cfg → Prop) (pc : Nat) (lv : List (Nat × Value)) (st : List Value) (I : mI) (L : mL) (c : gm_cfg) : Prop := gm_X g RX9 "choose" cX9_choose 9 none 4 0 0 (qV Q) 0 0 pc lv st (SH, I, L, RR c)
abbrev C_Wr_choose_29_0_1 (g : gm_G) (I : mI) (L : mL) (c : gm_cfg) (Q : mI → mL → gm_cfg → Prop) : Prop := gm_Met g yX9_choose cX9_choose 9 none 4 0 0 [.ref 29, .int 0, .int 1] (SH, I, L, RR c) (qV Q)
set_option maxRecDepth 100000 in
theorem e_Wr_choose_29_0_1 {g : gm_G} {Q : mI → mL → gm_cfg → Prop} {I : mI} {L : mL} {c : gm_cfg} (h : Z_Wr_choose_29_0_1 g Q 22 [(0, .ref 29), (1, .int 0), (2, .int 1), (3, .long (-1)), (5, .int 0)] [] I L c) : C_Wr_choose_29_0_1 g  I L c Q := by
  refine gm_enter (lv := [(0, .ref 29), (1, .int 0), (2, .int 1)]) (by decide) rfl rfl rfl rfl ?_
  show Z_Wr_choose_29_0_1 g Q 0 [(0, .ref 29), (1, .int 0), (2, .int 1)] [] I L c
  refine gx_iload_n 1 dX9_choose_0 rfl rfl ?_
  refine gx_if_lt 14 dX9_choose_1 (by decide) (br_f (by decide) ?_)
  refine gx_iload_n 1 dX9_choose_4 rfl rfl ?_
  refine gx_iload_n 2 dX9_choose_5 rfl rfl ?_
  refine gx_icmp_ge 14 dX9_choose_6 (by decide) (br_f (by decide) ?_)
  refine gx_iload_n 2 dX9_choose_9 rfl rfl ?_
  refine gx_iconst (v := 3) dX9_choose_10 (by decide) ?_
  refine gx_icmp_le 15 dX9_choose_11 (by decide) (br_t (by decide) ?_)
  refine gx_ldc2 dX9_choose_15 kl_X9_28 ?_
  refine gx_lstore_n (lv' := [(0, .ref 29), (1, .int 0), (2, .int 1), (3, .long (-1))]) dX9_choose_18 rfl rfl rfl ?_
  refine gx_iconst (v := 0) dX9_choose_19 (by decide) ?_
  refine gx_istore (lv' := [(0, .ref 29), (1, .int 0), (2, .int 1), (3, .long (-1)), (5, .int 0)]) dX9_choose_20 rfl rfl ?_
  exact h
set_option maxRecDepth 100000 in
theorem r_Wr_choose_29_0_1_22 {g : gm_G} {Q : mI → mL → gm_cfg → Prop} {x5 : Int32} {x3 : Int64} {I : mI} {L : mL} {c : gm_cfg} (h : (((I 23 7) ≤ x5 → Q (va_up I 30 (va_cpy (I 32) (I 30) (Int32.toNatClampNeg 0) (Int32.toNatClampNeg 0) (Int32.toNatClampNeg 1))) L c) ∧ (¬ (I 23 7) ≤ x5 → (C_Sr_low g I L c (fun r4 I1 L2 c3 => (C_Sr_wholeOf g (r4 + x5) I1 L2 c3 (fun r8 I5 L6 c7 => (((r8 : Int64) ≤ x3 → Z_Wr_choose_29_0_1 g Q 22 [(0, .ref 29), (1, .int 0), (2, .int 1), (3, .long x3), (5, .int (x5 + 1))] [] I5 L6 c7) ∧ (¬ (r8 : Int64) ≤ x3 → (C_Wr_shareOf g 0 1 (gm_u I5 30 0 (r4 + x5)) L6 c7 (fun r12 I9 L10 c11 => (((r12 : Int64) ≤ x3 → Z_Wr_choose_29_0_1 g Q 22 [(0, .ref 29), (1, .int 0), (2, .int 1), (3, .long x3), (5, .int (x5 + 1))] [] I9 L10 c11) ∧ (¬ (r12 : Int64) ≤ x3 → Z_Wr_choose_29_0_1 g Q 22 [(0, .ref 29), (1, .int 0), (2, .int 1), (3, .long r12), (5, .int (x5 + 1))] [] (va_up I9 32 (va_cpy (I9 30) (I9 32) (Int32.toNatClampNeg 0) (Int32.toNatClampNeg 0) (Int32.toNatClampNeg 1))) L10 c11))))))))))))) : Z_Wr_choose_29_0_1 g Q 22 [(0, .ref 29), (1, .int 0), (2, .int 1), (3, .long x3), (5, .int x5)] [] I L c := by
  refine gx_iload 4 dX9_choose_22 rfl ?_
  refine gx_aload_n 0 dX9_choose_24 rfl rfl ?_
  refine gx_getr 9 2 (v := 23) dX9_choose_25 fl_X9_20 rfl rfl rfl ?_
  refine gx_geti 7 7 (v := (I 23 7)) dX9_choose_28 fl_X9_30 rfl rfl rfl ?_
  refine gx_icmp_ge 125 dX9_choose_31 (by decide) ⟨fun z => ?_, fun z => ?_⟩
  · replace h := h.1 z
    refine gx_aload_n 0 dX9_choose_125 rfl rfl ?_
    refine gx_getr 9 1 (v := 31) dX9_choose_126 fl_X9_17 rfl rfl rfl ?_
    refine gx_iload_n 1 dX9_choose_129 rfl rfl ?_
    refine gx_aald (v := 32) dX9_choose_130 rfl rfl rfl rfl (gm_vin rfl) (k := 0) rfl rfl ?_
    refine gx_iload_n 1 dX9_choose_131 rfl rfl ?_
    refine gx_aload_n 0 dX9_choose_132 rfl rfl ?_
    refine gx_getr 9 0 (v := 30) dX9_choose_133 fl_X9_9 rfl rfl rfl ?_
    refine gx_iload_n 1 dX9_choose_136 rfl rfl ?_
    refine gx_iload_n 2 dX9_choose_137 rfl rfl ?_
    refine gx_iload_n 1 dX9_choose_138 rfl rfl ?_
    refine gx_isub dX9_choose_139 ?_
    show Z_Wr_choose_29_0_1 g Q 140 [(0, .ref 29), (1, .int 0), (2, .int 1), (3, .long x3), (5, .int x5)] [.int 1, .int 0, .ref 30, .int 0, .ref 32] I L c
    refine gx_copy dX9_choose_140 ml_X9_48 mw_copy rfl rfl rfl rfl rfl rfl (by decide) (by decide) (by decide) (by decide) (by decide) ?_
    show Z_Wr_choose_29_0_1 g Q 143 [(0, .ref 29), (1, .int 0), (2, .int 1), (3, .long x3), (5, .int x5)] [] (va_up I 30 (va_cpy (I 32) (I 30) (Int32.toNatClampNeg 0) (Int32.toNatClampNeg 0) (Int32.toNatClampNeg 1))) L c
    exact gx_vret dX9_choose_143 rfl rfl rfl ⟨_, _, _, rfl, rfl, h⟩
  · replace h := h.2 z
    refine gx_aload_n 0 dX9_choose_34 rfl rfl ?_
    refine gx_getr 9 2 (v := 23) dX9_choose_35 fl_X9_20 rfl rfl rfl ?_
    refine gx_callV 7 (As := []) (st := []) dX9_choose_38 ml_X9_36 mm_X7_low rfl rfl rfl rfl rfl rfl ⟨rfl, rfl⟩ h (fun v h2 hq => ?_)
    clear h
    obtain ⟨r4, I1, L2, c3, rfl, rfl, h⟩ := hq
    show Z_Wr_choose_29_0_1 g Q 41 [(0, .ref 29), (1, .int 0), (2, .int 1), (3, .long x3), (5, .int x5)] [.int r4] I1 L2 c3
    refine gx_iload 4 dX9_choose_41 rfl ?_
    refine gx_iadd dX9_choose_43 ?_
    refine gx_istore (lv' := [(0, .ref 29), (1, .int 0), (2, .int 1), (3, .long x3), (5, .int x5), (6, .int (r4 + x5))]) dX9_choose_44 rfl rfl ?_
    refine gx_aload_n 0 dX9_choose_46 rfl rfl ?_
    refine gx_getr 9 2 (v := 23) dX9_choose_47 fl_X9_20 rfl rfl rfl ?_
    refine gx_iload 5 dX9_choose_50 rfl ?_
    refine gx_callV 7 (As := [.int (r4 + x5)]) (st := []) dX9_choose_52 ml_X9_40 mm_X7_wholeOf rfl rfl rfl rfl rfl rfl ⟨rfl, rfl⟩ h (fun v h2 hq => ?_)
    clear h
    obtain ⟨r8, I5, L6, c7, rfl, rfl, h⟩ := hq
    show Z_Wr_choose_29_0_1 g Q 55 [(0, .ref 29), (1, .int 0), (2, .int 1), (3, .long x3), (5, .int x5), (6, .int (r4 + x5))] [.long r8] I5 L6 c7
    refine gx_lload_n 3 dX9_choose_55 rfl rfl ?_
    refine gx_lcmp_le 119 dX9_choose_56 dX9_choose_57 (by decide) ⟨fun z => ?_, fun z => ?_⟩
    · replace h := h.1 z
      refine gx_iinc (v := (x5 + 1)) (lv' := [(0, .ref 29), (1, .int 0), (2, .int 1), (3, .long x3), (5, .int (x5 + 1)), (6, .int (r4 + x5))]) 4 dX9_choose_119 rfl rfl rfl rfl ?_
      refine gx_goto 22 dX9_choose_122 (by decide) ?_
      refine gx_sub [0, 1, 2, 3, 4] (lv' := [(0, .ref 29), (1, .int 0), (2, .int 1), (3, .long x3), (5, .int (x5 + 1))]) rfl ?_
      exact h
    · replace h := h.2 z
      refine gx_aload_n 0 dX9_choose_60 rfl rfl ?_
      refine gx_getr 9 0 (v := 30) dX9_choose_61 fl_X9_9 rfl rfl rfl ?_
      refine gx_iload_n 1 dX9_choose_64 rfl rfl ?_
      refine gx_iload 5 dX9_choose_65 rfl ?_
      refine gx_iast dX9_choose_67 rfl rfl (gm_vin rfl) (k := 0) rfl ?_
      show Z_Wr_choose_29_0_1 g Q 68 [(0, .ref 29), (1, .int 0), (2, .int 1), (3, .long x3), (5, .int x5), (6, .int (r4 + x5))] [] (gm_u I5 30 0 (r4 + x5)) L6 c7
      refine gx_iload_n 1 dX9_choose_68 rfl rfl ?_
      refine gx_iconst (v := 1) dX9_choose_69 (by decide) ?_
      refine gx_iadd dX9_choose_70 ?_
      show Z_Wr_choose_29_0_1 g Q 71 [(0, .ref 29), (1, .int 0), (2, .int 1), (3, .long x3), (5, .int x5), (6, .int (r4 + x5))] [.int 1] (gm_u I5 30 0 (r4 + x5)) L6 c7
      refine gx_iload_n 2 dX9_choose_71 rfl rfl ?_
      refine gx_icmp_ge 83 dX9_choose_72 (by decide) (br_t (by decide) ?_)
      refine gx_aload_n 0 dX9_choose_83 rfl rfl ?_
      refine gx_iload_n 1 dX9_choose_84 rfl rfl ?_
      refine gx_iload_n 2 dX9_choose_85 rfl rfl ?_
      refine gx_callV 9 (As := [.int 0, .int 1]) (st := []) dX9_choose_86 ml_X9_44 mm_X9_shareOf rfl rfl rfl rfl rfl rfl ⟨rfl, rfl⟩ h (fun v h2 hq => ?_)
      clear h
      obtain ⟨r12, I9, L10, c11, rfl, rfl, h⟩ := hq
      show Z_Wr_choose_29_0_1 g Q 89 [(0, .ref 29), (1, .int 0), (2, .int 1), (3, .long x3), (5, .int x5), (6, .int (r4 + x5))] [.long r12] I9 L10 c11
      refine gx_lstore (lv' := [(0, .ref 29), (1, .int 0), (2, .int 1), (3, .long x3), (5, .int x5), (6, .int (r4 + x5)), (7, .long r12)]) dX9_choose_89 rfl rfl ?_
      refine gx_lload 6 dX9_choose_91 rfl ?_
      refine gx_lload_n 3 dX9_choose_93 rfl rfl ?_
      refine gx_lcmp_le 119 dX9_choose_94 dX9_choose_95 (by decide) ⟨fun z => ?_, fun z => ?_⟩
      · replace h := h.1 z
        refine gx_iinc (v := (x5 + 1)) (lv' := [(0, .ref 29), (1, .int 0), (2, .int 1), (3, .long x3), (5, .int (x5 + 1)), (6, .int (r4 + x5)), (7, .long r12)]) 4 dX9_choose_119 rfl rfl rfl rfl ?_
        refine gx_goto 22 dX9_choose_122 (by decide) ?_
        refine gx_sub [0, 1, 2, 3, 4] (lv' := [(0, .ref 29), (1, .int 0), (2, .int 1), (3, .long x3), (5, .int (x5 + 1))]) rfl ?_
        exact h
      · replace h := h.2 z
        refine gx_lload 6 dX9_choose_98 rfl ?_
        refine gx_lstore_n (lv' := [(0, .ref 29), (1, .int 0), (2, .int 1), (3, .long r12), (5, .int x5), (6, .int (r4 + x5)), (7, .long r12)]) dX9_choose_100 rfl rfl rfl ?_
        refine gx_aload_n 0 dX9_choose_101 rfl rfl ?_
        refine gx_getr 9 0 (v := 30) dX9_choose_102 fl_X9_9 rfl rfl rfl ?_
        refine gx_iload_n 1 dX9_choose_105 rfl rfl ?_
        refine gx_aload_n 0 dX9_choose_106 rfl rfl ?_
        refine gx_getr 9 1 (v := 31) dX9_choose_107 fl_X9_17 rfl rfl rfl ?_
        refine gx_iload_n 1 dX9_choose_110 rfl rfl ?_
        refine gx_aald (v := 32) dX9_choose_111 rfl rfl rfl rfl (gm_vin rfl) (k := 0) rfl rfl ?_
        refine gx_iload_n 1 dX9_choose_112 rfl rfl ?_
        refine gx_iload_n 2 dX9_choose_113 rfl rfl ?_
        refine gx_iload_n 1 dX9_choose_114 rfl rfl ?_
        refine gx_isub dX9_choose_115 ?_
        show Z_Wr_choose_29_0_1 g Q 116 [(0, .ref 29), (1, .int 0), (2, .int 1), (3, .long r12), (5, .int x5), (6, .int (r4 + x5)), (7, .long r12)] [.int 1, .int 0, .ref 32, .int 0, .ref 30] I9 L10 c11
        refine gx_copy dX9_choose_116 ml_X9_48 mw_copy rfl rfl rfl rfl rfl rfl (by decide) (by decide) (by decide) (by decide) (by decide) ?_
        show Z_Wr_choose_29_0_1 g Q 119 [(0, .ref 29), (1, .int 0), (2, .int 1), (3, .long r12), (5, .int x5), (6, .int (r4 + x5)), (7, .long r12)] [] (va_up I9 32 (va_cpy (I9 30) (I9 32) (Int32.toNatClampNeg 0) (Int32.toNatClampNeg 0) (Int32.toNatClampNeg 1))) L10 c11
        refine gx_iinc (v := (x5 + 1)) (lv' := [(0, .ref 29), (1, .int 0), (2, .int 1), (3, .long r12), (5, .int (x5 + 1)), (6, .int (r4 + x5)), (7, .long r12)]) 4 dX9_choose_119 rfl rfl rfl rfl ?_
        refine gx_goto 22 dX9_choose_122 (by decide) ?_
        refine gx_sub [0, 1, 2, 3, 4] (lv' := [(0, .ref 29), (1, .int 0), (2, .int 1), (3, .long r12), (5, .int (x5 + 1))]) rfl ?_
        exact h
abbrev Z_Wr_play_0_1 (g : gm_G) (Q : mI → mL → gm_cfg → Prop) (pc : Nat) (lv : List (Nat × Value)) (st : List Value) (I : mI) (L : mL) (c : gm_cfg) : Prop := gm_X g RX9 "play" cX9_play 3 none 5 0 0 (qV Q) 0 0 pc lv st (SH, I, L, RR c)
abbrev C_Wr_play_0_1 (g : gm_G) (I : mI) (L : mL) (c : gm_cfg) (Q : mI → mL → gm_cfg → Prop) : Prop := gm_Met g yX9_play cX9_play 3 none 5 0 0 [.ref 29, .int 0, .int 1] (SH, I, L, RR c) (qV Q)
set_option maxRecDepth 100000 in
theorem e_Wr_play_0_1 {g : gm_G} {Q : mI → mL → gm_cfg → Prop} {I : mI} {L : mL} {c : gm_cfg} (h : (C_Wr_choose_29_0_1 g I L c (fun I1 L2 c3 => Q I1 L2 c3))) : C_Wr_play_0_1 g  I L c Q := by
  refine gm_enter (lv := [(0, .ref 29), (1, .int 0), (2, .int 1)]) (by decide) rfl rfl rfl rfl ?_
  show Z_Wr_play_0_1 g Q 0 [(0, .ref 29), (1, .int 0), (2, .int 1)] [] I L c
  refine gx_aload_n 0 dX9_play_0 rfl rfl ?_
  refine gx_iload_n 1 dX9_play_1 rfl rfl ?_
  refine gx_iload_n 2 dX9_play_2 rfl rfl ?_
  refine gx_callS (As := [.ref 29, .int 0, .int 1]) (st := []) dX9_play_3 ml_X9_24 mm_X9_choose rfl rfl rfl rfl ⟨rfl, rfl⟩ h (fun v h2 hq => ?_)
  clear h
  obtain ⟨I1, L2, c3, rfl, rfl, h⟩ := hq
  show Z_Wr_play_0_1 g Q 6 [(0, .ref 29), (1, .int 0), (2, .int 1)] [] I1 L2 c3
  exact gx_vret dX9_play_6 rfl rfl rfl ⟨_, _, _, rfl, rfl, h⟩
abbrev Z_Sr_keepTwo (g : gm_G) (Q : mI → mL → gm_cfg → Prop) (pc : Nat) (lv : List (Nat × Value)) (st : List Value) (I : mI) (L : mL) (c : gm_cfg) : Prop := gm_X g RX7 "keepTwo" cX7_keepTwo 5 none 1 0 0 (qV Q) 0 0 pc lv st (SH, I, L, RR c)
abbrev C_Sr_keepTwo (g : gm_G) (x1 : Int32) (x2 : Int32) (x3 : Int64) (I : mI) (L : mL) (c : gm_cfg) (Q : mI → mL → gm_cfg → Prop) : Prop := gm_Met g yX7_keepTwo cX7_keepTwo 5 none 1 0 0 [.ref 23, .int x1, .int x2, .long x3] (SH, I, L, RR c) (qV Q)
set_option maxRecDepth 100000 in
theorem e_Sr_keepTwo {g : gm_G} {Q : mI → mL → gm_cfg → Prop} {x1 x2 : Int32} {x3 : Int64} {I : mI} {L : mL} {c : gm_cfg} (h : (((x3 : Int64) ≤ (L 23 10) → Q I L c) ∧ (¬ (x3 : Int64) ≤ (L 23 10) → Q (gm_u (gm_u I 23 8 x1) 23 9 x2) (gm_u L 23 10 x3) c))) : C_Sr_keepTwo g x1 x2 x3 I L c Q := by
  refine gm_enter (lv := [(0, .ref 23), (1, .int x1), (2, .int x2), (3, .long x3)]) (by decide) rfl rfl rfl rfl ?_
  show Z_Sr_keepTwo g Q 0 [(0, .ref 23), (1, .int x1), (2, .int x2), (3, .long x3)] [] I L c
  refine gx_lload_n 3 dX7_keepTwo_0 rfl rfl ?_
  refine gx_aload_n 0 dX7_keepTwo_1 rfl rfl ?_
  refine gx_getl 7 10 (v := (L 23 10)) dX7_keepTwo_2 fl_X7_150 rfl rfl rfl ?_
  refine gx_lcmp_le 24 dX7_keepTwo_5 dX7_keepTwo_6 (by decide) ⟨fun z => ?_, fun z => ?_⟩
  · replace h := h.1 z
    exact gx_vret dX7_keepTwo_24 rfl rfl rfl ⟨_, _, _, rfl, rfl, h⟩
  · replace h := h.2 z
    refine gx_aload_n 0 dX7_keepTwo_9 rfl rfl ?_
    refine gx_iload_n 1 dX7_keepTwo_10 rfl rfl ?_
    refine gx_puti 7 8 dX7_keepTwo_11 fl_X7_158 rfl rfl rfl ⟨rfl, rfl⟩ ?_
    show Z_Sr_keepTwo g Q 14 [(0, .ref 23), (1, .int x1), (2, .int x2), (3, .long x3)] [] (gm_u I 23 8 x1) L c
    refine gx_aload_n 0 dX7_keepTwo_14 rfl rfl ?_
    refine gx_iload_n 2 dX7_keepTwo_15 rfl rfl ?_
    refine gx_puti 7 9 dX7_keepTwo_16 fl_X7_161 rfl rfl rfl ⟨rfl, rfl⟩ ?_
    show Z_Sr_keepTwo g Q 19 [(0, .ref 23), (1, .int x1), (2, .int x2), (3, .long x3)] [] (gm_u (gm_u I 23 8 x1) 23 9 x2) L c
    refine gx_aload_n 0 dX7_keepTwo_19 rfl rfl ?_
    refine gx_lload_n 3 dX7_keepTwo_20 rfl rfl ?_
    refine gx_putl 7 10 dX7_keepTwo_21 fl_X7_150 rfl rfl rfl ⟨rfl, rfl⟩ ?_
    show Z_Sr_keepTwo g Q 24 [(0, .ref 23), (1, .int x1), (2, .int x2), (3, .long x3)] [] (gm_u (gm_u I 23 8 x1) 23 9 x2) (gm_u L 23 10 x3) c
    exact gx_vret dX7_keepTwo_24 rfl rfl rfl ⟨_, _, _, rfl, rfl, h⟩
abbrev Z_Sr_chooseTwo (g : gm_G) (Q : mI → mL → gm_cfg → Prop) (pc : Nat) (lv : List (Nat × Value)) (st : List Value) (I : mI) (L : mL) (c : gm_cfg) : Prop := gm_X g RX7 "chooseTwo" cX7_chooseTwo 7 none 2 0 0 (qV Q) 0 0 pc lv st (SH, I, L, RR c)
abbrev C_Sr_chooseTwo (g : gm_G) (I : mI) (L : mL) (c : gm_cfg) (Q : mI → mL → gm_cfg → Prop) : Prop := gm_Met g yX7_chooseTwo cX7_chooseTwo 7 none 2 0 0 [.ref 23] (SH, I, L, RR c) (qV Q)
set_option maxRecDepth 100000 in
theorem e_Sr_chooseTwo {g : gm_G} {Q : mI → mL → gm_cfg → Prop} {I : mI} {L : mL} {c : gm_cfg} (h : Z_Sr_chooseTwo g Q 9 [(0, .ref 23), (1, .int 0)] [] I (gm_u L 23 10 (-1)) c) : C_Sr_chooseTwo g  I L c Q := by
  refine gm_enter (lv := [(0, .ref 23)]) (by decide) rfl rfl rfl rfl ?_
  show Z_Sr_chooseTwo g Q 0 [(0, .ref 23)] [] I L c
  refine gx_aload_n 0 dX7_chooseTwo_0 rfl rfl ?_
  refine gx_ldc2 dX7_chooseTwo_1 kl_X7_148 ?_
  refine gx_putl 7 10 dX7_chooseTwo_4 fl_X7_150 rfl rfl rfl ⟨rfl, rfl⟩ ?_
  show Z_Sr_chooseTwo g Q 7 [(0, .ref 23)] [] I (gm_u L 23 10 (-1)) c
  refine gx_iconst (v := 0) dX7_chooseTwo_7 (by decide) ?_
  refine gx_istore_n (lv' := [(0, .ref 23), (1, .int 0)]) dX7_chooseTwo_8 rfl rfl rfl ?_
  exact h
set_option maxRecDepth 100000 in
theorem r_Sr_chooseTwo_9 {g : gm_G} {Q : mI → mL → gm_cfg → Prop} {x1 : Int32} {I : mI} {L : mL} {c : gm_cfg} (h : (((I 23 7) ≤ x1 → Q I L c) ∧ (¬ (I 23 7) ≤ x1 → Z_Sr_chooseTwo g Q 21 [(0, .ref 23), (1, .int x1), (2, .int (x1 + 1))] [] I L c))) : Z_Sr_chooseTwo g Q 9 [(0, .ref 23), (1, .int x1)] [] I L c := by
  refine gx_iload_n 1 dX7_chooseTwo_9 rfl rfl ?_
  refine gx_aload_n 0 dX7_chooseTwo_10 rfl rfl ?_
  refine gx_geti 7 7 (v := (I 23 7)) dX7_chooseTwo_11 fl_X7_105 rfl rfl rfl ?_
  refine gx_icmp_ge 126 dX7_chooseTwo_14 (by decide) ⟨fun z => ?_, fun z => ?_⟩
  · replace h := h.1 z
    exact gx_vret dX7_chooseTwo_126 rfl rfl rfl ⟨_, _, _, rfl, rfl, h⟩
  · replace h := h.2 z
    refine gx_iload_n 1 dX7_chooseTwo_17 rfl rfl ?_
    refine gx_iconst (v := 1) dX7_chooseTwo_18 (by decide) ?_
    refine gx_iadd dX7_chooseTwo_19 ?_
    refine gx_istore_n (lv' := [(0, .ref 23), (1, .int x1), (2, .int (x1 + 1))]) dX7_chooseTwo_20 rfl rfl rfl ?_
    exact h
set_option maxRecDepth 100000 in
theorem r_Sr_chooseTwo_21 {g : gm_G} {Q : mI → mL → gm_cfg → Prop} {x1 x2 : Int32} {I : mI} {L : mL} {c : gm_cfg} (h : (((I 23 7) ≤ x2 → Z_Sr_chooseTwo g Q 9 [(0, .ref 23), (1, .int (x1 + 1))] [] I L c) ∧ (¬ (I 23 7) ≤ x2 → (vp_in x1 200 ∧ (vp_in x2 200 ∧ ((((L 28 (Int32.toNatClampNeg x1)) + (L 28 (Int32.toNatClampNeg x2))) ≤ (L 23 10) → Z_Sr_chooseTwo g Q 21 [(0, .ref 23), (1, .int x1), (2, .int (x2 + 1))] [] I L c) ∧ (¬ ((L 28 (Int32.toNatClampNeg x1)) + (L 28 (Int32.toNatClampNeg x2))) ≤ (L 23 10) → (vp_in x1 200 ∧ (vp_in x2 200 ∧ (vp_in x1 200 ∧ (vp_in x2 200 ∧ (C_Sr_sum g ((if (I 26 (Int32.toNatClampNeg x1)) < (I 26 (Int32.toNatClampNeg x2)) then (I 26 (Int32.toNatClampNeg x2)) else (I 26 (Int32.toNatClampNeg x1))) : Int32) ((if (I 27 (Int32.toNatClampNeg x2)) < (I 27 (Int32.toNatClampNeg x1)) then (I 27 (Int32.toNatClampNeg x2)) else (I 27 (Int32.toNatClampNeg x1))) : Int32) I L c (fun r4 I1 L2 c3 => (C_Sr_keepTwo g ((I1 16 0) + x1) ((I1 16 0) + x2) (((L 28 (Int32.toNatClampNeg x1)) + (L 28 (Int32.toNatClampNeg x2))) - r4) I1 L2 c3 (fun I5 L6 c7 => Z_Sr_chooseTwo g Q 21 [(0, .ref 23), (1, .int x1), (2, .int (x2 + 1))] [] I5 L6 c7))))))))))))))) : Z_Sr_chooseTwo g Q 21 [(0, .ref 23), (1, .int x1), (2, .int x2)] [] I L c := by
  refine gx_iload_n 2 dX7_chooseTwo_21 rfl rfl ?_
  refine gx_aload_n 0 dX7_chooseTwo_22 rfl rfl ?_
  refine gx_geti 7 7 (v := (I 23 7)) dX7_chooseTwo_23 fl_X7_105 rfl rfl rfl ?_
  refine gx_icmp_ge 120 dX7_chooseTwo_26 (by decide) ⟨fun z => ?_, fun z => ?_⟩
  · replace h := h.1 z
    refine gx_iinc (v := (x1 + 1)) (lv' := [(0, .ref 23), (1, .int (x1 + 1)), (2, .int x2)]) 1 dX7_chooseTwo_120 rfl rfl rfl rfl ?_
    refine gx_goto 9 dX7_chooseTwo_123 (by decide) ?_
    refine gx_sub [0, 1] (lv' := [(0, .ref 23), (1, .int (x1 + 1))]) rfl ?_
    exact h
  · replace h := h.2 z
    refine gx_aload_n 0 dX7_chooseTwo_29 rfl rfl ?_
    refine gx_getr 7 6 (v := 28) dX7_chooseTwo_30 fl_X7_29 rfl rfl rfl ?_
    refine gx_iload_n 1 dX7_chooseTwo_33 rfl rfl ?_
    obtain ⟨hi, h⟩ := h
    refine gx_lald (v := (L 28 (Int32.toNatClampNeg x1))) dX7_chooseTwo_34 rfl rfl hi (k := (Int32.toNatClampNeg x1)) rfl rfl ?_
    refine gx_aload_n 0 dX7_chooseTwo_35 rfl rfl ?_
    refine gx_getr 7 6 (v := 28) dX7_chooseTwo_36 fl_X7_29 rfl rfl rfl ?_
    refine gx_iload_n 2 dX7_chooseTwo_39 rfl rfl ?_
    obtain ⟨hi, h⟩ := h
    refine gx_lald (v := (L 28 (Int32.toNatClampNeg x2))) dX7_chooseTwo_40 rfl rfl hi (k := (Int32.toNatClampNeg x2)) rfl rfl ?_
    refine gx_ladd dX7_chooseTwo_41 ?_
    refine gx_lstore_n (lv' := [(0, .ref 23), (1, .int x1), (2, .int x2), (3, .long ((L 28 (Int32.toNatClampNeg x1)) + (L 28 (Int32.toNatClampNeg x2))))]) dX7_chooseTwo_42 rfl rfl rfl ?_
    refine gx_lload_n 3 dX7_chooseTwo_43 rfl rfl ?_
    refine gx_aload_n 0 dX7_chooseTwo_44 rfl rfl ?_
    refine gx_getl 7 10 (v := (L 23 10)) dX7_chooseTwo_45 fl_X7_150 rfl rfl rfl ?_
    refine gx_lcmp_le 114 dX7_chooseTwo_48 dX7_chooseTwo_49 (by decide) ⟨fun z => ?_, fun z => ?_⟩
    · replace h := h.1 z
      refine gx_iinc (v := (x2 + 1)) (lv' := [(0, .ref 23), (1, .int x1), (2, .int (x2 + 1)), (3, .long ((L 28 (Int32.toNatClampNeg x1)) + (L 28 (Int32.toNatClampNeg x2))))]) 2 dX7_chooseTwo_114 rfl rfl rfl rfl ?_
      refine gx_goto 21 dX7_chooseTwo_117 (by decide) ?_
      refine gx_sub [0, 1, 2] (lv' := [(0, .ref 23), (1, .int x1), (2, .int (x2 + 1))]) rfl ?_
      exact h
    · replace h := h.2 z
      refine gx_lload_n 3 dX7_chooseTwo_52 rfl rfl ?_
      refine gx_aload_n 0 dX7_chooseTwo_53 rfl rfl ?_
      refine gx_aload_n 0 dX7_chooseTwo_54 rfl rfl ?_
      refine gx_getr 7 4 (v := 26) dX7_chooseTwo_55 fl_X7_22 rfl rfl rfl ?_
      refine gx_iload_n 1 dX7_chooseTwo_58 rfl rfl ?_
      obtain ⟨hi, h⟩ := h
      refine gx_iald (v := (I 26 (Int32.toNatClampNeg x1))) dX7_chooseTwo_59 rfl rfl hi (k := (Int32.toNatClampNeg x1)) rfl rfl ?_
      refine gx_aload_n 0 dX7_chooseTwo_60 rfl rfl ?_
      refine gx_getr 7 4 (v := 26) dX7_chooseTwo_61 fl_X7_22 rfl rfl rfl ?_
      refine gx_iload_n 2 dX7_chooseTwo_64 rfl rfl ?_
      obtain ⟨hi, h⟩ := h
      refine gx_iald (v := (I 26 (Int32.toNatClampNeg x2))) dX7_chooseTwo_65 rfl rfl hi (k := (Int32.toNatClampNeg x2)) rfl rfl ?_
      refine gx_mmax dX7_chooseTwo_66 ml_X7_102 mw_max rfl rfl rfl rfl ?_
      refine gx_aload_n 0 dX7_chooseTwo_69 rfl rfl ?_
      refine gx_getr 7 5 (v := 27) dX7_chooseTwo_70 fl_X7_26 rfl rfl rfl ?_
      refine gx_iload_n 1 dX7_chooseTwo_73 rfl rfl ?_
      obtain ⟨hi, h⟩ := h
      refine gx_iald (v := (I 27 (Int32.toNatClampNeg x1))) dX7_chooseTwo_74 rfl rfl hi (k := (Int32.toNatClampNeg x1)) rfl rfl ?_
      refine gx_aload_n 0 dX7_chooseTwo_75 rfl rfl ?_
      refine gx_getr 7 5 (v := 27) dX7_chooseTwo_76 fl_X7_26 rfl rfl rfl ?_
      refine gx_iload_n 2 dX7_chooseTwo_79 rfl rfl ?_
      obtain ⟨hi, h⟩ := h
      refine gx_iald (v := (I 27 (Int32.toNatClampNeg x2))) dX7_chooseTwo_80 rfl rfl hi (k := (Int32.toNatClampNeg x2)) rfl rfl ?_
      refine gx_mmin dX7_chooseTwo_81 ml_X7_99 mw_min rfl rfl rfl rfl ?_
      refine gx_callV 7 (As := [.int ((if (I 26 (Int32.toNatClampNeg x1)) < (I 26 (Int32.toNatClampNeg x2)) then (I 26 (Int32.toNatClampNeg x2)) else (I 26 (Int32.toNatClampNeg x1))) : Int32), .int ((if (I 27 (Int32.toNatClampNeg x2)) < (I 27 (Int32.toNatClampNeg x1)) then (I 27 (Int32.toNatClampNeg x2)) else (I 27 (Int32.toNatClampNeg x1))) : Int32)]) (st := [.long ((L 28 (Int32.toNatClampNeg x1)) + (L 28 (Int32.toNatClampNeg x2)))]) dX7_chooseTwo_84 ml_X7_145 mm_X7_sum rfl rfl rfl rfl rfl rfl ⟨rfl, rfl⟩ h (fun v h2 hq => ?_)
      clear h
      obtain ⟨r4, I1, L2, c3, rfl, rfl, h⟩ := hq
      show Z_Sr_chooseTwo g Q 87 [(0, .ref 23), (1, .int x1), (2, .int x2), (3, .long ((L 28 (Int32.toNatClampNeg x1)) + (L 28 (Int32.toNatClampNeg x2))))] [.long r4, .long ((L 28 (Int32.toNatClampNeg x1)) + (L 28 (Int32.toNatClampNeg x2)))] I1 L2 c3
      refine gx_lsub dX7_chooseTwo_87 ?_
      refine gx_lstore (lv' := [(0, .ref 23), (1, .int x1), (2, .int x2), (3, .long ((L 28 (Int32.toNatClampNeg x1)) + (L 28 (Int32.toNatClampNeg x2)))), (5, .long (((L 28 (Int32.toNatClampNeg x1)) + (L 28 (Int32.toNatClampNeg x2))) - r4))]) dX7_chooseTwo_88 rfl rfl ?_
      refine gx_aload_n 0 dX7_chooseTwo_90 rfl rfl ?_
      refine gx_aload_n 0 dX7_chooseTwo_91 rfl rfl ?_
      refine gx_getr 7 0 (v := 16) dX7_chooseTwo_92 fl_X7_32 rfl rfl rfl ?_
      refine gx_geti 1 0 (v := (I1 16 0)) dX7_chooseTwo_95 fl_X7_40 rfl rfl rfl ?_
      refine gx_iload_n 1 dX7_chooseTwo_98 rfl rfl ?_
      refine gx_iadd dX7_chooseTwo_99 ?_
      refine gx_aload_n 0 dX7_chooseTwo_100 rfl rfl ?_
      refine gx_getr 7 0 (v := 16) dX7_chooseTwo_101 fl_X7_32 rfl rfl rfl ?_
      refine gx_geti 1 0 (v := (I1 16 0)) dX7_chooseTwo_104 fl_X7_40 rfl rfl rfl ?_
      refine gx_iload_n 2 dX7_chooseTwo_107 rfl rfl ?_
      refine gx_iadd dX7_chooseTwo_108 ?_
      refine gx_lload 4 dX7_chooseTwo_109 rfl ?_
      refine gx_callV 7 (As := [.int ((I1 16 0) + x1), .int ((I1 16 0) + x2), .long (((L 28 (Int32.toNatClampNeg x1)) + (L 28 (Int32.toNatClampNeg x2))) - r4)]) (st := []) dX7_chooseTwo_111 ml_X7_154 mm_X7_keepTwo rfl rfl rfl rfl rfl rfl ⟨rfl, rfl⟩ h (fun v h2 hq => ?_)
      clear h
      obtain ⟨I5, L6, c7, rfl, rfl, h⟩ := hq
      show Z_Sr_chooseTwo g Q 114 [(0, .ref 23), (1, .int x1), (2, .int x2), (3, .long ((L 28 (Int32.toNatClampNeg x1)) + (L 28 (Int32.toNatClampNeg x2)))), (5, .long (((L 28 (Int32.toNatClampNeg x1)) + (L 28 (Int32.toNatClampNeg x2))) - r4))] [] I5 L6 c7
      refine gx_iinc (v := (x2 + 1)) (lv' := [(0, .ref 23), (1, .int x1), (2, .int (x2 + 1)), (3, .long ((L 28 (Int32.toNatClampNeg x1)) + (L 28 (Int32.toNatClampNeg x2)))), (5, .long (((L 28 (Int32.toNatClampNeg x1)) + (L 28 (Int32.toNatClampNeg x2))) - r4))]) 2 dX7_chooseTwo_114 rfl rfl rfl rfl ?_
      refine gx_goto 21 dX7_chooseTwo_117 (by decide) ?_
      refine gx_sub [0, 1, 2] (lv' := [(0, .ref 23), (1, .int x1), (2, .int (x2 + 1))]) rfl ?_
      exact h
abbrev Z_Wr_choose_29_1_2 (g : gm_G) (Q : mI → mL → gm_cfg → Prop) (pc : Nat) (lv : List (Nat × Value)) (st : List Value) (I : mI) (L : mL) (c : gm_cfg) : Prop := gm_X g RX9 "choose" cX9_choose 9 none 4 0 0 (qV Q) 0 0 pc lv st (SH, I, L, RR c)
abbrev C_Wr_choose_29_1_2 (g : gm_G) (I : mI) (L : mL) (c : gm_cfg) (Q : mI → mL → gm_cfg → Prop) : Prop := gm_Met g yX9_choose cX9_choose 9 none 4 0 0 [.ref 29, .int 1, .int 2] (SH, I, L, RR c) (qV Q)
set_option maxRecDepth 100000 in
theorem e_Wr_choose_29_1_2 {g : gm_G} {Q : mI → mL → gm_cfg → Prop} {I : mI} {L : mL} {c : gm_cfg} (h : Z_Wr_choose_29_1_2 g Q 22 [(0, .ref 29), (1, .int 1), (2, .int 2), (3, .long (-1)), (5, .int 0)] [] I L c) : C_Wr_choose_29_1_2 g  I L c Q := by
  refine gm_enter (lv := [(0, .ref 29), (1, .int 1), (2, .int 2)]) (by decide) rfl rfl rfl rfl ?_
  show Z_Wr_choose_29_1_2 g Q 0 [(0, .ref 29), (1, .int 1), (2, .int 2)] [] I L c
  refine gx_iload_n 1 dX9_choose_0 rfl rfl ?_
  refine gx_if_lt 14 dX9_choose_1 (by decide) (br_f (by decide) ?_)
  refine gx_iload_n 1 dX9_choose_4 rfl rfl ?_
  refine gx_iload_n 2 dX9_choose_5 rfl rfl ?_
  refine gx_icmp_ge 14 dX9_choose_6 (by decide) (br_f (by decide) ?_)
  refine gx_iload_n 2 dX9_choose_9 rfl rfl ?_
  refine gx_iconst (v := 3) dX9_choose_10 (by decide) ?_
  refine gx_icmp_le 15 dX9_choose_11 (by decide) (br_t (by decide) ?_)
  refine gx_ldc2 dX9_choose_15 kl_X9_28 ?_
  refine gx_lstore_n (lv' := [(0, .ref 29), (1, .int 1), (2, .int 2), (3, .long (-1))]) dX9_choose_18 rfl rfl rfl ?_
  refine gx_iconst (v := 0) dX9_choose_19 (by decide) ?_
  refine gx_istore (lv' := [(0, .ref 29), (1, .int 1), (2, .int 2), (3, .long (-1)), (5, .int 0)]) dX9_choose_20 rfl rfl ?_
  exact h
set_option maxRecDepth 100000 in
theorem r_Wr_choose_29_1_2_22 {g : gm_G} {Q : mI → mL → gm_cfg → Prop} {x5 : Int32} {x3 : Int64} {I : mI} {L : mL} {c : gm_cfg} (h : (((I 23 7) ≤ x5 → Q (va_up I 30 (va_cpy (I 33) (I 30) (Int32.toNatClampNeg 1) (Int32.toNatClampNeg 1) (Int32.toNatClampNeg 1))) L c) ∧ (¬ (I 23 7) ≤ x5 → (C_Sr_low g I L c (fun r4 I1 L2 c3 => (C_Sr_wholeOf g (r4 + x5) I1 L2 c3 (fun r8 I5 L6 c7 => (((r8 : Int64) ≤ x3 → Z_Wr_choose_29_1_2 g Q 22 [(0, .ref 29), (1, .int 1), (2, .int 2), (3, .long x3), (5, .int (x5 + 1))] [] I5 L6 c7) ∧ (¬ (r8 : Int64) ≤ x3 → (C_Wr_shareOf g 1 2 (gm_u I5 30 1 (r4 + x5)) L6 c7 (fun r12 I9 L10 c11 => (((r12 : Int64) ≤ x3 → Z_Wr_choose_29_1_2 g Q 22 [(0, .ref 29), (1, .int 1), (2, .int 2), (3, .long x3), (5, .int (x5 + 1))] [] I9 L10 c11) ∧ (¬ (r12 : Int64) ≤ x3 → Z_Wr_choose_29_1_2 g Q 22 [(0, .ref 29), (1, .int 1), (2, .int 2), (3, .long r12), (5, .int (x5 + 1))] [] (va_up I9 33 (va_cpy (I9 30) (I9 33) (Int32.toNatClampNeg 1) (Int32.toNatClampNeg 1) (Int32.toNatClampNeg 1))) L10 c11))))))))))))) : Z_Wr_choose_29_1_2 g Q 22 [(0, .ref 29), (1, .int 1), (2, .int 2), (3, .long x3), (5, .int x5)] [] I L c := by
  refine gx_iload 4 dX9_choose_22 rfl ?_
  refine gx_aload_n 0 dX9_choose_24 rfl rfl ?_
  refine gx_getr 9 2 (v := 23) dX9_choose_25 fl_X9_20 rfl rfl rfl ?_
  refine gx_geti 7 7 (v := (I 23 7)) dX9_choose_28 fl_X9_30 rfl rfl rfl ?_
  refine gx_icmp_ge 125 dX9_choose_31 (by decide) ⟨fun z => ?_, fun z => ?_⟩
  · replace h := h.1 z
    refine gx_aload_n 0 dX9_choose_125 rfl rfl ?_
    refine gx_getr 9 1 (v := 31) dX9_choose_126 fl_X9_17 rfl rfl rfl ?_
    refine gx_iload_n 1 dX9_choose_129 rfl rfl ?_
    refine gx_aald (v := 33) dX9_choose_130 rfl rfl rfl rfl (gm_vin rfl) (k := 1) rfl rfl ?_
    refine gx_iload_n 1 dX9_choose_131 rfl rfl ?_
    refine gx_aload_n 0 dX9_choose_132 rfl rfl ?_
    refine gx_getr 9 0 (v := 30) dX9_choose_133 fl_X9_9 rfl rfl rfl ?_
    refine gx_iload_n 1 dX9_choose_136 rfl rfl ?_
    refine gx_iload_n 2 dX9_choose_137 rfl rfl ?_
    refine gx_iload_n 1 dX9_choose_138 rfl rfl ?_
    refine gx_isub dX9_choose_139 ?_
    show Z_Wr_choose_29_1_2 g Q 140 [(0, .ref 29), (1, .int 1), (2, .int 2), (3, .long x3), (5, .int x5)] [.int 1, .int 1, .ref 30, .int 1, .ref 33] I L c
    refine gx_copy dX9_choose_140 ml_X9_48 mw_copy rfl rfl rfl rfl rfl rfl (by decide) (by decide) (by decide) (by decide) (by decide) ?_
    show Z_Wr_choose_29_1_2 g Q 143 [(0, .ref 29), (1, .int 1), (2, .int 2), (3, .long x3), (5, .int x5)] [] (va_up I 30 (va_cpy (I 33) (I 30) (Int32.toNatClampNeg 1) (Int32.toNatClampNeg 1) (Int32.toNatClampNeg 1))) L c
    exact gx_vret dX9_choose_143 rfl rfl rfl ⟨_, _, _, rfl, rfl, h⟩
  · replace h := h.2 z
    refine gx_aload_n 0 dX9_choose_34 rfl rfl ?_
    refine gx_getr 9 2 (v := 23) dX9_choose_35 fl_X9_20 rfl rfl rfl ?_
    refine gx_callV 7 (As := []) (st := []) dX9_choose_38 ml_X9_36 mm_X7_low rfl rfl rfl rfl rfl rfl ⟨rfl, rfl⟩ h (fun v h2 hq => ?_)
    clear h
    obtain ⟨r4, I1, L2, c3, rfl, rfl, h⟩ := hq
    show Z_Wr_choose_29_1_2 g Q 41 [(0, .ref 29), (1, .int 1), (2, .int 2), (3, .long x3), (5, .int x5)] [.int r4] I1 L2 c3
    refine gx_iload 4 dX9_choose_41 rfl ?_
    refine gx_iadd dX9_choose_43 ?_
    refine gx_istore (lv' := [(0, .ref 29), (1, .int 1), (2, .int 2), (3, .long x3), (5, .int x5), (6, .int (r4 + x5))]) dX9_choose_44 rfl rfl ?_
    refine gx_aload_n 0 dX9_choose_46 rfl rfl ?_
    refine gx_getr 9 2 (v := 23) dX9_choose_47 fl_X9_20 rfl rfl rfl ?_
    refine gx_iload 5 dX9_choose_50 rfl ?_
    refine gx_callV 7 (As := [.int (r4 + x5)]) (st := []) dX9_choose_52 ml_X9_40 mm_X7_wholeOf rfl rfl rfl rfl rfl rfl ⟨rfl, rfl⟩ h (fun v h2 hq => ?_)
    clear h
    obtain ⟨r8, I5, L6, c7, rfl, rfl, h⟩ := hq
    show Z_Wr_choose_29_1_2 g Q 55 [(0, .ref 29), (1, .int 1), (2, .int 2), (3, .long x3), (5, .int x5), (6, .int (r4 + x5))] [.long r8] I5 L6 c7
    refine gx_lload_n 3 dX9_choose_55 rfl rfl ?_
    refine gx_lcmp_le 119 dX9_choose_56 dX9_choose_57 (by decide) ⟨fun z => ?_, fun z => ?_⟩
    · replace h := h.1 z
      refine gx_iinc (v := (x5 + 1)) (lv' := [(0, .ref 29), (1, .int 1), (2, .int 2), (3, .long x3), (5, .int (x5 + 1)), (6, .int (r4 + x5))]) 4 dX9_choose_119 rfl rfl rfl rfl ?_
      refine gx_goto 22 dX9_choose_122 (by decide) ?_
      refine gx_sub [0, 1, 2, 3, 4] (lv' := [(0, .ref 29), (1, .int 1), (2, .int 2), (3, .long x3), (5, .int (x5 + 1))]) rfl ?_
      exact h
    · replace h := h.2 z
      refine gx_aload_n 0 dX9_choose_60 rfl rfl ?_
      refine gx_getr 9 0 (v := 30) dX9_choose_61 fl_X9_9 rfl rfl rfl ?_
      refine gx_iload_n 1 dX9_choose_64 rfl rfl ?_
      refine gx_iload 5 dX9_choose_65 rfl ?_
      refine gx_iast dX9_choose_67 rfl rfl (gm_vin rfl) (k := 1) rfl ?_
      show Z_Wr_choose_29_1_2 g Q 68 [(0, .ref 29), (1, .int 1), (2, .int 2), (3, .long x3), (5, .int x5), (6, .int (r4 + x5))] [] (gm_u I5 30 1 (r4 + x5)) L6 c7
      refine gx_iload_n 1 dX9_choose_68 rfl rfl ?_
      refine gx_iconst (v := 1) dX9_choose_69 (by decide) ?_
      refine gx_iadd dX9_choose_70 ?_
      show Z_Wr_choose_29_1_2 g Q 71 [(0, .ref 29), (1, .int 1), (2, .int 2), (3, .long x3), (5, .int x5), (6, .int (r4 + x5))] [.int 2] (gm_u I5 30 1 (r4 + x5)) L6 c7
      refine gx_iload_n 2 dX9_choose_71 rfl rfl ?_
      refine gx_icmp_ge 83 dX9_choose_72 (by decide) (br_t (by decide) ?_)
      refine gx_aload_n 0 dX9_choose_83 rfl rfl ?_
      refine gx_iload_n 1 dX9_choose_84 rfl rfl ?_
      refine gx_iload_n 2 dX9_choose_85 rfl rfl ?_
      refine gx_callV 9 (As := [.int 1, .int 2]) (st := []) dX9_choose_86 ml_X9_44 mm_X9_shareOf rfl rfl rfl rfl rfl rfl ⟨rfl, rfl⟩ h (fun v h2 hq => ?_)
      clear h
      obtain ⟨r12, I9, L10, c11, rfl, rfl, h⟩ := hq
      show Z_Wr_choose_29_1_2 g Q 89 [(0, .ref 29), (1, .int 1), (2, .int 2), (3, .long x3), (5, .int x5), (6, .int (r4 + x5))] [.long r12] I9 L10 c11
      refine gx_lstore (lv' := [(0, .ref 29), (1, .int 1), (2, .int 2), (3, .long x3), (5, .int x5), (6, .int (r4 + x5)), (7, .long r12)]) dX9_choose_89 rfl rfl ?_
      refine gx_lload 6 dX9_choose_91 rfl ?_
      refine gx_lload_n 3 dX9_choose_93 rfl rfl ?_
      refine gx_lcmp_le 119 dX9_choose_94 dX9_choose_95 (by decide) ⟨fun z => ?_, fun z => ?_⟩
      · replace h := h.1 z
        refine gx_iinc (v := (x5 + 1)) (lv' := [(0, .ref 29), (1, .int 1), (2, .int 2), (3, .long x3), (5, .int (x5 + 1)), (6, .int (r4 + x5)), (7, .long r12)]) 4 dX9_choose_119 rfl rfl rfl rfl ?_
        refine gx_goto 22 dX9_choose_122 (by decide) ?_
        refine gx_sub [0, 1, 2, 3, 4] (lv' := [(0, .ref 29), (1, .int 1), (2, .int 2), (3, .long x3), (5, .int (x5 + 1))]) rfl ?_
        exact h
      · replace h := h.2 z
        refine gx_lload 6 dX9_choose_98 rfl ?_
        refine gx_lstore_n (lv' := [(0, .ref 29), (1, .int 1), (2, .int 2), (3, .long r12), (5, .int x5), (6, .int (r4 + x5)), (7, .long r12)]) dX9_choose_100 rfl rfl rfl ?_
        refine gx_aload_n 0 dX9_choose_101 rfl rfl ?_
        refine gx_getr 9 0 (v := 30) dX9_choose_102 fl_X9_9 rfl rfl rfl ?_
        refine gx_iload_n 1 dX9_choose_105 rfl rfl ?_
        refine gx_aload_n 0 dX9_choose_106 rfl rfl ?_
        refine gx_getr 9 1 (v := 31) dX9_choose_107 fl_X9_17 rfl rfl rfl ?_
        refine gx_iload_n 1 dX9_choose_110 rfl rfl ?_
        refine gx_aald (v := 33) dX9_choose_111 rfl rfl rfl rfl (gm_vin rfl) (k := 1) rfl rfl ?_
        refine gx_iload_n 1 dX9_choose_112 rfl rfl ?_
        refine gx_iload_n 2 dX9_choose_113 rfl rfl ?_
        refine gx_iload_n 1 dX9_choose_114 rfl rfl ?_
        refine gx_isub dX9_choose_115 ?_
        show Z_Wr_choose_29_1_2 g Q 116 [(0, .ref 29), (1, .int 1), (2, .int 2), (3, .long r12), (5, .int x5), (6, .int (r4 + x5)), (7, .long r12)] [.int 1, .int 1, .ref 33, .int 1, .ref 30] I9 L10 c11
        refine gx_copy dX9_choose_116 ml_X9_48 mw_copy rfl rfl rfl rfl rfl rfl (by decide) (by decide) (by decide) (by decide) (by decide) ?_
        show Z_Wr_choose_29_1_2 g Q 119 [(0, .ref 29), (1, .int 1), (2, .int 2), (3, .long r12), (5, .int x5), (6, .int (r4 + x5)), (7, .long r12)] [] (va_up I9 33 (va_cpy (I9 30) (I9 33) (Int32.toNatClampNeg 1) (Int32.toNatClampNeg 1) (Int32.toNatClampNeg 1))) L10 c11
        refine gx_iinc (v := (x5 + 1)) (lv' := [(0, .ref 29), (1, .int 1), (2, .int 2), (3, .long r12), (5, .int (x5 + 1)), (6, .int (r4 + x5)), (7, .long r12)]) 4 dX9_choose_119 rfl rfl rfl rfl ?_
        refine gx_goto 22 dX9_choose_122 (by decide) ?_
        refine gx_sub [0, 1, 2, 3, 4] (lv' := [(0, .ref 29), (1, .int 1), (2, .int 2), (3, .long r12), (5, .int (x5 + 1))]) rfl ?_
        exact h
abbrev Z_Wr_choose_29_0_2 (g : gm_G) (Q : mI → mL → gm_cfg → Prop) (pc : Nat) (lv : List (Nat × Value)) (st : List Value) (I : mI) (L : mL) (c : gm_cfg) : Prop := gm_X g RX9 "choose" cX9_choose 9 none 5 0 0 (qV Q) 0 0 pc lv st (SH, I, L, RR c)
abbrev C_Wr_choose_29_0_2 (g : gm_G) (I : mI) (L : mL) (c : gm_cfg) (Q : mI → mL → gm_cfg → Prop) : Prop := gm_Met g yX9_choose cX9_choose 9 none 5 0 0 [.ref 29, .int 0, .int 2] (SH, I, L, RR c) (qV Q)
set_option maxRecDepth 100000 in
theorem e_Wr_choose_29_0_2 {g : gm_G} {Q : mI → mL → gm_cfg → Prop} {I : mI} {L : mL} {c : gm_cfg} (h : Z_Wr_choose_29_0_2 g Q 22 [(0, .ref 29), (1, .int 0), (2, .int 2), (3, .long (-1)), (5, .int 0)] [] I L c) : C_Wr_choose_29_0_2 g  I L c Q := by
  refine gm_enter (lv := [(0, .ref 29), (1, .int 0), (2, .int 2)]) (by decide) rfl rfl rfl rfl ?_
  show Z_Wr_choose_29_0_2 g Q 0 [(0, .ref 29), (1, .int 0), (2, .int 2)] [] I L c
  refine gx_iload_n 1 dX9_choose_0 rfl rfl ?_
  refine gx_if_lt 14 dX9_choose_1 (by decide) (br_f (by decide) ?_)
  refine gx_iload_n 1 dX9_choose_4 rfl rfl ?_
  refine gx_iload_n 2 dX9_choose_5 rfl rfl ?_
  refine gx_icmp_ge 14 dX9_choose_6 (by decide) (br_f (by decide) ?_)
  refine gx_iload_n 2 dX9_choose_9 rfl rfl ?_
  refine gx_iconst (v := 3) dX9_choose_10 (by decide) ?_
  refine gx_icmp_le 15 dX9_choose_11 (by decide) (br_t (by decide) ?_)
  refine gx_ldc2 dX9_choose_15 kl_X9_28 ?_
  refine gx_lstore_n (lv' := [(0, .ref 29), (1, .int 0), (2, .int 2), (3, .long (-1))]) dX9_choose_18 rfl rfl rfl ?_
  refine gx_iconst (v := 0) dX9_choose_19 (by decide) ?_
  refine gx_istore (lv' := [(0, .ref 29), (1, .int 0), (2, .int 2), (3, .long (-1)), (5, .int 0)]) dX9_choose_20 rfl rfl ?_
  exact h
set_option maxRecDepth 100000 in
theorem r_Wr_choose_29_0_2_22 {g : gm_G} {Q : mI → mL → gm_cfg → Prop} {x5 : Int32} {x3 : Int64} {I : mI} {L : mL} {c : gm_cfg} (h : (((I 23 7) ≤ x5 → Q (va_up I 30 (va_cpy (I 32) (I 30) (Int32.toNatClampNeg 0) (Int32.toNatClampNeg 0) (Int32.toNatClampNeg 2))) L c) ∧ (¬ (I 23 7) ≤ x5 → (C_Sr_low g I L c (fun r4 I1 L2 c3 => (C_Sr_wholeOf g (r4 + x5) I1 L2 c3 (fun r8 I5 L6 c7 => (((r8 : Int64) ≤ x3 → Z_Wr_choose_29_0_2 g Q 22 [(0, .ref 29), (1, .int 0), (2, .int 2), (3, .long x3), (5, .int (x5 + 1))] [] I5 L6 c7) ∧ (¬ (r8 : Int64) ≤ x3 → (C_Wr_choose_29_1_2 g (gm_u I5 30 0 (r4 + x5)) L6 c7 (fun I9 L10 c11 => (C_Wr_shareOf g 0 2 I9 L10 c11 (fun r15 I12 L13 c14 => (((r15 : Int64) ≤ x3 → Z_Wr_choose_29_0_2 g Q 22 [(0, .ref 29), (1, .int 0), (2, .int 2), (3, .long x3), (5, .int (x5 + 1))] [] I12 L13 c14) ∧ (¬ (r15 : Int64) ≤ x3 → Z_Wr_choose_29_0_2 g Q 22 [(0, .ref 29), (1, .int 0), (2, .int 2), (3, .long r15), (5, .int (x5 + 1))] [] (va_up I12 32 (va_cpy (I12 30) (I12 32) (Int32.toNatClampNeg 0) (Int32.toNatClampNeg 0) (Int32.toNatClampNeg 2))) L13 c14))))))))))))))) : Z_Wr_choose_29_0_2 g Q 22 [(0, .ref 29), (1, .int 0), (2, .int 2), (3, .long x3), (5, .int x5)] [] I L c := by
  refine gx_iload 4 dX9_choose_22 rfl ?_
  refine gx_aload_n 0 dX9_choose_24 rfl rfl ?_
  refine gx_getr 9 2 (v := 23) dX9_choose_25 fl_X9_20 rfl rfl rfl ?_
  refine gx_geti 7 7 (v := (I 23 7)) dX9_choose_28 fl_X9_30 rfl rfl rfl ?_
  refine gx_icmp_ge 125 dX9_choose_31 (by decide) ⟨fun z => ?_, fun z => ?_⟩
  · replace h := h.1 z
    refine gx_aload_n 0 dX9_choose_125 rfl rfl ?_
    refine gx_getr 9 1 (v := 31) dX9_choose_126 fl_X9_17 rfl rfl rfl ?_
    refine gx_iload_n 1 dX9_choose_129 rfl rfl ?_
    refine gx_aald (v := 32) dX9_choose_130 rfl rfl rfl rfl (gm_vin rfl) (k := 0) rfl rfl ?_
    refine gx_iload_n 1 dX9_choose_131 rfl rfl ?_
    refine gx_aload_n 0 dX9_choose_132 rfl rfl ?_
    refine gx_getr 9 0 (v := 30) dX9_choose_133 fl_X9_9 rfl rfl rfl ?_
    refine gx_iload_n 1 dX9_choose_136 rfl rfl ?_
    refine gx_iload_n 2 dX9_choose_137 rfl rfl ?_
    refine gx_iload_n 1 dX9_choose_138 rfl rfl ?_
    refine gx_isub dX9_choose_139 ?_
    show Z_Wr_choose_29_0_2 g Q 140 [(0, .ref 29), (1, .int 0), (2, .int 2), (3, .long x3), (5, .int x5)] [.int 2, .int 0, .ref 30, .int 0, .ref 32] I L c
    refine gx_copy dX9_choose_140 ml_X9_48 mw_copy rfl rfl rfl rfl rfl rfl (by decide) (by decide) (by decide) (by decide) (by decide) ?_
    show Z_Wr_choose_29_0_2 g Q 143 [(0, .ref 29), (1, .int 0), (2, .int 2), (3, .long x3), (5, .int x5)] [] (va_up I 30 (va_cpy (I 32) (I 30) (Int32.toNatClampNeg 0) (Int32.toNatClampNeg 0) (Int32.toNatClampNeg 2))) L c
    exact gx_vret dX9_choose_143 rfl rfl rfl ⟨_, _, _, rfl, rfl, h⟩
  · replace h := h.2 z
    refine gx_aload_n 0 dX9_choose_34 rfl rfl ?_
    refine gx_getr 9 2 (v := 23) dX9_choose_35 fl_X9_20 rfl rfl rfl ?_
    refine gx_callV 7 (As := []) (st := []) dX9_choose_38 ml_X9_36 mm_X7_low rfl rfl rfl rfl rfl rfl ⟨rfl, rfl⟩ h (fun v h2 hq => ?_)
    clear h
    obtain ⟨r4, I1, L2, c3, rfl, rfl, h⟩ := hq
    show Z_Wr_choose_29_0_2 g Q 41 [(0, .ref 29), (1, .int 0), (2, .int 2), (3, .long x3), (5, .int x5)] [.int r4] I1 L2 c3
    refine gx_iload 4 dX9_choose_41 rfl ?_
    refine gx_iadd dX9_choose_43 ?_
    refine gx_istore (lv' := [(0, .ref 29), (1, .int 0), (2, .int 2), (3, .long x3), (5, .int x5), (6, .int (r4 + x5))]) dX9_choose_44 rfl rfl ?_
    refine gx_aload_n 0 dX9_choose_46 rfl rfl ?_
    refine gx_getr 9 2 (v := 23) dX9_choose_47 fl_X9_20 rfl rfl rfl ?_
    refine gx_iload 5 dX9_choose_50 rfl ?_
    refine gx_callV 7 (As := [.int (r4 + x5)]) (st := []) dX9_choose_52 ml_X9_40 mm_X7_wholeOf rfl rfl rfl rfl rfl rfl ⟨rfl, rfl⟩ h (fun v h2 hq => ?_)
    clear h
    obtain ⟨r8, I5, L6, c7, rfl, rfl, h⟩ := hq
    show Z_Wr_choose_29_0_2 g Q 55 [(0, .ref 29), (1, .int 0), (2, .int 2), (3, .long x3), (5, .int x5), (6, .int (r4 + x5))] [.long r8] I5 L6 c7
    refine gx_lload_n 3 dX9_choose_55 rfl rfl ?_
    refine gx_lcmp_le 119 dX9_choose_56 dX9_choose_57 (by decide) ⟨fun z => ?_, fun z => ?_⟩
    · replace h := h.1 z
      refine gx_iinc (v := (x5 + 1)) (lv' := [(0, .ref 29), (1, .int 0), (2, .int 2), (3, .long x3), (5, .int (x5 + 1)), (6, .int (r4 + x5))]) 4 dX9_choose_119 rfl rfl rfl rfl ?_
      refine gx_goto 22 dX9_choose_122 (by decide) ?_
      refine gx_sub [0, 1, 2, 3, 4] (lv' := [(0, .ref 29), (1, .int 0), (2, .int 2), (3, .long x3), (5, .int (x5 + 1))]) rfl ?_
      exact h
    · replace h := h.2 z
      refine gx_aload_n 0 dX9_choose_60 rfl rfl ?_
      refine gx_getr 9 0 (v := 30) dX9_choose_61 fl_X9_9 rfl rfl rfl ?_
      refine gx_iload_n 1 dX9_choose_64 rfl rfl ?_
      refine gx_iload 5 dX9_choose_65 rfl ?_
      refine gx_iast dX9_choose_67 rfl rfl (gm_vin rfl) (k := 0) rfl ?_
      show Z_Wr_choose_29_0_2 g Q 68 [(0, .ref 29), (1, .int 0), (2, .int 2), (3, .long x3), (5, .int x5), (6, .int (r4 + x5))] [] (gm_u I5 30 0 (r4 + x5)) L6 c7
      refine gx_iload_n 1 dX9_choose_68 rfl rfl ?_
      refine gx_iconst (v := 1) dX9_choose_69 (by decide) ?_
      refine gx_iadd dX9_choose_70 ?_
      show Z_Wr_choose_29_0_2 g Q 71 [(0, .ref 29), (1, .int 0), (2, .int 2), (3, .long x3), (5, .int x5), (6, .int (r4 + x5))] [.int 1] (gm_u I5 30 0 (r4 + x5)) L6 c7
      refine gx_iload_n 2 dX9_choose_71 rfl rfl ?_
      refine gx_icmp_ge 83 dX9_choose_72 (by decide) (br_f (by decide) ?_)
      refine gx_aload_n 0 dX9_choose_75 rfl rfl ?_
      refine gx_iload_n 1 dX9_choose_76 rfl rfl ?_
      refine gx_iconst (v := 1) dX9_choose_77 (by decide) ?_
      refine gx_iadd dX9_choose_78 ?_
      show Z_Wr_choose_29_0_2 g Q 79 [(0, .ref 29), (1, .int 0), (2, .int 2), (3, .long x3), (5, .int x5), (6, .int (r4 + x5))] [.int 1, .ref 29] (gm_u I5 30 0 (r4 + x5)) L6 c7
      refine gx_iload_n 2 dX9_choose_79 rfl rfl ?_
      refine gx_callS (As := [.ref 29, .int 1, .int 2]) (st := []) dX9_choose_80 ml_X9_24 mm_X9_choose rfl rfl rfl rfl ⟨rfl, rfl⟩ h (fun v h2 hq => ?_)
      clear h
      obtain ⟨I9, L10, c11, rfl, rfl, h⟩ := hq
      show Z_Wr_choose_29_0_2 g Q 83 [(0, .ref 29), (1, .int 0), (2, .int 2), (3, .long x3), (5, .int x5), (6, .int (r4 + x5))] [] I9 L10 c11
      refine gx_aload_n 0 dX9_choose_83 rfl rfl ?_
      refine gx_iload_n 1 dX9_choose_84 rfl rfl ?_
      refine gx_iload_n 2 dX9_choose_85 rfl rfl ?_
      refine gx_callV 9 (As := [.int 0, .int 2]) (st := []) dX9_choose_86 ml_X9_44 mm_X9_shareOf rfl rfl rfl rfl rfl rfl ⟨rfl, rfl⟩ h (fun v h2 hq => ?_)
      clear h
      obtain ⟨r15, I12, L13, c14, rfl, rfl, h⟩ := hq
      show Z_Wr_choose_29_0_2 g Q 89 [(0, .ref 29), (1, .int 0), (2, .int 2), (3, .long x3), (5, .int x5), (6, .int (r4 + x5))] [.long r15] I12 L13 c14
      refine gx_lstore (lv' := [(0, .ref 29), (1, .int 0), (2, .int 2), (3, .long x3), (5, .int x5), (6, .int (r4 + x5)), (7, .long r15)]) dX9_choose_89 rfl rfl ?_
      refine gx_lload 6 dX9_choose_91 rfl ?_
      refine gx_lload_n 3 dX9_choose_93 rfl rfl ?_
      refine gx_lcmp_le 119 dX9_choose_94 dX9_choose_95 (by decide) ⟨fun z => ?_, fun z => ?_⟩
      · replace h := h.1 z
        refine gx_iinc (v := (x5 + 1)) (lv' := [(0, .ref 29), (1, .int 0), (2, .int 2), (3, .long x3), (5, .int (x5 + 1)), (6, .int (r4 + x5)), (7, .long r15)]) 4 dX9_choose_119 rfl rfl rfl rfl ?_
        refine gx_goto 22 dX9_choose_122 (by decide) ?_
        refine gx_sub [0, 1, 2, 3, 4] (lv' := [(0, .ref 29), (1, .int 0), (2, .int 2), (3, .long x3), (5, .int (x5 + 1))]) rfl ?_
        exact h
      · replace h := h.2 z
        refine gx_lload 6 dX9_choose_98 rfl ?_
        refine gx_lstore_n (lv' := [(0, .ref 29), (1, .int 0), (2, .int 2), (3, .long r15), (5, .int x5), (6, .int (r4 + x5)), (7, .long r15)]) dX9_choose_100 rfl rfl rfl ?_
        refine gx_aload_n 0 dX9_choose_101 rfl rfl ?_
        refine gx_getr 9 0 (v := 30) dX9_choose_102 fl_X9_9 rfl rfl rfl ?_
        refine gx_iload_n 1 dX9_choose_105 rfl rfl ?_
        refine gx_aload_n 0 dX9_choose_106 rfl rfl ?_
        refine gx_getr 9 1 (v := 31) dX9_choose_107 fl_X9_17 rfl rfl rfl ?_
        refine gx_iload_n 1 dX9_choose_110 rfl rfl ?_
        refine gx_aald (v := 32) dX9_choose_111 rfl rfl rfl rfl (gm_vin rfl) (k := 0) rfl rfl ?_
        refine gx_iload_n 1 dX9_choose_112 rfl rfl ?_
        refine gx_iload_n 2 dX9_choose_113 rfl rfl ?_
        refine gx_iload_n 1 dX9_choose_114 rfl rfl ?_
        refine gx_isub dX9_choose_115 ?_
        show Z_Wr_choose_29_0_2 g Q 116 [(0, .ref 29), (1, .int 0), (2, .int 2), (3, .long r15), (5, .int x5), (6, .int (r4 + x5)), (7, .long r15)] [.int 2, .int 0, .ref 32, .int 0, .ref 30] I12 L13 c14
        refine gx_copy dX9_choose_116 ml_X9_48 mw_copy rfl rfl rfl rfl rfl rfl (by decide) (by decide) (by decide) (by decide) (by decide) ?_
        show Z_Wr_choose_29_0_2 g Q 119 [(0, .ref 29), (1, .int 0), (2, .int 2), (3, .long r15), (5, .int x5), (6, .int (r4 + x5)), (7, .long r15)] [] (va_up I12 32 (va_cpy (I12 30) (I12 32) (Int32.toNatClampNeg 0) (Int32.toNatClampNeg 0) (Int32.toNatClampNeg 2))) L13 c14
        refine gx_iinc (v := (x5 + 1)) (lv' := [(0, .ref 29), (1, .int 0), (2, .int 2), (3, .long r15), (5, .int (x5 + 1)), (6, .int (r4 + x5)), (7, .long r15)]) 4 dX9_choose_119 rfl rfl rfl rfl ?_
        refine gx_goto 22 dX9_choose_122 (by decide) ?_
        refine gx_sub [0, 1, 2, 3, 4] (lv' := [(0, .ref 29), (1, .int 0), (2, .int 2), (3, .long r15), (5, .int (x5 + 1))]) rfl ?_
        exact h
abbrev Z_Wr_play_0_2 (g : gm_G) (Q : mI → mL → gm_cfg → Prop) (pc : Nat) (lv : List (Nat × Value)) (st : List Value) (I : mI) (L : mL) (c : gm_cfg) : Prop := gm_X g RX9 "play" cX9_play 3 none 6 0 0 (qV Q) 0 0 pc lv st (SH, I, L, RR c)
abbrev C_Wr_play_0_2 (g : gm_G) (I : mI) (L : mL) (c : gm_cfg) (Q : mI → mL → gm_cfg → Prop) : Prop := gm_Met g yX9_play cX9_play 3 none 6 0 0 [.ref 29, .int 0, .int 2] (SH, I, L, RR c) (qV Q)
set_option maxRecDepth 100000 in
theorem e_Wr_play_0_2 {g : gm_G} {Q : mI → mL → gm_cfg → Prop} {I : mI} {L : mL} {c : gm_cfg} (h : (C_Wr_choose_29_0_2 g I L c (fun I1 L2 c3 => Q I1 L2 c3))) : C_Wr_play_0_2 g  I L c Q := by
  refine gm_enter (lv := [(0, .ref 29), (1, .int 0), (2, .int 2)]) (by decide) rfl rfl rfl rfl ?_
  show Z_Wr_play_0_2 g Q 0 [(0, .ref 29), (1, .int 0), (2, .int 2)] [] I L c
  refine gx_aload_n 0 dX9_play_0 rfl rfl ?_
  refine gx_iload_n 1 dX9_play_1 rfl rfl ?_
  refine gx_iload_n 2 dX9_play_2 rfl rfl ?_
  refine gx_callS (As := [.ref 29, .int 0, .int 2]) (st := []) dX9_play_3 ml_X9_24 mm_X9_choose rfl rfl rfl rfl ⟨rfl, rfl⟩ h (fun v h2 hq => ?_)
  clear h
  obtain ⟨I1, L2, c3, rfl, rfl, h⟩ := hq
  show Z_Wr_play_0_2 g Q 6 [(0, .ref 29), (1, .int 0), (2, .int 2)] [] I1 L2 c3
  exact gx_vret dX9_play_6 rfl rfl rfl ⟨_, _, _, rfl, rfl, h⟩
abbrev Z_Wr_play_1_2 (g : gm_G) (Q : mI → mL → gm_cfg → Prop) (pc : Nat) (lv : List (Nat × Value)) (st : List Value) (I : mI) (L : mL) (c : gm_cfg) : Prop := gm_X g RX9 "play" cX9_play 3 none 5 0 0 (qV Q) 0 0 pc lv st (SH, I, L, RR c)
abbrev C_Wr_play_1_2 (g : gm_G) (I : mI) (L : mL) (c : gm_cfg) (Q : mI → mL → gm_cfg → Prop) : Prop := gm_Met g yX9_play cX9_play 3 none 5 0 0 [.ref 29, .int 1, .int 2] (SH, I, L, RR c) (qV Q)
set_option maxRecDepth 100000 in
theorem e_Wr_play_1_2 {g : gm_G} {Q : mI → mL → gm_cfg → Prop} {I : mI} {L : mL} {c : gm_cfg} (h : (C_Wr_choose_29_1_2 g I L c (fun I1 L2 c3 => Q I1 L2 c3))) : C_Wr_play_1_2 g  I L c Q := by
  refine gm_enter (lv := [(0, .ref 29), (1, .int 1), (2, .int 2)]) (by decide) rfl rfl rfl rfl ?_
  show Z_Wr_play_1_2 g Q 0 [(0, .ref 29), (1, .int 1), (2, .int 2)] [] I L c
  refine gx_aload_n 0 dX9_play_0 rfl rfl ?_
  refine gx_iload_n 1 dX9_play_1 rfl rfl ?_
  refine gx_iload_n 2 dX9_play_2 rfl rfl ?_
  refine gx_callS (As := [.ref 29, .int 1, .int 2]) (st := []) dX9_play_3 ml_X9_24 mm_X9_choose rfl rfl rfl rfl ⟨rfl, rfl⟩ h (fun v h2 hq => ?_)
  clear h
  obtain ⟨I1, L2, c3, rfl, rfl, h⟩ := hq
  show Z_Wr_play_1_2 g Q 6 [(0, .ref 29), (1, .int 1), (2, .int 2)] [] I1 L2 c3
  exact gx_vret dX9_play_6 rfl rfl rfl ⟨_, _, _, rfl, rfl, h⟩
abbrev Z_Wr_choose_29_2_3 (g : gm_G) (Q : mI → mL → gm_cfg → Prop) (pc : Nat) (lv : List (Nat × Value)) (st : List Value) (I : mI) (L : mL) (c : gm_cfg) : Prop := gm_X g RX9 "choose" cX9_choose 9 none 4 0 0 (qV Q) 0 0 pc lv st (SH, I, L, RR c)
abbrev C_Wr_choose_29_2_3 (g : gm_G) (I : mI) (L : mL) (c : gm_cfg) (Q : mI → mL → gm_cfg → Prop) : Prop := gm_Met g yX9_choose cX9_choose 9 none 4 0 0 [.ref 29, .int 2, .int 3] (SH, I, L, RR c) (qV Q)
set_option maxRecDepth 100000 in
theorem e_Wr_choose_29_2_3 {g : gm_G} {Q : mI → mL → gm_cfg → Prop} {I : mI} {L : mL} {c : gm_cfg} (h : Z_Wr_choose_29_2_3 g Q 22 [(0, .ref 29), (1, .int 2), (2, .int 3), (3, .long (-1)), (5, .int 0)] [] I L c) : C_Wr_choose_29_2_3 g  I L c Q := by
  refine gm_enter (lv := [(0, .ref 29), (1, .int 2), (2, .int 3)]) (by decide) rfl rfl rfl rfl ?_
  show Z_Wr_choose_29_2_3 g Q 0 [(0, .ref 29), (1, .int 2), (2, .int 3)] [] I L c
  refine gx_iload_n 1 dX9_choose_0 rfl rfl ?_
  refine gx_if_lt 14 dX9_choose_1 (by decide) (br_f (by decide) ?_)
  refine gx_iload_n 1 dX9_choose_4 rfl rfl ?_
  refine gx_iload_n 2 dX9_choose_5 rfl rfl ?_
  refine gx_icmp_ge 14 dX9_choose_6 (by decide) (br_f (by decide) ?_)
  refine gx_iload_n 2 dX9_choose_9 rfl rfl ?_
  refine gx_iconst (v := 3) dX9_choose_10 (by decide) ?_
  refine gx_icmp_le 15 dX9_choose_11 (by decide) (br_t (by decide) ?_)
  refine gx_ldc2 dX9_choose_15 kl_X9_28 ?_
  refine gx_lstore_n (lv' := [(0, .ref 29), (1, .int 2), (2, .int 3), (3, .long (-1))]) dX9_choose_18 rfl rfl rfl ?_
  refine gx_iconst (v := 0) dX9_choose_19 (by decide) ?_
  refine gx_istore (lv' := [(0, .ref 29), (1, .int 2), (2, .int 3), (3, .long (-1)), (5, .int 0)]) dX9_choose_20 rfl rfl ?_
  exact h
set_option maxRecDepth 100000 in
theorem r_Wr_choose_29_2_3_22 {g : gm_G} {Q : mI → mL → gm_cfg → Prop} {x5 : Int32} {x3 : Int64} {I : mI} {L : mL} {c : gm_cfg} (h : (((I 23 7) ≤ x5 → Q (va_up I 30 (va_cpy (I 34) (I 30) (Int32.toNatClampNeg 2) (Int32.toNatClampNeg 2) (Int32.toNatClampNeg 1))) L c) ∧ (¬ (I 23 7) ≤ x5 → (C_Sr_low g I L c (fun r4 I1 L2 c3 => (C_Sr_wholeOf g (r4 + x5) I1 L2 c3 (fun r8 I5 L6 c7 => (((r8 : Int64) ≤ x3 → Z_Wr_choose_29_2_3 g Q 22 [(0, .ref 29), (1, .int 2), (2, .int 3), (3, .long x3), (5, .int (x5 + 1))] [] I5 L6 c7) ∧ (¬ (r8 : Int64) ≤ x3 → (C_Wr_shareOf g 2 3 (gm_u I5 30 2 (r4 + x5)) L6 c7 (fun r12 I9 L10 c11 => (((r12 : Int64) ≤ x3 → Z_Wr_choose_29_2_3 g Q 22 [(0, .ref 29), (1, .int 2), (2, .int 3), (3, .long x3), (5, .int (x5 + 1))] [] I9 L10 c11) ∧ (¬ (r12 : Int64) ≤ x3 → Z_Wr_choose_29_2_3 g Q 22 [(0, .ref 29), (1, .int 2), (2, .int 3), (3, .long r12), (5, .int (x5 + 1))] [] (va_up I9 34 (va_cpy (I9 30) (I9 34) (Int32.toNatClampNeg 2) (Int32.toNatClampNeg 2) (Int32.toNatClampNeg 1))) L10 c11))))))))))))) : Z_Wr_choose_29_2_3 g Q 22 [(0, .ref 29), (1, .int 2), (2, .int 3), (3, .long x3), (5, .int x5)] [] I L c := by
  refine gx_iload 4 dX9_choose_22 rfl ?_
  refine gx_aload_n 0 dX9_choose_24 rfl rfl ?_
  refine gx_getr 9 2 (v := 23) dX9_choose_25 fl_X9_20 rfl rfl rfl ?_
  refine gx_geti 7 7 (v := (I 23 7)) dX9_choose_28 fl_X9_30 rfl rfl rfl ?_
  refine gx_icmp_ge 125 dX9_choose_31 (by decide) ⟨fun z => ?_, fun z => ?_⟩
  · replace h := h.1 z
    refine gx_aload_n 0 dX9_choose_125 rfl rfl ?_
    refine gx_getr 9 1 (v := 31) dX9_choose_126 fl_X9_17 rfl rfl rfl ?_
    refine gx_iload_n 1 dX9_choose_129 rfl rfl ?_
    refine gx_aald (v := 34) dX9_choose_130 rfl rfl rfl rfl (gm_vin rfl) (k := 2) rfl rfl ?_
    refine gx_iload_n 1 dX9_choose_131 rfl rfl ?_
    refine gx_aload_n 0 dX9_choose_132 rfl rfl ?_
    refine gx_getr 9 0 (v := 30) dX9_choose_133 fl_X9_9 rfl rfl rfl ?_
    refine gx_iload_n 1 dX9_choose_136 rfl rfl ?_
    refine gx_iload_n 2 dX9_choose_137 rfl rfl ?_
    refine gx_iload_n 1 dX9_choose_138 rfl rfl ?_
    refine gx_isub dX9_choose_139 ?_
    show Z_Wr_choose_29_2_3 g Q 140 [(0, .ref 29), (1, .int 2), (2, .int 3), (3, .long x3), (5, .int x5)] [.int 1, .int 2, .ref 30, .int 2, .ref 34] I L c
    refine gx_copy dX9_choose_140 ml_X9_48 mw_copy rfl rfl rfl rfl rfl rfl (by decide) (by decide) (by decide) (by decide) (by decide) ?_
    show Z_Wr_choose_29_2_3 g Q 143 [(0, .ref 29), (1, .int 2), (2, .int 3), (3, .long x3), (5, .int x5)] [] (va_up I 30 (va_cpy (I 34) (I 30) (Int32.toNatClampNeg 2) (Int32.toNatClampNeg 2) (Int32.toNatClampNeg 1))) L c
    exact gx_vret dX9_choose_143 rfl rfl rfl ⟨_, _, _, rfl, rfl, h⟩
  · replace h := h.2 z
    refine gx_aload_n 0 dX9_choose_34 rfl rfl ?_
    refine gx_getr 9 2 (v := 23) dX9_choose_35 fl_X9_20 rfl rfl rfl ?_
    refine gx_callV 7 (As := []) (st := []) dX9_choose_38 ml_X9_36 mm_X7_low rfl rfl rfl rfl rfl rfl ⟨rfl, rfl⟩ h (fun v h2 hq => ?_)
    clear h
    obtain ⟨r4, I1, L2, c3, rfl, rfl, h⟩ := hq
    show Z_Wr_choose_29_2_3 g Q 41 [(0, .ref 29), (1, .int 2), (2, .int 3), (3, .long x3), (5, .int x5)] [.int r4] I1 L2 c3
    refine gx_iload 4 dX9_choose_41 rfl ?_
    refine gx_iadd dX9_choose_43 ?_
    refine gx_istore (lv' := [(0, .ref 29), (1, .int 2), (2, .int 3), (3, .long x3), (5, .int x5), (6, .int (r4 + x5))]) dX9_choose_44 rfl rfl ?_
    refine gx_aload_n 0 dX9_choose_46 rfl rfl ?_
    refine gx_getr 9 2 (v := 23) dX9_choose_47 fl_X9_20 rfl rfl rfl ?_
    refine gx_iload 5 dX9_choose_50 rfl ?_
    refine gx_callV 7 (As := [.int (r4 + x5)]) (st := []) dX9_choose_52 ml_X9_40 mm_X7_wholeOf rfl rfl rfl rfl rfl rfl ⟨rfl, rfl⟩ h (fun v h2 hq => ?_)
    clear h
    obtain ⟨r8, I5, L6, c7, rfl, rfl, h⟩ := hq
    show Z_Wr_choose_29_2_3 g Q 55 [(0, .ref 29), (1, .int 2), (2, .int 3), (3, .long x3), (5, .int x5), (6, .int (r4 + x5))] [.long r8] I5 L6 c7
    refine gx_lload_n 3 dX9_choose_55 rfl rfl ?_
    refine gx_lcmp_le 119 dX9_choose_56 dX9_choose_57 (by decide) ⟨fun z => ?_, fun z => ?_⟩
    · replace h := h.1 z
      refine gx_iinc (v := (x5 + 1)) (lv' := [(0, .ref 29), (1, .int 2), (2, .int 3), (3, .long x3), (5, .int (x5 + 1)), (6, .int (r4 + x5))]) 4 dX9_choose_119 rfl rfl rfl rfl ?_
      refine gx_goto 22 dX9_choose_122 (by decide) ?_
      refine gx_sub [0, 1, 2, 3, 4] (lv' := [(0, .ref 29), (1, .int 2), (2, .int 3), (3, .long x3), (5, .int (x5 + 1))]) rfl ?_
      exact h
    · replace h := h.2 z
      refine gx_aload_n 0 dX9_choose_60 rfl rfl ?_
      refine gx_getr 9 0 (v := 30) dX9_choose_61 fl_X9_9 rfl rfl rfl ?_
      refine gx_iload_n 1 dX9_choose_64 rfl rfl ?_
      refine gx_iload 5 dX9_choose_65 rfl ?_
      refine gx_iast dX9_choose_67 rfl rfl (gm_vin rfl) (k := 2) rfl ?_
      show Z_Wr_choose_29_2_3 g Q 68 [(0, .ref 29), (1, .int 2), (2, .int 3), (3, .long x3), (5, .int x5), (6, .int (r4 + x5))] [] (gm_u I5 30 2 (r4 + x5)) L6 c7
      refine gx_iload_n 1 dX9_choose_68 rfl rfl ?_
      refine gx_iconst (v := 1) dX9_choose_69 (by decide) ?_
      refine gx_iadd dX9_choose_70 ?_
      show Z_Wr_choose_29_2_3 g Q 71 [(0, .ref 29), (1, .int 2), (2, .int 3), (3, .long x3), (5, .int x5), (6, .int (r4 + x5))] [.int 3] (gm_u I5 30 2 (r4 + x5)) L6 c7
      refine gx_iload_n 2 dX9_choose_71 rfl rfl ?_
      refine gx_icmp_ge 83 dX9_choose_72 (by decide) (br_t (by decide) ?_)
      refine gx_aload_n 0 dX9_choose_83 rfl rfl ?_
      refine gx_iload_n 1 dX9_choose_84 rfl rfl ?_
      refine gx_iload_n 2 dX9_choose_85 rfl rfl ?_
      refine gx_callV 9 (As := [.int 2, .int 3]) (st := []) dX9_choose_86 ml_X9_44 mm_X9_shareOf rfl rfl rfl rfl rfl rfl ⟨rfl, rfl⟩ h (fun v h2 hq => ?_)
      clear h
      obtain ⟨r12, I9, L10, c11, rfl, rfl, h⟩ := hq
      show Z_Wr_choose_29_2_3 g Q 89 [(0, .ref 29), (1, .int 2), (2, .int 3), (3, .long x3), (5, .int x5), (6, .int (r4 + x5))] [.long r12] I9 L10 c11
      refine gx_lstore (lv' := [(0, .ref 29), (1, .int 2), (2, .int 3), (3, .long x3), (5, .int x5), (6, .int (r4 + x5)), (7, .long r12)]) dX9_choose_89 rfl rfl ?_
      refine gx_lload 6 dX9_choose_91 rfl ?_
      refine gx_lload_n 3 dX9_choose_93 rfl rfl ?_
      refine gx_lcmp_le 119 dX9_choose_94 dX9_choose_95 (by decide) ⟨fun z => ?_, fun z => ?_⟩
      · replace h := h.1 z
        refine gx_iinc (v := (x5 + 1)) (lv' := [(0, .ref 29), (1, .int 2), (2, .int 3), (3, .long x3), (5, .int (x5 + 1)), (6, .int (r4 + x5)), (7, .long r12)]) 4 dX9_choose_119 rfl rfl rfl rfl ?_
        refine gx_goto 22 dX9_choose_122 (by decide) ?_
        refine gx_sub [0, 1, 2, 3, 4] (lv' := [(0, .ref 29), (1, .int 2), (2, .int 3), (3, .long x3), (5, .int (x5 + 1))]) rfl ?_
        exact h
      · replace h := h.2 z
        refine gx_lload 6 dX9_choose_98 rfl ?_
        refine gx_lstore_n (lv' := [(0, .ref 29), (1, .int 2), (2, .int 3), (3, .long r12), (5, .int x5), (6, .int (r4 + x5)), (7, .long r12)]) dX9_choose_100 rfl rfl rfl ?_
        refine gx_aload_n 0 dX9_choose_101 rfl rfl ?_
        refine gx_getr 9 0 (v := 30) dX9_choose_102 fl_X9_9 rfl rfl rfl ?_
        refine gx_iload_n 1 dX9_choose_105 rfl rfl ?_
        refine gx_aload_n 0 dX9_choose_106 rfl rfl ?_
        refine gx_getr 9 1 (v := 31) dX9_choose_107 fl_X9_17 rfl rfl rfl ?_
        refine gx_iload_n 1 dX9_choose_110 rfl rfl ?_
        refine gx_aald (v := 34) dX9_choose_111 rfl rfl rfl rfl (gm_vin rfl) (k := 2) rfl rfl ?_
        refine gx_iload_n 1 dX9_choose_112 rfl rfl ?_
        refine gx_iload_n 2 dX9_choose_113 rfl rfl ?_
        refine gx_iload_n 1 dX9_choose_114 rfl rfl ?_
        refine gx_isub dX9_choose_115 ?_
        show Z_Wr_choose_29_2_3 g Q 116 [(0, .ref 29), (1, .int 2), (2, .int 3), (3, .long r12), (5, .int x5), (6, .int (r4 + x5)), (7, .long r12)] [.int 1, .int 2, .ref 34, .int 2, .ref 30] I9 L10 c11
        refine gx_copy dX9_choose_116 ml_X9_48 mw_copy rfl rfl rfl rfl rfl rfl (by decide) (by decide) (by decide) (by decide) (by decide) ?_
        show Z_Wr_choose_29_2_3 g Q 119 [(0, .ref 29), (1, .int 2), (2, .int 3), (3, .long r12), (5, .int x5), (6, .int (r4 + x5)), (7, .long r12)] [] (va_up I9 34 (va_cpy (I9 30) (I9 34) (Int32.toNatClampNeg 2) (Int32.toNatClampNeg 2) (Int32.toNatClampNeg 1))) L10 c11
        refine gx_iinc (v := (x5 + 1)) (lv' := [(0, .ref 29), (1, .int 2), (2, .int 3), (3, .long r12), (5, .int (x5 + 1)), (6, .int (r4 + x5)), (7, .long r12)]) 4 dX9_choose_119 rfl rfl rfl rfl ?_
        refine gx_goto 22 dX9_choose_122 (by decide) ?_
        refine gx_sub [0, 1, 2, 3, 4] (lv' := [(0, .ref 29), (1, .int 2), (2, .int 3), (3, .long r12), (5, .int (x5 + 1))]) rfl ?_
        exact h
abbrev Z_Wr_choose_29_1_3 (g : gm_G) (Q : mI → mL → gm_cfg → Prop) (pc : Nat) (lv : List (Nat × Value)) (st : List Value) (I : mI) (L : mL) (c : gm_cfg) : Prop := gm_X g RX9 "choose" cX9_choose 9 none 5 0 0 (qV Q) 0 0 pc lv st (SH, I, L, RR c)
abbrev C_Wr_choose_29_1_3 (g : gm_G) (I : mI) (L : mL) (c : gm_cfg) (Q : mI → mL → gm_cfg → Prop) : Prop := gm_Met g yX9_choose cX9_choose 9 none 5 0 0 [.ref 29, .int 1, .int 3] (SH, I, L, RR c) (qV Q)
set_option maxRecDepth 100000 in
theorem e_Wr_choose_29_1_3 {g : gm_G} {Q : mI → mL → gm_cfg → Prop} {I : mI} {L : mL} {c : gm_cfg} (h : Z_Wr_choose_29_1_3 g Q 22 [(0, .ref 29), (1, .int 1), (2, .int 3), (3, .long (-1)), (5, .int 0)] [] I L c) : C_Wr_choose_29_1_3 g  I L c Q := by
  refine gm_enter (lv := [(0, .ref 29), (1, .int 1), (2, .int 3)]) (by decide) rfl rfl rfl rfl ?_
  show Z_Wr_choose_29_1_3 g Q 0 [(0, .ref 29), (1, .int 1), (2, .int 3)] [] I L c
  refine gx_iload_n 1 dX9_choose_0 rfl rfl ?_
  refine gx_if_lt 14 dX9_choose_1 (by decide) (br_f (by decide) ?_)
  refine gx_iload_n 1 dX9_choose_4 rfl rfl ?_
  refine gx_iload_n 2 dX9_choose_5 rfl rfl ?_
  refine gx_icmp_ge 14 dX9_choose_6 (by decide) (br_f (by decide) ?_)
  refine gx_iload_n 2 dX9_choose_9 rfl rfl ?_
  refine gx_iconst (v := 3) dX9_choose_10 (by decide) ?_
  refine gx_icmp_le 15 dX9_choose_11 (by decide) (br_t (by decide) ?_)
  refine gx_ldc2 dX9_choose_15 kl_X9_28 ?_
  refine gx_lstore_n (lv' := [(0, .ref 29), (1, .int 1), (2, .int 3), (3, .long (-1))]) dX9_choose_18 rfl rfl rfl ?_
  refine gx_iconst (v := 0) dX9_choose_19 (by decide) ?_
  refine gx_istore (lv' := [(0, .ref 29), (1, .int 1), (2, .int 3), (3, .long (-1)), (5, .int 0)]) dX9_choose_20 rfl rfl ?_
  exact h
set_option maxRecDepth 100000 in
theorem r_Wr_choose_29_1_3_22 {g : gm_G} {Q : mI → mL → gm_cfg → Prop} {x5 : Int32} {x3 : Int64} {I : mI} {L : mL} {c : gm_cfg} (h : (((I 23 7) ≤ x5 → Q (va_up I 30 (va_cpy (I 33) (I 30) (Int32.toNatClampNeg 1) (Int32.toNatClampNeg 1) (Int32.toNatClampNeg 2))) L c) ∧ (¬ (I 23 7) ≤ x5 → (C_Sr_low g I L c (fun r4 I1 L2 c3 => (C_Sr_wholeOf g (r4 + x5) I1 L2 c3 (fun r8 I5 L6 c7 => (((r8 : Int64) ≤ x3 → Z_Wr_choose_29_1_3 g Q 22 [(0, .ref 29), (1, .int 1), (2, .int 3), (3, .long x3), (5, .int (x5 + 1))] [] I5 L6 c7) ∧ (¬ (r8 : Int64) ≤ x3 → (C_Wr_choose_29_2_3 g (gm_u I5 30 1 (r4 + x5)) L6 c7 (fun I9 L10 c11 => (C_Wr_shareOf g 1 3 I9 L10 c11 (fun r15 I12 L13 c14 => (((r15 : Int64) ≤ x3 → Z_Wr_choose_29_1_3 g Q 22 [(0, .ref 29), (1, .int 1), (2, .int 3), (3, .long x3), (5, .int (x5 + 1))] [] I12 L13 c14) ∧ (¬ (r15 : Int64) ≤ x3 → Z_Wr_choose_29_1_3 g Q 22 [(0, .ref 29), (1, .int 1), (2, .int 3), (3, .long r15), (5, .int (x5 + 1))] [] (va_up I12 33 (va_cpy (I12 30) (I12 33) (Int32.toNatClampNeg 1) (Int32.toNatClampNeg 1) (Int32.toNatClampNeg 2))) L13 c14))))))))))))))) : Z_Wr_choose_29_1_3 g Q 22 [(0, .ref 29), (1, .int 1), (2, .int 3), (3, .long x3), (5, .int x5)] [] I L c := by
  refine gx_iload 4 dX9_choose_22 rfl ?_
  refine gx_aload_n 0 dX9_choose_24 rfl rfl ?_
  refine gx_getr 9 2 (v := 23) dX9_choose_25 fl_X9_20 rfl rfl rfl ?_
  refine gx_geti 7 7 (v := (I 23 7)) dX9_choose_28 fl_X9_30 rfl rfl rfl ?_
  refine gx_icmp_ge 125 dX9_choose_31 (by decide) ⟨fun z => ?_, fun z => ?_⟩
  · replace h := h.1 z
    refine gx_aload_n 0 dX9_choose_125 rfl rfl ?_
    refine gx_getr 9 1 (v := 31) dX9_choose_126 fl_X9_17 rfl rfl rfl ?_
    refine gx_iload_n 1 dX9_choose_129 rfl rfl ?_
    refine gx_aald (v := 33) dX9_choose_130 rfl rfl rfl rfl (gm_vin rfl) (k := 1) rfl rfl ?_
    refine gx_iload_n 1 dX9_choose_131 rfl rfl ?_
    refine gx_aload_n 0 dX9_choose_132 rfl rfl ?_
    refine gx_getr 9 0 (v := 30) dX9_choose_133 fl_X9_9 rfl rfl rfl ?_
    refine gx_iload_n 1 dX9_choose_136 rfl rfl ?_
    refine gx_iload_n 2 dX9_choose_137 rfl rfl ?_
    refine gx_iload_n 1 dX9_choose_138 rfl rfl ?_
    refine gx_isub dX9_choose_139 ?_
    show Z_Wr_choose_29_1_3 g Q 140 [(0, .ref 29), (1, .int 1), (2, .int 3), (3, .long x3), (5, .int x5)] [.int 2, .int 1, .ref 30, .int 1, .ref 33] I L c
    refine gx_copy dX9_choose_140 ml_X9_48 mw_copy rfl rfl rfl rfl rfl rfl (by decide) (by decide) (by decide) (by decide) (by decide) ?_
    show Z_Wr_choose_29_1_3 g Q 143 [(0, .ref 29), (1, .int 1), (2, .int 3), (3, .long x3), (5, .int x5)] [] (va_up I 30 (va_cpy (I 33) (I 30) (Int32.toNatClampNeg 1) (Int32.toNatClampNeg 1) (Int32.toNatClampNeg 2))) L c
    exact gx_vret dX9_choose_143 rfl rfl rfl ⟨_, _, _, rfl, rfl, h⟩
  · replace h := h.2 z
    refine gx_aload_n 0 dX9_choose_34 rfl rfl ?_
    refine gx_getr 9 2 (v := 23) dX9_choose_35 fl_X9_20 rfl rfl rfl ?_
    refine gx_callV 7 (As := []) (st := []) dX9_choose_38 ml_X9_36 mm_X7_low rfl rfl rfl rfl rfl rfl ⟨rfl, rfl⟩ h (fun v h2 hq => ?_)
    clear h
    obtain ⟨r4, I1, L2, c3, rfl, rfl, h⟩ := hq
    show Z_Wr_choose_29_1_3 g Q 41 [(0, .ref 29), (1, .int 1), (2, .int 3), (3, .long x3), (5, .int x5)] [.int r4] I1 L2 c3
    refine gx_iload 4 dX9_choose_41 rfl ?_
    refine gx_iadd dX9_choose_43 ?_
    refine gx_istore (lv' := [(0, .ref 29), (1, .int 1), (2, .int 3), (3, .long x3), (5, .int x5), (6, .int (r4 + x5))]) dX9_choose_44 rfl rfl ?_
    refine gx_aload_n 0 dX9_choose_46 rfl rfl ?_
    refine gx_getr 9 2 (v := 23) dX9_choose_47 fl_X9_20 rfl rfl rfl ?_
    refine gx_iload 5 dX9_choose_50 rfl ?_
    refine gx_callV 7 (As := [.int (r4 + x5)]) (st := []) dX9_choose_52 ml_X9_40 mm_X7_wholeOf rfl rfl rfl rfl rfl rfl ⟨rfl, rfl⟩ h (fun v h2 hq => ?_)
    clear h
    obtain ⟨r8, I5, L6, c7, rfl, rfl, h⟩ := hq
    show Z_Wr_choose_29_1_3 g Q 55 [(0, .ref 29), (1, .int 1), (2, .int 3), (3, .long x3), (5, .int x5), (6, .int (r4 + x5))] [.long r8] I5 L6 c7
    refine gx_lload_n 3 dX9_choose_55 rfl rfl ?_
    refine gx_lcmp_le 119 dX9_choose_56 dX9_choose_57 (by decide) ⟨fun z => ?_, fun z => ?_⟩
    · replace h := h.1 z
      refine gx_iinc (v := (x5 + 1)) (lv' := [(0, .ref 29), (1, .int 1), (2, .int 3), (3, .long x3), (5, .int (x5 + 1)), (6, .int (r4 + x5))]) 4 dX9_choose_119 rfl rfl rfl rfl ?_
      refine gx_goto 22 dX9_choose_122 (by decide) ?_
      refine gx_sub [0, 1, 2, 3, 4] (lv' := [(0, .ref 29), (1, .int 1), (2, .int 3), (3, .long x3), (5, .int (x5 + 1))]) rfl ?_
      exact h
    · replace h := h.2 z
      refine gx_aload_n 0 dX9_choose_60 rfl rfl ?_
      refine gx_getr 9 0 (v := 30) dX9_choose_61 fl_X9_9 rfl rfl rfl ?_
      refine gx_iload_n 1 dX9_choose_64 rfl rfl ?_
      refine gx_iload 5 dX9_choose_65 rfl ?_
      refine gx_iast dX9_choose_67 rfl rfl (gm_vin rfl) (k := 1) rfl ?_
      show Z_Wr_choose_29_1_3 g Q 68 [(0, .ref 29), (1, .int 1), (2, .int 3), (3, .long x3), (5, .int x5), (6, .int (r4 + x5))] [] (gm_u I5 30 1 (r4 + x5)) L6 c7
      refine gx_iload_n 1 dX9_choose_68 rfl rfl ?_
      refine gx_iconst (v := 1) dX9_choose_69 (by decide) ?_
      refine gx_iadd dX9_choose_70 ?_
      show Z_Wr_choose_29_1_3 g Q 71 [(0, .ref 29), (1, .int 1), (2, .int 3), (3, .long x3), (5, .int x5), (6, .int (r4 + x5))] [.int 2] (gm_u I5 30 1 (r4 + x5)) L6 c7
      refine gx_iload_n 2 dX9_choose_71 rfl rfl ?_
      refine gx_icmp_ge 83 dX9_choose_72 (by decide) (br_f (by decide) ?_)
      refine gx_aload_n 0 dX9_choose_75 rfl rfl ?_
      refine gx_iload_n 1 dX9_choose_76 rfl rfl ?_
      refine gx_iconst (v := 1) dX9_choose_77 (by decide) ?_
      refine gx_iadd dX9_choose_78 ?_
      show Z_Wr_choose_29_1_3 g Q 79 [(0, .ref 29), (1, .int 1), (2, .int 3), (3, .long x3), (5, .int x5), (6, .int (r4 + x5))] [.int 2, .ref 29] (gm_u I5 30 1 (r4 + x5)) L6 c7
      refine gx_iload_n 2 dX9_choose_79 rfl rfl ?_
      refine gx_callS (As := [.ref 29, .int 2, .int 3]) (st := []) dX9_choose_80 ml_X9_24 mm_X9_choose rfl rfl rfl rfl ⟨rfl, rfl⟩ h (fun v h2 hq => ?_)
      clear h
      obtain ⟨I9, L10, c11, rfl, rfl, h⟩ := hq
      show Z_Wr_choose_29_1_3 g Q 83 [(0, .ref 29), (1, .int 1), (2, .int 3), (3, .long x3), (5, .int x5), (6, .int (r4 + x5))] [] I9 L10 c11
      refine gx_aload_n 0 dX9_choose_83 rfl rfl ?_
      refine gx_iload_n 1 dX9_choose_84 rfl rfl ?_
      refine gx_iload_n 2 dX9_choose_85 rfl rfl ?_
      refine gx_callV 9 (As := [.int 1, .int 3]) (st := []) dX9_choose_86 ml_X9_44 mm_X9_shareOf rfl rfl rfl rfl rfl rfl ⟨rfl, rfl⟩ h (fun v h2 hq => ?_)
      clear h
      obtain ⟨r15, I12, L13, c14, rfl, rfl, h⟩ := hq
      show Z_Wr_choose_29_1_3 g Q 89 [(0, .ref 29), (1, .int 1), (2, .int 3), (3, .long x3), (5, .int x5), (6, .int (r4 + x5))] [.long r15] I12 L13 c14
      refine gx_lstore (lv' := [(0, .ref 29), (1, .int 1), (2, .int 3), (3, .long x3), (5, .int x5), (6, .int (r4 + x5)), (7, .long r15)]) dX9_choose_89 rfl rfl ?_
      refine gx_lload 6 dX9_choose_91 rfl ?_
      refine gx_lload_n 3 dX9_choose_93 rfl rfl ?_
      refine gx_lcmp_le 119 dX9_choose_94 dX9_choose_95 (by decide) ⟨fun z => ?_, fun z => ?_⟩
      · replace h := h.1 z
        refine gx_iinc (v := (x5 + 1)) (lv' := [(0, .ref 29), (1, .int 1), (2, .int 3), (3, .long x3), (5, .int (x5 + 1)), (6, .int (r4 + x5)), (7, .long r15)]) 4 dX9_choose_119 rfl rfl rfl rfl ?_
        refine gx_goto 22 dX9_choose_122 (by decide) ?_
        refine gx_sub [0, 1, 2, 3, 4] (lv' := [(0, .ref 29), (1, .int 1), (2, .int 3), (3, .long x3), (5, .int (x5 + 1))]) rfl ?_
        exact h
      · replace h := h.2 z
        refine gx_lload 6 dX9_choose_98 rfl ?_
        refine gx_lstore_n (lv' := [(0, .ref 29), (1, .int 1), (2, .int 3), (3, .long r15), (5, .int x5), (6, .int (r4 + x5)), (7, .long r15)]) dX9_choose_100 rfl rfl rfl ?_
        refine gx_aload_n 0 dX9_choose_101 rfl rfl ?_
        refine gx_getr 9 0 (v := 30) dX9_choose_102 fl_X9_9 rfl rfl rfl ?_
        refine gx_iload_n 1 dX9_choose_105 rfl rfl ?_
        refine gx_aload_n 0 dX9_choose_106 rfl rfl ?_
        refine gx_getr 9 1 (v := 31) dX9_choose_107 fl_X9_17 rfl rfl rfl ?_
        refine gx_iload_n 1 dX9_choose_110 rfl rfl ?_
        refine gx_aald (v := 33) dX9_choose_111 rfl rfl rfl rfl (gm_vin rfl) (k := 1) rfl rfl ?_
        refine gx_iload_n 1 dX9_choose_112 rfl rfl ?_
        refine gx_iload_n 2 dX9_choose_113 rfl rfl ?_
        refine gx_iload_n 1 dX9_choose_114 rfl rfl ?_
        refine gx_isub dX9_choose_115 ?_
        show Z_Wr_choose_29_1_3 g Q 116 [(0, .ref 29), (1, .int 1), (2, .int 3), (3, .long r15), (5, .int x5), (6, .int (r4 + x5)), (7, .long r15)] [.int 2, .int 1, .ref 33, .int 1, .ref 30] I12 L13 c14
        refine gx_copy dX9_choose_116 ml_X9_48 mw_copy rfl rfl rfl rfl rfl rfl (by decide) (by decide) (by decide) (by decide) (by decide) ?_
        show Z_Wr_choose_29_1_3 g Q 119 [(0, .ref 29), (1, .int 1), (2, .int 3), (3, .long r15), (5, .int x5), (6, .int (r4 + x5)), (7, .long r15)] [] (va_up I12 33 (va_cpy (I12 30) (I12 33) (Int32.toNatClampNeg 1) (Int32.toNatClampNeg 1) (Int32.toNatClampNeg 2))) L13 c14
        refine gx_iinc (v := (x5 + 1)) (lv' := [(0, .ref 29), (1, .int 1), (2, .int 3), (3, .long r15), (5, .int (x5 + 1)), (6, .int (r4 + x5)), (7, .long r15)]) 4 dX9_choose_119 rfl rfl rfl rfl ?_
        refine gx_goto 22 dX9_choose_122 (by decide) ?_
        refine gx_sub [0, 1, 2, 3, 4] (lv' := [(0, .ref 29), (1, .int 1), (2, .int 3), (3, .long r15), (5, .int (x5 + 1))]) rfl ?_
        exact h
abbrev Z_Wr_choose_29_0_3 (g : gm_G) (Q : mI → mL → gm_cfg → Prop) (pc : Nat) (lv : List (Nat × Value)) (st : List Value) (I : mI) (L : mL) (c : gm_cfg) : Prop := gm_X g RX9 "choose" cX9_choose 9 none 6 0 0 (qV Q) 0 0 pc lv st (SH, I, L, RR c)
abbrev C_Wr_choose_29_0_3 (g : gm_G) (I : mI) (L : mL) (c : gm_cfg) (Q : mI → mL → gm_cfg → Prop) : Prop := gm_Met g yX9_choose cX9_choose 9 none 6 0 0 [.ref 29, .int 0, .int 3] (SH, I, L, RR c) (qV Q)
set_option maxRecDepth 100000 in
theorem e_Wr_choose_29_0_3 {g : gm_G} {Q : mI → mL → gm_cfg → Prop} {I : mI} {L : mL} {c : gm_cfg} (h : Z_Wr_choose_29_0_3 g Q 22 [(0, .ref 29), (1, .int 0), (2, .int 3), (3, .long (-1)), (5, .int 0)] [] I L c) : C_Wr_choose_29_0_3 g  I L c Q := by
  refine gm_enter (lv := [(0, .ref 29), (1, .int 0), (2, .int 3)]) (by decide) rfl rfl rfl rfl ?_
  show Z_Wr_choose_29_0_3 g Q 0 [(0, .ref 29), (1, .int 0), (2, .int 3)] [] I L c
  refine gx_iload_n 1 dX9_choose_0 rfl rfl ?_
  refine gx_if_lt 14 dX9_choose_1 (by decide) (br_f (by decide) ?_)
  refine gx_iload_n 1 dX9_choose_4 rfl rfl ?_
  refine gx_iload_n 2 dX9_choose_5 rfl rfl ?_
  refine gx_icmp_ge 14 dX9_choose_6 (by decide) (br_f (by decide) ?_)
  refine gx_iload_n 2 dX9_choose_9 rfl rfl ?_
  refine gx_iconst (v := 3) dX9_choose_10 (by decide) ?_
  refine gx_icmp_le 15 dX9_choose_11 (by decide) (br_t (by decide) ?_)
  refine gx_ldc2 dX9_choose_15 kl_X9_28 ?_
  refine gx_lstore_n (lv' := [(0, .ref 29), (1, .int 0), (2, .int 3), (3, .long (-1))]) dX9_choose_18 rfl rfl rfl ?_
  refine gx_iconst (v := 0) dX9_choose_19 (by decide) ?_
  refine gx_istore (lv' := [(0, .ref 29), (1, .int 0), (2, .int 3), (3, .long (-1)), (5, .int 0)]) dX9_choose_20 rfl rfl ?_
  exact h
set_option maxRecDepth 100000 in
theorem r_Wr_choose_29_0_3_22 {g : gm_G} {Q : mI → mL → gm_cfg → Prop} {x5 : Int32} {x3 : Int64} {I : mI} {L : mL} {c : gm_cfg} (h : (((I 23 7) ≤ x5 → Q (va_up I 30 (va_cpy (I 32) (I 30) (Int32.toNatClampNeg 0) (Int32.toNatClampNeg 0) (Int32.toNatClampNeg 3))) L c) ∧ (¬ (I 23 7) ≤ x5 → (C_Sr_low g I L c (fun r4 I1 L2 c3 => (C_Sr_wholeOf g (r4 + x5) I1 L2 c3 (fun r8 I5 L6 c7 => (((r8 : Int64) ≤ x3 → Z_Wr_choose_29_0_3 g Q 22 [(0, .ref 29), (1, .int 0), (2, .int 3), (3, .long x3), (5, .int (x5 + 1))] [] I5 L6 c7) ∧ (¬ (r8 : Int64) ≤ x3 → (C_Wr_choose_29_1_3 g (gm_u I5 30 0 (r4 + x5)) L6 c7 (fun I9 L10 c11 => (C_Wr_shareOf g 0 3 I9 L10 c11 (fun r15 I12 L13 c14 => (((r15 : Int64) ≤ x3 → Z_Wr_choose_29_0_3 g Q 22 [(0, .ref 29), (1, .int 0), (2, .int 3), (3, .long x3), (5, .int (x5 + 1))] [] I12 L13 c14) ∧ (¬ (r15 : Int64) ≤ x3 → Z_Wr_choose_29_0_3 g Q 22 [(0, .ref 29), (1, .int 0), (2, .int 3), (3, .long r15), (5, .int (x5 + 1))] [] (va_up I12 32 (va_cpy (I12 30) (I12 32) (Int32.toNatClampNeg 0) (Int32.toNatClampNeg 0) (Int32.toNatClampNeg 3))) L13 c14))))))))))))))) : Z_Wr_choose_29_0_3 g Q 22 [(0, .ref 29), (1, .int 0), (2, .int 3), (3, .long x3), (5, .int x5)] [] I L c := by
  refine gx_iload 4 dX9_choose_22 rfl ?_
  refine gx_aload_n 0 dX9_choose_24 rfl rfl ?_
  refine gx_getr 9 2 (v := 23) dX9_choose_25 fl_X9_20 rfl rfl rfl ?_
  refine gx_geti 7 7 (v := (I 23 7)) dX9_choose_28 fl_X9_30 rfl rfl rfl ?_
  refine gx_icmp_ge 125 dX9_choose_31 (by decide) ⟨fun z => ?_, fun z => ?_⟩
  · replace h := h.1 z
    refine gx_aload_n 0 dX9_choose_125 rfl rfl ?_
    refine gx_getr 9 1 (v := 31) dX9_choose_126 fl_X9_17 rfl rfl rfl ?_
    refine gx_iload_n 1 dX9_choose_129 rfl rfl ?_
    refine gx_aald (v := 32) dX9_choose_130 rfl rfl rfl rfl (gm_vin rfl) (k := 0) rfl rfl ?_
    refine gx_iload_n 1 dX9_choose_131 rfl rfl ?_
    refine gx_aload_n 0 dX9_choose_132 rfl rfl ?_
    refine gx_getr 9 0 (v := 30) dX9_choose_133 fl_X9_9 rfl rfl rfl ?_
    refine gx_iload_n 1 dX9_choose_136 rfl rfl ?_
    refine gx_iload_n 2 dX9_choose_137 rfl rfl ?_
    refine gx_iload_n 1 dX9_choose_138 rfl rfl ?_
    refine gx_isub dX9_choose_139 ?_
    show Z_Wr_choose_29_0_3 g Q 140 [(0, .ref 29), (1, .int 0), (2, .int 3), (3, .long x3), (5, .int x5)] [.int 3, .int 0, .ref 30, .int 0, .ref 32] I L c
    refine gx_copy dX9_choose_140 ml_X9_48 mw_copy rfl rfl rfl rfl rfl rfl (by decide) (by decide) (by decide) (by decide) (by decide) ?_
    show Z_Wr_choose_29_0_3 g Q 143 [(0, .ref 29), (1, .int 0), (2, .int 3), (3, .long x3), (5, .int x5)] [] (va_up I 30 (va_cpy (I 32) (I 30) (Int32.toNatClampNeg 0) (Int32.toNatClampNeg 0) (Int32.toNatClampNeg 3))) L c
    exact gx_vret dX9_choose_143 rfl rfl rfl ⟨_, _, _, rfl, rfl, h⟩
  · replace h := h.2 z
    refine gx_aload_n 0 dX9_choose_34 rfl rfl ?_
    refine gx_getr 9 2 (v := 23) dX9_choose_35 fl_X9_20 rfl rfl rfl ?_
    refine gx_callV 7 (As := []) (st := []) dX9_choose_38 ml_X9_36 mm_X7_low rfl rfl rfl rfl rfl rfl ⟨rfl, rfl⟩ h (fun v h2 hq => ?_)
    clear h
    obtain ⟨r4, I1, L2, c3, rfl, rfl, h⟩ := hq
    show Z_Wr_choose_29_0_3 g Q 41 [(0, .ref 29), (1, .int 0), (2, .int 3), (3, .long x3), (5, .int x5)] [.int r4] I1 L2 c3
    refine gx_iload 4 dX9_choose_41 rfl ?_
    refine gx_iadd dX9_choose_43 ?_
    refine gx_istore (lv' := [(0, .ref 29), (1, .int 0), (2, .int 3), (3, .long x3), (5, .int x5), (6, .int (r4 + x5))]) dX9_choose_44 rfl rfl ?_
    refine gx_aload_n 0 dX9_choose_46 rfl rfl ?_
    refine gx_getr 9 2 (v := 23) dX9_choose_47 fl_X9_20 rfl rfl rfl ?_
    refine gx_iload 5 dX9_choose_50 rfl ?_
    refine gx_callV 7 (As := [.int (r4 + x5)]) (st := []) dX9_choose_52 ml_X9_40 mm_X7_wholeOf rfl rfl rfl rfl rfl rfl ⟨rfl, rfl⟩ h (fun v h2 hq => ?_)
    clear h
    obtain ⟨r8, I5, L6, c7, rfl, rfl, h⟩ := hq
    show Z_Wr_choose_29_0_3 g Q 55 [(0, .ref 29), (1, .int 0), (2, .int 3), (3, .long x3), (5, .int x5), (6, .int (r4 + x5))] [.long r8] I5 L6 c7
    refine gx_lload_n 3 dX9_choose_55 rfl rfl ?_
    refine gx_lcmp_le 119 dX9_choose_56 dX9_choose_57 (by decide) ⟨fun z => ?_, fun z => ?_⟩
    · replace h := h.1 z
      refine gx_iinc (v := (x5 + 1)) (lv' := [(0, .ref 29), (1, .int 0), (2, .int 3), (3, .long x3), (5, .int (x5 + 1)), (6, .int (r4 + x5))]) 4 dX9_choose_119 rfl rfl rfl rfl ?_
      refine gx_goto 22 dX9_choose_122 (by decide) ?_
      refine gx_sub [0, 1, 2, 3, 4] (lv' := [(0, .ref 29), (1, .int 0), (2, .int 3), (3, .long x3), (5, .int (x5 + 1))]) rfl ?_
      exact h
    · replace h := h.2 z
      refine gx_aload_n 0 dX9_choose_60 rfl rfl ?_
      refine gx_getr 9 0 (v := 30) dX9_choose_61 fl_X9_9 rfl rfl rfl ?_
      refine gx_iload_n 1 dX9_choose_64 rfl rfl ?_
      refine gx_iload 5 dX9_choose_65 rfl ?_
      refine gx_iast dX9_choose_67 rfl rfl (gm_vin rfl) (k := 0) rfl ?_
      show Z_Wr_choose_29_0_3 g Q 68 [(0, .ref 29), (1, .int 0), (2, .int 3), (3, .long x3), (5, .int x5), (6, .int (r4 + x5))] [] (gm_u I5 30 0 (r4 + x5)) L6 c7
      refine gx_iload_n 1 dX9_choose_68 rfl rfl ?_
      refine gx_iconst (v := 1) dX9_choose_69 (by decide) ?_
      refine gx_iadd dX9_choose_70 ?_
      show Z_Wr_choose_29_0_3 g Q 71 [(0, .ref 29), (1, .int 0), (2, .int 3), (3, .long x3), (5, .int x5), (6, .int (r4 + x5))] [.int 1] (gm_u I5 30 0 (r4 + x5)) L6 c7
      refine gx_iload_n 2 dX9_choose_71 rfl rfl ?_
      refine gx_icmp_ge 83 dX9_choose_72 (by decide) (br_f (by decide) ?_)
      refine gx_aload_n 0 dX9_choose_75 rfl rfl ?_
      refine gx_iload_n 1 dX9_choose_76 rfl rfl ?_
      refine gx_iconst (v := 1) dX9_choose_77 (by decide) ?_
      refine gx_iadd dX9_choose_78 ?_
      show Z_Wr_choose_29_0_3 g Q 79 [(0, .ref 29), (1, .int 0), (2, .int 3), (3, .long x3), (5, .int x5), (6, .int (r4 + x5))] [.int 1, .ref 29] (gm_u I5 30 0 (r4 + x5)) L6 c7
      refine gx_iload_n 2 dX9_choose_79 rfl rfl ?_
      refine gx_callS (As := [.ref 29, .int 1, .int 3]) (st := []) dX9_choose_80 ml_X9_24 mm_X9_choose rfl rfl rfl rfl ⟨rfl, rfl⟩ h (fun v h2 hq => ?_)
      clear h
      obtain ⟨I9, L10, c11, rfl, rfl, h⟩ := hq
      show Z_Wr_choose_29_0_3 g Q 83 [(0, .ref 29), (1, .int 0), (2, .int 3), (3, .long x3), (5, .int x5), (6, .int (r4 + x5))] [] I9 L10 c11
      refine gx_aload_n 0 dX9_choose_83 rfl rfl ?_
      refine gx_iload_n 1 dX9_choose_84 rfl rfl ?_
      refine gx_iload_n 2 dX9_choose_85 rfl rfl ?_
      refine gx_callV 9 (As := [.int 0, .int 3]) (st := []) dX9_choose_86 ml_X9_44 mm_X9_shareOf rfl rfl rfl rfl rfl rfl ⟨rfl, rfl⟩ h (fun v h2 hq => ?_)
      clear h
      obtain ⟨r15, I12, L13, c14, rfl, rfl, h⟩ := hq
      show Z_Wr_choose_29_0_3 g Q 89 [(0, .ref 29), (1, .int 0), (2, .int 3), (3, .long x3), (5, .int x5), (6, .int (r4 + x5))] [.long r15] I12 L13 c14
      refine gx_lstore (lv' := [(0, .ref 29), (1, .int 0), (2, .int 3), (3, .long x3), (5, .int x5), (6, .int (r4 + x5)), (7, .long r15)]) dX9_choose_89 rfl rfl ?_
      refine gx_lload 6 dX9_choose_91 rfl ?_
      refine gx_lload_n 3 dX9_choose_93 rfl rfl ?_
      refine gx_lcmp_le 119 dX9_choose_94 dX9_choose_95 (by decide) ⟨fun z => ?_, fun z => ?_⟩
      · replace h := h.1 z
        refine gx_iinc (v := (x5 + 1)) (lv' := [(0, .ref 29), (1, .int 0), (2, .int 3), (3, .long x3), (5, .int (x5 + 1)), (6, .int (r4 + x5)), (7, .long r15)]) 4 dX9_choose_119 rfl rfl rfl rfl ?_
        refine gx_goto 22 dX9_choose_122 (by decide) ?_
        refine gx_sub [0, 1, 2, 3, 4] (lv' := [(0, .ref 29), (1, .int 0), (2, .int 3), (3, .long x3), (5, .int (x5 + 1))]) rfl ?_
        exact h
      · replace h := h.2 z
        refine gx_lload 6 dX9_choose_98 rfl ?_
        refine gx_lstore_n (lv' := [(0, .ref 29), (1, .int 0), (2, .int 3), (3, .long r15), (5, .int x5), (6, .int (r4 + x5)), (7, .long r15)]) dX9_choose_100 rfl rfl rfl ?_
        refine gx_aload_n 0 dX9_choose_101 rfl rfl ?_
        refine gx_getr 9 0 (v := 30) dX9_choose_102 fl_X9_9 rfl rfl rfl ?_
        refine gx_iload_n 1 dX9_choose_105 rfl rfl ?_
        refine gx_aload_n 0 dX9_choose_106 rfl rfl ?_
        refine gx_getr 9 1 (v := 31) dX9_choose_107 fl_X9_17 rfl rfl rfl ?_
        refine gx_iload_n 1 dX9_choose_110 rfl rfl ?_
        refine gx_aald (v := 32) dX9_choose_111 rfl rfl rfl rfl (gm_vin rfl) (k := 0) rfl rfl ?_
        refine gx_iload_n 1 dX9_choose_112 rfl rfl ?_
        refine gx_iload_n 2 dX9_choose_113 rfl rfl ?_
        refine gx_iload_n 1 dX9_choose_114 rfl rfl ?_
        refine gx_isub dX9_choose_115 ?_
        show Z_Wr_choose_29_0_3 g Q 116 [(0, .ref 29), (1, .int 0), (2, .int 3), (3, .long r15), (5, .int x5), (6, .int (r4 + x5)), (7, .long r15)] [.int 3, .int 0, .ref 32, .int 0, .ref 30] I12 L13 c14
        refine gx_copy dX9_choose_116 ml_X9_48 mw_copy rfl rfl rfl rfl rfl rfl (by decide) (by decide) (by decide) (by decide) (by decide) ?_
        show Z_Wr_choose_29_0_3 g Q 119 [(0, .ref 29), (1, .int 0), (2, .int 3), (3, .long r15), (5, .int x5), (6, .int (r4 + x5)), (7, .long r15)] [] (va_up I12 32 (va_cpy (I12 30) (I12 32) (Int32.toNatClampNeg 0) (Int32.toNatClampNeg 0) (Int32.toNatClampNeg 3))) L13 c14
        refine gx_iinc (v := (x5 + 1)) (lv' := [(0, .ref 29), (1, .int 0), (2, .int 3), (3, .long r15), (5, .int (x5 + 1)), (6, .int (r4 + x5)), (7, .long r15)]) 4 dX9_choose_119 rfl rfl rfl rfl ?_
        refine gx_goto 22 dX9_choose_122 (by decide) ?_
        refine gx_sub [0, 1, 2, 3, 4] (lv' := [(0, .ref 29), (1, .int 0), (2, .int 3), (3, .long r15), (5, .int (x5 + 1))]) rfl ?_
        exact h
abbrev Z_Wr_play_0_3 (g : gm_G) (Q : mI → mL → gm_cfg → Prop) (pc : Nat) (lv : List (Nat × Value)) (st : List Value) (I : mI) (L : mL) (c : gm_cfg) : Prop := gm_X g RX9 "play" cX9_play 3 none 7 0 0 (qV Q) 0 0 pc lv st (SH, I, L, RR c)
abbrev C_Wr_play_0_3 (g : gm_G) (I : mI) (L : mL) (c : gm_cfg) (Q : mI → mL → gm_cfg → Prop) : Prop := gm_Met g yX9_play cX9_play 3 none 7 0 0 [.ref 29, .int 0, .int 3] (SH, I, L, RR c) (qV Q)
set_option maxRecDepth 100000 in
theorem e_Wr_play_0_3 {g : gm_G} {Q : mI → mL → gm_cfg → Prop} {I : mI} {L : mL} {c : gm_cfg} (h : (C_Wr_choose_29_0_3 g I L c (fun I1 L2 c3 => Q I1 L2 c3))) : C_Wr_play_0_3 g  I L c Q := by
  refine gm_enter (lv := [(0, .ref 29), (1, .int 0), (2, .int 3)]) (by decide) rfl rfl rfl rfl ?_
  show Z_Wr_play_0_3 g Q 0 [(0, .ref 29), (1, .int 0), (2, .int 3)] [] I L c
  refine gx_aload_n 0 dX9_play_0 rfl rfl ?_
  refine gx_iload_n 1 dX9_play_1 rfl rfl ?_
  refine gx_iload_n 2 dX9_play_2 rfl rfl ?_
  refine gx_callS (As := [.ref 29, .int 0, .int 3]) (st := []) dX9_play_3 ml_X9_24 mm_X9_choose rfl rfl rfl rfl ⟨rfl, rfl⟩ h (fun v h2 hq => ?_)
  clear h
  obtain ⟨I1, L2, c3, rfl, rfl, h⟩ := hq
  show Z_Wr_play_0_3 g Q 6 [(0, .ref 29), (1, .int 0), (2, .int 3)] [] I1 L2 c3
  exact gx_vret dX9_play_6 rfl rfl rfl ⟨_, _, _, rfl, rfl, h⟩
