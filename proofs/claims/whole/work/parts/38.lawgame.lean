/-! the law's call of the game, by how many write -/
set_option maxRecDepth 100000 in
theorem r_law_1236_1 {g : gm_G} {nm : String} {x3 : Int32} {I : mI} {L : mL} {c : gm_cfg} (e0 : gS g (x3 + 1) = 1) (h : (vp_in (x3 + 1) (gN g) ∧ (vp_in (x3 + 2) (gN g) ∧ (C_J_game_1 g (gS g (x3 + 2)) I L c (fun r4 I1 L2 c3 => (vp_in (x3 + 1) (gN g) ∧ (vp_in (x3 + 2) (gN g) ∧ (C_M_game_1 g (gS g (x3 + 2)) I1 L2 c3 (fun r8 I5 L6 c7 => ((r4 = r8 → ZL g nm 1730 [(0, .ref 2501), (1, .ref 0), (2, .ref 59), (3, .int x3)] [] I5 L6 c7) ∧ (¬ r4 = r8 → False))))))))))) : ZL g nm 1236 [(0, .ref 2501), (1, .ref 0), (2, .ref 59), (3, .int x3)] [] I L c := by
  refine gx_aload_n 1 dL_law_1236 rfl rfl ?_
  refine gx_aload_n 0 dL_law_1237 rfl rfl ?_
  refine gx_iload_n 3 dL_law_1238 rfl rfl ?_
  refine gx_iconst (v := 1) dL_law_1239 (by decide) ?_
  refine gx_iadd dL_law_1240 ?_
  obtain ⟨hi, h⟩ := h
  refine gx_sld dL_law_1241 hi ?_
  refine gx_aload_n 0 dL_law_1242 rfl rfl ?_
  refine gx_iload_n 3 dL_law_1243 rfl rfl ?_
  refine gx_iconst (v := 2) dL_law_1244 (by decide) ?_
  refine gx_iadd dL_law_1245 ?_
  obtain ⟨hi, h⟩ := h
  refine gx_sld dL_law_1246 hi ?_
  rw [e0]
  refine gx_callV 10 (As := [.int 1, .int (gS g (x3 + 2))]) (st := []) dL_law_1247 ml_L_155 mm_X10_game rfl rfl rfl rfl rfl rfl ⟨rfl, rfl⟩ h (fun v h2 hq => ?_)
  clear h
  obtain ⟨r4, I1, L2, c3, rfl, rfl, h⟩ := hq
  show ZL g nm 1250 [(0, .ref 2501), (1, .ref 0), (2, .ref 59), (3, .int x3)] [.int r4] I1 L2 c3
  refine gx_aload_n 2 dL_law_1250 rfl rfl ?_
  refine gx_aload_n 0 dL_law_1251 rfl rfl ?_
  refine gx_iload_n 3 dL_law_1252 rfl rfl ?_
  refine gx_iconst (v := 1) dL_law_1253 (by decide) ?_
  refine gx_iadd dL_law_1254 ?_
  obtain ⟨hi, h⟩ := h
  refine gx_sld dL_law_1255 hi ?_
  refine gx_aload_n 0 dL_law_1256 rfl rfl ?_
  refine gx_iload_n 3 dL_law_1257 rfl rfl ?_
  refine gx_iconst (v := 2) dL_law_1258 (by decide) ?_
  refine gx_iadd dL_law_1259 ?_
  obtain ⟨hi, h⟩ := h
  refine gx_sld dL_law_1260 hi ?_
  rw [e0]
  refine gx_callV 11 (As := [.int 1, .int (gS g (x3 + 2))]) (st := [.int r4]) dL_law_1261 ml_L_158 mm_X11_game rfl rfl rfl rfl rfl rfl ⟨rfl, rfl⟩ h (fun v h2 hq => ?_)
  clear h
  obtain ⟨r8, I5, L6, c7, rfl, rfl, h⟩ := hq
  show ZL g nm 1264 [(0, .ref 2501), (1, .ref 0), (2, .ref 59), (3, .int x3)] [.int r8, .int r4] I5 L6 c7
  refine gx_icmp_eq 1730 dL_law_1264 (by decide) ⟨fun z => ?_, fun z => ?_⟩
  · replace h := h.1 z
    exact h
  · replace h := h.2 z
    refine gx_iconst (v := 0) dL_law_1267 (by decide) ?_
    exact False.elim h
set_option maxRecDepth 100000 in
theorem r_law_1236_2 {g : gm_G} {nm : String} {x3 : Int32} {I : mI} {L : mL} {c : gm_cfg} (e0 : gS g (x3 + 1) = 2) (h : (vp_in (x3 + 1) (gN g) ∧ (vp_in (x3 + 2) (gN g) ∧ (C_J_game_2 g (gS g (x3 + 2)) I L c (fun r4 I1 L2 c3 => (vp_in (x3 + 1) (gN g) ∧ (vp_in (x3 + 2) (gN g) ∧ (C_M_game_2 g (gS g (x3 + 2)) I1 L2 c3 (fun r8 I5 L6 c7 => ((r4 = r8 → ZL g nm 1730 [(0, .ref 2501), (1, .ref 0), (2, .ref 59), (3, .int x3)] [] I5 L6 c7) ∧ (¬ r4 = r8 → False))))))))))) : ZL g nm 1236 [(0, .ref 2501), (1, .ref 0), (2, .ref 59), (3, .int x3)] [] I L c := by
  refine gx_aload_n 1 dL_law_1236 rfl rfl ?_
  refine gx_aload_n 0 dL_law_1237 rfl rfl ?_
  refine gx_iload_n 3 dL_law_1238 rfl rfl ?_
  refine gx_iconst (v := 1) dL_law_1239 (by decide) ?_
  refine gx_iadd dL_law_1240 ?_
  obtain ⟨hi, h⟩ := h
  refine gx_sld dL_law_1241 hi ?_
  refine gx_aload_n 0 dL_law_1242 rfl rfl ?_
  refine gx_iload_n 3 dL_law_1243 rfl rfl ?_
  refine gx_iconst (v := 2) dL_law_1244 (by decide) ?_
  refine gx_iadd dL_law_1245 ?_
  obtain ⟨hi, h⟩ := h
  refine gx_sld dL_law_1246 hi ?_
  rw [e0]
  refine gx_callV 10 (As := [.int 2, .int (gS g (x3 + 2))]) (st := []) dL_law_1247 ml_L_155 mm_X10_game rfl rfl rfl rfl rfl rfl ⟨rfl, rfl⟩ h (fun v h2 hq => ?_)
  clear h
  obtain ⟨r4, I1, L2, c3, rfl, rfl, h⟩ := hq
  show ZL g nm 1250 [(0, .ref 2501), (1, .ref 0), (2, .ref 59), (3, .int x3)] [.int r4] I1 L2 c3
  refine gx_aload_n 2 dL_law_1250 rfl rfl ?_
  refine gx_aload_n 0 dL_law_1251 rfl rfl ?_
  refine gx_iload_n 3 dL_law_1252 rfl rfl ?_
  refine gx_iconst (v := 1) dL_law_1253 (by decide) ?_
  refine gx_iadd dL_law_1254 ?_
  obtain ⟨hi, h⟩ := h
  refine gx_sld dL_law_1255 hi ?_
  refine gx_aload_n 0 dL_law_1256 rfl rfl ?_
  refine gx_iload_n 3 dL_law_1257 rfl rfl ?_
  refine gx_iconst (v := 2) dL_law_1258 (by decide) ?_
  refine gx_iadd dL_law_1259 ?_
  obtain ⟨hi, h⟩ := h
  refine gx_sld dL_law_1260 hi ?_
  rw [e0]
  refine gx_callV 11 (As := [.int 2, .int (gS g (x3 + 2))]) (st := [.int r4]) dL_law_1261 ml_L_158 mm_X11_game rfl rfl rfl rfl rfl rfl ⟨rfl, rfl⟩ h (fun v h2 hq => ?_)
  clear h
  obtain ⟨r8, I5, L6, c7, rfl, rfl, h⟩ := hq
  show ZL g nm 1264 [(0, .ref 2501), (1, .ref 0), (2, .ref 59), (3, .int x3)] [.int r8, .int r4] I5 L6 c7
  refine gx_icmp_eq 1730 dL_law_1264 (by decide) ⟨fun z => ?_, fun z => ?_⟩
  · replace h := h.1 z
    exact h
  · replace h := h.2 z
    refine gx_iconst (v := 0) dL_law_1267 (by decide) ?_
    exact False.elim h
set_option maxRecDepth 100000 in
theorem r_law_1236_3 {g : gm_G} {nm : String} {x3 : Int32} {I : mI} {L : mL} {c : gm_cfg} (e0 : gS g (x3 + 1) = 3) (h : (vp_in (x3 + 1) (gN g) ∧ (vp_in (x3 + 2) (gN g) ∧ (C_J_game_3 g (gS g (x3 + 2)) I L c (fun r4 I1 L2 c3 => (vp_in (x3 + 1) (gN g) ∧ (vp_in (x3 + 2) (gN g) ∧ (C_M_game_3 g (gS g (x3 + 2)) I1 L2 c3 (fun r8 I5 L6 c7 => ((r4 = r8 → ZL g nm 1730 [(0, .ref 2501), (1, .ref 0), (2, .ref 59), (3, .int x3)] [] I5 L6 c7) ∧ (¬ r4 = r8 → False))))))))))) : ZL g nm 1236 [(0, .ref 2501), (1, .ref 0), (2, .ref 59), (3, .int x3)] [] I L c := by
  refine gx_aload_n 1 dL_law_1236 rfl rfl ?_
  refine gx_aload_n 0 dL_law_1237 rfl rfl ?_
  refine gx_iload_n 3 dL_law_1238 rfl rfl ?_
  refine gx_iconst (v := 1) dL_law_1239 (by decide) ?_
  refine gx_iadd dL_law_1240 ?_
  obtain ⟨hi, h⟩ := h
  refine gx_sld dL_law_1241 hi ?_
  refine gx_aload_n 0 dL_law_1242 rfl rfl ?_
  refine gx_iload_n 3 dL_law_1243 rfl rfl ?_
  refine gx_iconst (v := 2) dL_law_1244 (by decide) ?_
  refine gx_iadd dL_law_1245 ?_
  obtain ⟨hi, h⟩ := h
  refine gx_sld dL_law_1246 hi ?_
  rw [e0]
  refine gx_callV 10 (As := [.int 3, .int (gS g (x3 + 2))]) (st := []) dL_law_1247 ml_L_155 mm_X10_game rfl rfl rfl rfl rfl rfl ⟨rfl, rfl⟩ h (fun v h2 hq => ?_)
  clear h
  obtain ⟨r4, I1, L2, c3, rfl, rfl, h⟩ := hq
  show ZL g nm 1250 [(0, .ref 2501), (1, .ref 0), (2, .ref 59), (3, .int x3)] [.int r4] I1 L2 c3
  refine gx_aload_n 2 dL_law_1250 rfl rfl ?_
  refine gx_aload_n 0 dL_law_1251 rfl rfl ?_
  refine gx_iload_n 3 dL_law_1252 rfl rfl ?_
  refine gx_iconst (v := 1) dL_law_1253 (by decide) ?_
  refine gx_iadd dL_law_1254 ?_
  obtain ⟨hi, h⟩ := h
  refine gx_sld dL_law_1255 hi ?_
  refine gx_aload_n 0 dL_law_1256 rfl rfl ?_
  refine gx_iload_n 3 dL_law_1257 rfl rfl ?_
  refine gx_iconst (v := 2) dL_law_1258 (by decide) ?_
  refine gx_iadd dL_law_1259 ?_
  obtain ⟨hi, h⟩ := h
  refine gx_sld dL_law_1260 hi ?_
  rw [e0]
  refine gx_callV 11 (As := [.int 3, .int (gS g (x3 + 2))]) (st := [.int r4]) dL_law_1261 ml_L_158 mm_X11_game rfl rfl rfl rfl rfl rfl ⟨rfl, rfl⟩ h (fun v h2 hq => ?_)
  clear h
  obtain ⟨r8, I5, L6, c7, rfl, rfl, h⟩ := hq
  show ZL g nm 1264 [(0, .ref 2501), (1, .ref 0), (2, .ref 59), (3, .int x3)] [.int r8, .int r4] I5 L6 c7
  refine gx_icmp_eq 1730 dL_law_1264 (by decide) ⟨fun z => ?_, fun z => ?_⟩
  · replace h := h.1 z
    exact h
  · replace h := h.2 z
    refine gx_iconst (v := 0) dL_law_1267 (by decide) ?_
    exact False.elim h
