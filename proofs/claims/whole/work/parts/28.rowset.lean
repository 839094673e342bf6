/-! rows of numbers and images -/
/-- a number cut to a sort -/
def ct (s : Nat) (v : Int64) : Int64 := match s with
  | 0 => Int32.toInt64 (Int8.toInt32 (Int32.toInt8 (Int64.toInt32 v)))
  | 1 => Int32.toInt64 (Int16.toInt32 (Int32.toInt16 (Int64.toInt32 v)))
  | 2 => Int32.toInt64 (Int64.toInt32 v)
  | _ => v
/-- the cells that only a row has -/
def oFI (o : Nat) : Bool := o == 0 || o == 1 || o == 6 || (16 ≤ o && o ≤ 22) || (43 ≤ o && o ≤ 58) || o == 60 || o == 61 || o == 62 || o == 7
theorem FS0_k {I I' : mI} (hr : KO oFI I I') (h : FS0 I) : FS0 I' :=
  FS_congr (hr 60 rfl) (hr 16 rfl) (hr 17 rfl) (hr 18 rfl) (hr 19 rfl) (hr 20 rfl) (hr 21 rfl) (hr 22 rfl) h
section R
variable {g : gm_G} {I : mI} {L : mL} {c : gm_cfg}
theorem m_cut {Q : Int64 → mI → mL → gm_cfg → Prop} {s : Nat} {v : Int64} (hs : s ≤ 3) (hq : Q (ct s v) I L c) : C_M_cut g v (nI s) I L c Q := by
  match s, hs with
  | 0, _ => exact e_M_cut (br_t rfl hq)
  | 1, _ => exact e_M_cut (br_f (by decide) (br_t rfl hq))
  | 2, _ => exact e_M_cut (br_f (by decide) (br_f (by decide) (br_t rfl hq)))
  | 3, _ => exact e_M_cut (br_f (by decide) (br_f (by decide) (br_f (by decide) hq)))
theorem j_isRowT {Q : Bool → mI → mL → gm_cfg → Prop} {r : Nat} (hr : r < 4) (hq : Q true I L c) : C_J_isRow g (nI r) I L c Q :=
  e_J_isRow (br_f (nI_pos (by omega)) (br_f (nI_ge (b := 4) hr (by omega)) hq))
theorem j_isRowF {Q : Bool → mI → mL → gm_cfg → Prop} {x : Int32} (hx : x < 0 ∨ nI 4 ≤ x) (hq : Q false I L c) : C_J_isRow g x I L c Q :=
  e_J_isRow (br_c (fun _ => hq) (fun z => br_t (hx.resolve_left z) hq))
/-- row 0 set anew -/
theorem Inv.setR35 {I I' : mI} {L L' : mL} {c : gm_cfg} (h : Inv I L c) (hr : KO (fun o => oFI o || (o == 37 || o == 39 || o == 41)) I I') (h5 : I' 59 5 = I 59 5 ∧ I' 59 13 = I 59 13 ∧ I' 59 14 = I 59 14) (h71 : ∀ q, q ≠ 0 → I' 71 q = I 71 q ∧ I' 72 q = I 72 q) (hL : KO (fun o => o == 38 || o == 40 || o == 42) L L') (h73 : ∀ q k, q ≠ 0 → k < 40 → L' 73 (40 * q + k) = L 73 (40 * q + k)) (hw : RW I' L' 35 36 0) (h25 : L' 25 0 = L 25 0 := by rfl) : Inv I' L' c := by
  obtain ⟨f0, t0, ⟨x0, x1⟩, ⟨r0, r1, r2, r3⟩, ⟨m0, m1⟩, cf, sz, l0⟩ := h
  have R := hr
  refine ⟨FS_congr (R 60 rfl) (R 16 rfl) (R 17 rfl) (R 18 rfl) (R 19 rfl) (R 20 rfl) (R 21 rfl) (R 22 rfl) f0, TP_congr (by rw [R 0 rfl]) (R 1 rfl) h5.1 (R 62 rfl) t0, ⟨by rw [R 6 rfl, h5.2.1]; exact x0, by rw [R 6 rfl, h5.2.2]; exact x1⟩, ⟨hw, RW_c (R 37 rfl) (h71 1 (by omega)).1 (h71 1 (by omega)).2 (hL 38 rfl) (fun k hk => h73 1 k (by omega) hk) r1, RW_c (R 39 rfl) (h71 2 (by omega)).1 (h71 2 (by omega)).2 (hL 40 rfl) (fun k hk => h73 2 k (by omega) hk) r2, RW_c (R 41 rfl) (h71 3 (by omega)).1 (h71 3 (by omega)).2 (hL 42 rfl) (fun k hk => h73 3 k (by omega) hk) r3⟩, ⟨?_, ?_⟩, cf, SZ_k (R 7 rfl) sz, h25.trans l0⟩
  · exact IM_congr (R 43 rfl) (R 61 rfl) (R 60 rfl) (R 44 rfl) (R 45 rfl) (R 46 rfl) (R 47 rfl) (R 48 rfl) (R 49 rfl) (R 50 rfl) m0
  · exact IM_congr (R 51 rfl) (R 61 rfl) (R 60 rfl) (R 52 rfl) (R 53 rfl) (R 54 rfl) (R 55 rfl) (R 56 rfl) (R 57 rfl) (R 58 rfl) m1
theorem j_begin35 {Q : mI → mL → gm_cfg → Prop} {s n : Int32} (hq : Q (gm_u (gm_u I 35 2 s) 35 1 n) (fl L 36 0 (fun _ => 0) 40) c) : C_Ro35_begin g s n I L c Q := by
  refine e_Ro35_begin ?_
  have key : Z_Ro35_begin g Q 12 [(0, .ref 35), (1, .int s), (2, .int n), (3, .int (nI 0))] [] (gm_u (gm_u I 35 2 s) 35 1 n) (fl L 36 0 (fun _ => 0) 0) c := by
    refine lp0 (P := fun i => Z_Ro35_begin g Q 12 [(0, .ref 35), (1, .int s), (2, .int n), (3, .int (nI i))] [] (gm_u (gm_u I 35 2 s) 35 1 n) (fl L 36 0 (fun _ => 0) i) c) 40 ?_ ?_
    · exact r_Ro35_begin_12 (br_t (by decide) hq)
    · intro i hi ih
      refine r_Ro35_begin_12 (br_f (nI_ge (b := 40) hi (by omega)) ⟨vp_in_nI hi (by omega), ?_⟩)
      rw [nI_clamp (by omega), nI_1]
      have := fl_s L 36 0 (fun _ => (0 : Int64)) i
      rw [Nat.zero_add] at this
      rw [this]
      exact ih
  rw [fl_0] at key
  exact key
theorem j_cut35 {Q : Int64 → mI → mL → gm_cfg → Prop} {s : Nat} {v : Int64} (hs : s ≤ 3) (e : I 35 2 = nI s) (hq : Q (ct s v) I L c) : C_Ro35_cut g v I L c Q := by
  refine e_Ro35_cut ?_
  rw [e]
  match s, hs with
  | 0, _ => exact br_t rfl hq
  | 1, _ => exact br_f (by decide) (br_t rfl hq)
  | 2, _ => exact br_f (by decide) (br_f (by decide) (br_t rfl hq))
  | 3, _ => exact br_f (by decide) (br_f (by decide) (br_f (by decide) hq))
theorem j_set35 {Q : Int64 → mI → mL → gm_cfg → Prop} {s n i : Nat} {v : Int64} (hs : s ≤ 3) (e : I 35 2 = nI s) (e1 : I 35 1 = nI n) (hn : n ≤ 40) (hi : i < n) (hq : Q (ct s v) I (gm_u L 36 i (ct s v)) c) : C_Ro35_set g (nI i) v I L c Q := by
  refine e_Ro35_set ?_
  rw [e1]
  refine br_f (nI_pos (by omega)) (br_f (nI_ge hi (by omega)) (br_t (nI_lt (b := 40) (by omega) (by omega)) (j_cut35 hs e ⟨vp_in_nI (by omega) (by omega), vp_in_nI (by omega) (by omega), ?_⟩)))
  rw [nI_clamp (by omega), gm_u_eq]
  exact hq
theorem j_missT35 {Q : Bool → mI → mL → gm_cfg → Prop} (e : I 35 1 = -1) (hq : Q true I L c) : C_Ro35_isMissing g I L c Q :=
  e_Ro35_isMissing (br_f (by rw [e]; decide) hq)
theorem j_missF35 {Q : Bool → mI → mL → gm_cfg → Prop} {n : Nat} (e : I 35 1 = nI n) (hn : n ≤ 40) (hq : Q false I L c) : C_Ro35_isMissing g I L c Q :=
  e_Ro35_isMissing (br_t (by rw [e]; exact nI_pos' (by omega)) hq)
/-- row 1 set anew -/
theorem Inv.setR37 {I I' : mI} {L L' : mL} {c : gm_cfg} (h : Inv I L c) (hr : KO (fun o => oFI o || (o == 35 || o == 39 || o == 41)) I I') (h5 : I' 59 5 = I 59 5 ∧ I' 59 13 = I 59 13 ∧ I' 59 14 = I 59 14) (h71 : ∀ q, q ≠ 1 → I' 71 q = I 71 q ∧ I' 72 q = I 72 q) (hL : KO (fun o => o == 36 || o == 40 || o == 42) L L') (h73 : ∀ q k, q ≠ 1 → k < 40 → L' 73 (40 * q + k) = L 73 (40 * q + k)) (hw : RW I' L' 37 38 1) (h25 : L' 25 0 = L 25 0 := by rfl) : Inv I' L' c := by
  obtain ⟨f0, t0, ⟨x0, x1⟩, ⟨r0, r1, r2, r3⟩, ⟨m0, m1⟩, cf, sz, l0⟩ := h
  have R := hr
  refine ⟨FS_congr (R 60 rfl) (R 16 rfl) (R 17 rfl) (R 18 rfl) (R 19 rfl) (R 20 rfl) (R 21 rfl) (R 22 rfl) f0, TP_congr (by rw [R 0 rfl]) (R 1 rfl) h5.1 (R 62 rfl) t0, ⟨by rw [R 6 rfl, h5.2.1]; exact x0, by rw [R 6 rfl, h5.2.2]; exact x1⟩, ⟨RW_c (R 35 rfl) (h71 0 (by omega)).1 (h71 0 (by omega)).2 (hL 36 rfl) (fun k hk => h73 0 k (by omega) hk) r0, hw, RW_c (R 39 rfl) (h71 2 (by omega)).1 (h71 2 (by omega)).2 (hL 40 rfl) (fun k hk => h73 2 k (by omega) hk) r2, RW_c (R 41 rfl) (h71 3 (by omega)).1 (h71 3 (by omega)).2 (hL 42 rfl) (fun k hk => h73 3 k (by omega) hk) r3⟩, ⟨?_, ?_⟩, cf, SZ_k (R 7 rfl) sz, h25.trans l0⟩
  · exact IM_congr (R 43 rfl) (R 61 rfl) (R 60 rfl) (R 44 rfl) (R 45 rfl) (R 46 rfl) (R 47 rfl) (R 48 rfl) (R 49 rfl) (R 50 rfl) m0
  · exact IM_congr (R 51 rfl) (R 61 rfl) (R 60 rfl) (R 52 rfl) (R 53 rfl) (R 54 rfl) (R 55 rfl) (R 56 rfl) (R 57 rfl) (R 58 rfl) m1
theorem j_begin37 {Q : mI → mL → gm_cfg → Prop} {s n : Int32} (hq : Q (gm_u (gm_u I 37 2 s) 37 1 n) (fl L 38 0 (fun _ => 0) 40) c) : C_Ro37_begin g s n I L c Q := by
  refine e_Ro37_begin ?_
  have key : Z_Ro37_begin g Q 12 [(0, .ref 37), (1, .int s), (2, .int n), (3, .int (nI 0))] [] (gm_u (gm_u I 37 2 s) 37 1 n) (fl L 38 0 (fun _ => 0) 0) c := by
    refine lp0 (P := fun i => Z_Ro37_begin g Q 12 [(0, .ref 37), (1, .int s), (2, .int n), (3, .int (nI i))] [] (gm_u (gm_u I 37 2 s) 37 1 n) (fl L 38 0 (fun _ => 0) i) c) 40 ?_ ?_
    · exact r_Ro37_begin_12 (br_t (by decide) hq)
    · intro i hi ih
      refine r_Ro37_begin_12 (br_f (nI_ge (b := 40) hi (by omega)) ⟨vp_in_nI hi (by omega), ?_⟩)
      rw [nI_clamp (by omega), nI_1]
      have := fl_s L 38 0 (fun _ => (0 : Int64)) i
      rw [Nat.zero_add] at this
      rw [this]
      exact ih
  rw [fl_0] at key
  exact key
theorem j_cut37 {Q : Int64 → mI → mL → gm_cfg → Prop} {s : Nat} {v : Int64} (hs : s ≤ 3) (e : I 37 2 = nI s) (hq : Q (ct s v) I L c) : C_Ro37_cut g v I L c Q := by
  refine e_Ro37_cut ?_
  rw [e]
  match s, hs with
  | 0, _ => exact br_t rfl hq
  | 1, _ => exact br_f (by decide) (br_t rfl hq)
  | 2, _ => exact br_f (by decide) (br_f (by decide) (br_t rfl hq))
  | 3, _ => exact br_f (by decide) (br_f (by decide) (br_f (by decide) hq))
theorem j_set37 {Q : Int64 → mI → mL → gm_cfg → Prop} {s n i : Nat} {v : Int64} (hs : s ≤ 3) (e : I 37 2 = nI s) (e1 : I 37 1 = nI n) (hn : n ≤ 40) (hi : i < n) (hq : Q (ct s v) I (gm_u L 38 i (ct s v)) c) : C_Ro37_set g (nI i) v I L c Q := by
  refine e_Ro37_set ?_
  rw [e1]
  refine br_f (nI_pos (by omega)) (br_f (nI_ge hi (by omega)) (br_t (nI_lt (b := 40) (by omega) (by omega)) (j_cut37 hs e ⟨vp_in_nI (by omega) (by omega), vp_in_nI (by omega) (by omega), ?_⟩)))
  rw [nI_clamp (by omega), gm_u_eq]
  exact hq
theorem j_missT37 {Q : Bool → mI → mL → gm_cfg → Prop} (e : I 37 1 = -1) (hq : Q true I L c) : C_Ro37_isMissing g I L c Q :=
  e_Ro37_isMissing (br_f (by rw [e]; decide) hq)
theorem j_missF37 {Q : Bool → mI → mL → gm_cfg → Prop} {n : Nat} (e : I 37 1 = nI n) (hn : n ≤ 40) (hq : Q false I L c) : C_Ro37_isMissing g I L c Q :=
  e_Ro37_isMissing (br_t (by rw [e]; exact nI_pos' (by omega)) hq)
/-- row 2 set anew -/
theorem Inv.setR39 {I I' : mI} {L L' : mL} {c : gm_cfg} (h : Inv I L c) (hr : KO (fun o => oFI o || (o == 35 || o == 37 || o == 41)) I I') (h5 : I' 59 5 = I 59 5 ∧ I' 59 13 = I 59 13 ∧ I' 59 14 = I 59 14) (h71 : ∀ q, q ≠ 2 → I' 71 q = I 71 q ∧ I' 72 q = I 72 q) (hL : KO (fun o => o == 36 || o == 38 || o == 42) L L') (h73 : ∀ q k, q ≠ 2 → k < 40 → L' 73 (40 * q + k) = L 73 (40 * q + k)) (hw : RW I' L' 39 40 2) (h25 : L' 25 0 = L 25 0 := by rfl) : Inv I' L' c := by
  obtain ⟨f0, t0, ⟨x0, x1⟩, ⟨r0, r1, r2, r3⟩, ⟨m0, m1⟩, cf, sz, l0⟩ := h
  have R := hr
  refine ⟨FS_congr (R 60 rfl) (R 16 rfl) (R 17 rfl) (R 18 rfl) (R 19 rfl) (R 20 rfl) (R 21 rfl) (R 22 rfl) f0, TP_congr (by rw [R 0 rfl]) (R 1 rfl) h5.1 (R 62 rfl) t0, ⟨by rw [R 6 rfl, h5.2.1]; exact x0, by rw [R 6 rfl, h5.2.2]; exact x1⟩, ⟨RW_c (R 35 rfl) (h71 0 (by omega)).1 (h71 0 (by omega)).2 (hL 36 rfl) (fun k hk => h73 0 k (by omega) hk) r0, RW_c (R 37 rfl) (h71 1 (by omega)).1 (h71 1 (by omega)).2 (hL 38 rfl) (fun k hk => h73 1 k (by omega) hk) r1, hw, RW_c (R 41 rfl) (h71 3 (by omega)).1 (h71 3 (by omega)).2 (hL 42 rfl) (fun k hk => h73 3 k (by omega) hk) r3⟩, ⟨?_, ?_⟩, cf, SZ_k (R 7 rfl) sz, h25.trans l0⟩
  · exact IM_congr (R 43 rfl) (R 61 rfl) (R 60 rfl) (R 44 rfl) (R 45 rfl) (R 46 rfl) (R 47 rfl) (R 48 rfl) (R 49 rfl) (R 50 rfl) m0
  · exact IM_congr (R 51 rfl) (R 61 rfl) (R 60 rfl) (R 52 rfl) (R 53 rfl) (R 54 rfl) (R 55 rfl) (R 56 rfl) (R 57 rfl) (R 58 rfl) m1
theorem j_begin39 {Q : mI → mL → gm_cfg → Prop} {s n : Int32} (hq : Q (gm_u (gm_u I 39 2 s) 39 1 n) (fl L 40 0 (fun _ => 0) 40) c) : C_Ro39_begin g s n I L c Q := by
  refine e_Ro39_begin ?_
  have key : Z_Ro39_begin g Q 12 [(0, .ref 39), (1, .int s), (2, .int n), (3, .int (nI 0))] [] (gm_u (gm_u I 39 2 s) 39 1 n) (fl L 40 0 (fun _ => 0) 0) c := by
    refine lp0 (P := fun i => Z_Ro39_begin g Q 12 [(0, .ref 39), (1, .int s), (2, .int n), (3, .int (nI i))] [] (gm_u (gm_u I 39 2 s) 39 1 n) (fl L 40 0 (fun _ => 0) i) c) 40 ?_ ?_
    · exact r_Ro39_begin_12 (br_t (by decide) hq)
    · intro i hi ih
      refine r_Ro39_begin_12 (br_f (nI_ge (b := 40) hi (by omega)) ⟨vp_in_nI hi (by omega), ?_⟩)
      rw [nI_clamp (by omega), nI_1]
      have := fl_s L 40 0 (fun _ => (0 : Int64)) i
      rw [Nat.zero_add] at this
      rw [this]
      exact ih
  rw [fl_0] at key
  exact key
theorem j_cut39 {Q : Int64 → mI → mL → gm_cfg → Prop} {s : Nat} {v : Int64} (hs : s ≤ 3) (e : I 39 2 = nI s) (hq : Q (ct s v) I L c) : C_Ro39_cut g v I L c Q := by
  refine e_Ro39_cut ?_
  rw [e]
  match s, hs with
  | 0, _ => exact br_t rfl hq
  | 1, _ => exact br_f (by decide) (br_t rfl hq)
  | 2, _ => exact br_f (by decide) (br_f (by decide) (br_t rfl hq))
  | 3, _ => exact br_f (by decide) (br_f (by decide) (br_f (by decide) hq))
theorem j_set39 {Q : Int64 → mI → mL → gm_cfg → Prop} {s n i : Nat} {v : Int64} (hs : s ≤ 3) (e : I 39 2 = nI s) (e1 : I 39 1 = nI n) (hn : n ≤ 40) (hi : i < n) (hq : Q (ct s v) I (gm_u L 40 i (ct s v)) c) : C_Ro39_set g (nI i) v I L c Q := by
  refine e_Ro39_set ?_
  rw [e1]
  refine br_f (nI_pos (by omega)) (br_f (nI_ge hi (by omega)) (br_t (nI_lt (b := 40) (by omega) (by omega)) (j_cut39 hs e ⟨vp_in_nI (by omega) (by omega), vp_in_nI (by omega) (by omega), ?_⟩)))
  rw [nI_clamp (by omega), gm_u_eq]
  exact hq
theorem j_missT39 {Q : Bool → mI → mL → gm_cfg → Prop} (e : I 39 1 = -1) (hq : Q true I L c) : C_Ro39_isMissing g I L c Q :=
  e_Ro39_isMissing (br_f (by rw [e]; decide) hq)
theorem j_missF39 {Q : Bool → mI → mL → gm_cfg → Prop} {n : Nat} (e : I 39 1 = nI n) (hn : n ≤ 40) (hq : Q false I L c) : C_Ro39_isMissing g I L c Q :=
  e_Ro39_isMissing (br_t (by rw [e]; exact nI_pos' (by omega)) hq)
/-- row 3 set anew -/
theorem Inv.setR41 {I I' : mI} {L L' : mL} {c : gm_cfg} (h : Inv I L c) (hr : KO (fun o => oFI o || (o == 35 || o == 37 || o == 39)) I I') (h5 : I' 59 5 = I 59 5 ∧ I' 59 13 = I 59 13 ∧ I' 59 14 = I 59 14) (h71 : ∀ q, q ≠ 3 → I' 71 q = I 71 q ∧ I' 72 q = I 72 q) (hL : KO (fun o => o == 36 || o == 38 || o == 40) L L') (h73 : ∀ q k, q ≠ 3 → k < 40 → L' 73 (40 * q + k) = L 73 (40 * q + k)) (hw : RW I' L' 41 42 3) (h25 : L' 25 0 = L 25 0 := by rfl) : Inv I' L' c := by
  obtain ⟨f0, t0, ⟨x0, x1⟩, ⟨r0, r1, r2, r3⟩, ⟨m0, m1⟩, cf, sz, l0⟩ := h
  have R := hr
  refine ⟨FS_congr (R 60 rfl) (R 16 rfl) (R 17 rfl) (R 18 rfl) (R 19 rfl) (R 20 rfl) (R 21 rfl) (R 22 rfl) f0, TP_congr (by rw [R 0 rfl]) (R 1 rfl) h5.1 (R 62 rfl) t0, ⟨by rw [R 6 rfl, h5.2.1]; exact x0, by rw [R 6 rfl, h5.2.2]; exact x1⟩, ⟨RW_c (R 35 rfl) (h71 0 (by omega)).1 (h71 0 (by omega)).2 (hL 36 rfl) (fun k hk => h73 0 k (by omega) hk) r0, RW_c (R 37 rfl) (h71 1 (by omega)).1 (h71 1 (by omega)).2 (hL 38 rfl) (fun k hk => h73 1 k (by omega) hk) r1, RW_c (R 39 rfl) (h71 2 (by omega)).1 (h71 2 (by omega)).2 (hL 40 rfl) (fun k hk => h73 2 k (by omega) hk) r2, hw⟩, ⟨?_, ?_⟩, cf, SZ_k (R 7 rfl) sz, h25.trans l0⟩
  · exact IM_congr (R 43 rfl) (R 61 rfl) (R 60 rfl) (R 44 rfl) (R 45 rfl) (R 46 rfl) (R 47 rfl) (R 48 rfl) (R 49 rfl) (R 50 rfl) m0
  · exact IM_congr (R 51 rfl) (R 61 rfl) (R 60 rfl) (R 52 rfl) (R 53 rfl) (R 54 rfl) (R 55 rfl) (R 56 rfl) (R 57 rfl) (R 58 rfl) m1
theorem j_begin41 {Q : mI → mL → gm_cfg → Prop} {s n : Int32} (hq : Q (gm_u (gm_u I 41 2 s) 41 1 n) (fl L 42 0 (fun _ => 0) 40) c) : C_Ro41_begin g s n I L c Q := by
  refine e_Ro41_begin ?_
  have key : Z_Ro41_begin g Q 12 [(0, .ref 41), (1, .int s), (2, .int n), (3, .int (nI 0))] [] (gm_u (gm_u I 41 2 s) 41 1 n) (fl L 42 0 (fun _ => 0) 0) c := by
    refine lp0 (P := fun i => Z_Ro41_begin g Q 12 [(0, .ref 41), (1, .int s), (2, .int n), (3, .int (nI i))] [] (gm_u (gm_u I 41 2 s) 41 1 n) (fl L 42 0 (fun _ => 0) i) c) 40 ?_ ?_
    · exact r_Ro41_begin_12 (br_t (by decide) hq)
    · intro i hi ih
      refine r_Ro41_begin_12 (br_f (nI_ge (b := 40) hi (by omega)) ⟨vp_in_nI hi (by omega), ?_⟩)
      rw [nI_clamp (by omega), nI_1]
      have := fl_s L 42 0 (fun _ => (0 : Int64)) i
      rw [Nat.zero_add] at this
      rw [this]
      exact ih
  rw [fl_0] at key
  exact key
theorem j_cut41 {Q : Int64 → mI → mL → gm_cfg → Prop} {s : Nat} {v : Int64} (hs : s ≤ 3) (e : I 41 2 = nI s) (hq : Q (ct s v) I L c) : C_Ro41_cut g v I L c Q := by
  refine e_Ro41_cut ?_
  rw [e]
  match s, hs with
  | 0, _ => exact br_t rfl hq
  | 1, _ => exact br_f (by decide) (br_t rfl hq)
  | 2, _ => exact br_f (by decide) (br_f (by decide) (br_t rfl hq))
  | 3, _ => exact br_f (by decide) (br_f (by decide) (br_f (by decide) hq))
theorem j_set41 {Q : Int64 → mI → mL → gm_cfg → Prop} {s n i : Nat} {v : Int64} (hs : s ≤ 3) (e : I 41 2 = nI s) (e1 : I 41 1 = nI n) (hn : n ≤ 40) (hi : i < n) (hq : Q (ct s v) I (gm_u L 42 i (ct s v)) c) : C_Ro41_set g (nI i) v I L c Q := by
  refine e_Ro41_set ?_
  rw [e1]
  refine br_f (nI_pos (by omega)) (br_f (nI_ge hi (by omega)) (br_t (nI_lt (b := 40) (by omega) (by omega)) (j_cut41 hs e ⟨vp_in_nI (by omega) (by omega), vp_in_nI (by omega) (by omega), ?_⟩)))
  rw [nI_clamp (by omega), gm_u_eq]
  exact hq
theorem j_missT41 {Q : Bool → mI → mL → gm_cfg → Prop} (e : I 41 1 = -1) (hq : Q true I L c) : C_Ro41_isMissing g I L c Q :=
  e_Ro41_isMissing (br_f (by rw [e]; decide) hq)
theorem j_missF41 {Q : Bool → mI → mL → gm_cfg → Prop} {n : Nat} (e : I 41 1 = nI n) (hn : n ≤ 40) (hq : Q false I L c) : C_Ro41_isMissing g I L c Q :=
  e_Ro41_isMissing (br_t (by rw [e]; exact nI_pos' (by omega)) hq)
/-- the reference's index of a row's place -/
theorem i40 (r i : Nat) (hr : r < 4) (hi : i < 40) : vp_in (40 * nI r + nI i) 160 ∧ Int32.toNatClampNeg (40 * nI r + nI i) = 40 * r + i := by
  have e : (40 * nI r + nI i : Int32) = nI (40 * r + i) := by
    rw [show (40 * nI r : Int32) = nI 40 * nI r from rfl, pk_mul, nI_add]
  rw [e]
  exact ⟨vp_in_nI (by omega) (by omega), nI_clamp (by omega)⟩
theorem m_numbers {Q : Int32 → mI → mL → gm_cfg → Prop} {r s n : Nat} (hr : r < 4) (hs : s ≤ 3) (hn : n ≤ 40) (hq : Q 0 (gm_u (gm_u (gm_u I 59 0 0) 71 r (nI s)) 72 r (nI n)) (fl L 73 (40 * r) (fun _ => 0) n) c) : C_M_numbers g (nI r) (nI s) (nI n) I L c Q := by
  refine e_M_numbers (m_0t (n := 3) rfl (by omega) (by omega) (bt (m_0t (n := 3) rfl (by omega) (by omega) (bt (m_0t (n := 40) rfl (by omega) (by omega) (bt ⟨vp_in_nI hr (by omega), vp_in_nI hr (by omega), ?_⟩))))))
  rw [nI_clamp (by omega)]
  have key : Z_M_numbers g Q 64 [(0, .ref 59), (1, .int (nI r)), (2, .int (nI s)), (3, .int (nI n)), (4, .int (nI 0))] [] (gm_u (gm_u (gm_u I 59 0 0) 71 r (nI s)) 72 r (nI n)) (fl L 73 (40 * r) (fun _ => 0) 0) c := by
    refine lp0 (P := fun i => Z_M_numbers g Q 64 [(0, .ref 59), (1, .int (nI r)), (2, .int (nI s)), (3, .int (nI n)), (4, .int (nI i))] [] (gm_u (gm_u (gm_u I 59 0 0) 71 r (nI s)) 72 r (nI n)) (fl L 73 (40 * r) (fun _ => 0) i) c) n ?_ ?_
    · exact r_M_numbers_64 (br_t (nI_le (Nat.le_refl _) (by omega)) hq)
    · intro i hi ih
      obtain ⟨a1, a2⟩ := i40 r i hr (by omega)
      refine r_M_numbers_64 (br_f (nI_ge hi (by omega)) ⟨a1, ?_⟩)
      rw [a2, nI_1]
      have := fl_s L 73 (40 * r) (fun _ => (0 : Int64)) i
      rw [this]
      exact ih
  rw [fl_0] at key
  exact key
theorem n_numbers35 {s n : Nat} (hI : Inv I L c) (hs : s ≤ 3) (hn : n ≤ 40) : C_Ro35_begin g (nI s) (nI n) I L c (fun I1 L1 c1 => mQ (C_M_numbers g (nI 0) (nI s) (nI n)) 0 I1 L1 c1) := by
  refine j_begin35 (m_numbers (by omega) hs hn ⟨rfl, hI.setR35 (KO.u rfl (KO.u rfl (KO.u rfl (KO.u rfl (KO.u rfl KO.rf))))) ⟨rfl, rfl, rfl⟩ (fun q hq => ⟨?_, ?_⟩) (KO.fl rfl (KO.fl rfl KO.rf)) (fun q k hq hk => ?_) (Or.inr ⟨n, s, hn, hs, rfl, rfl, rfl, rfl, fun k hk => ?_⟩)⟩)
  · rw [gm_u_ne _ _ _ (by omega), gm_u_ne2 _ _ _ _ hq]; rfl
  · rw [gm_u_ne2 _ _ _ _ hq]; rfl
  · rw [fl_out (by omega), fl_ne (by omega)]
  · rw [fl_in (by omega), fl_ne (by omega)]
    have := fl_in (L := L) (p := 36) (a := 0) (f := fun _ => (0 : Int64)) (i := 40) (k := k) (by omega)
    rw [Nat.zero_add] at this
    exact this
theorem n_numbers37 {s n : Nat} (hI : Inv I L c) (hs : s ≤ 3) (hn : n ≤ 40) : C_Ro37_begin g (nI s) (nI n) I L c (fun I1 L1 c1 => mQ (C_M_numbers g (nI 1) (nI s) (nI n)) 0 I1 L1 c1) := by
  refine j_begin37 (m_numbers (by omega) hs hn ⟨rfl, hI.setR37 (KO.u rfl (KO.u rfl (KO.u rfl (KO.u rfl (KO.u rfl KO.rf))))) ⟨rfl, rfl, rfl⟩ (fun q hq => ⟨?_, ?_⟩) (KO.fl rfl (KO.fl rfl KO.rf)) (fun q k hq hk => ?_) (Or.inr ⟨n, s, hn, hs, rfl, rfl, rfl, rfl, fun k hk => ?_⟩)⟩)
  · rw [gm_u_ne _ _ _ (by omega), gm_u_ne2 _ _ _ _ hq]; rfl
  · rw [gm_u_ne2 _ _ _ _ hq]; rfl
  · rw [fl_out (by omega), fl_ne (by omega)]
  · rw [fl_in (by omega), fl_ne (by omega)]
    have := fl_in (L := L) (p := 38) (a := 0) (f := fun _ => (0 : Int64)) (i := 40) (k := k) (by omega)
    rw [Nat.zero_add] at this
    exact this
theorem n_numbers39 {s n : Nat} (hI : Inv I L c) (hs : s ≤ 3) (hn : n ≤ 40) : C_Ro39_begin g (nI s) (nI n) I L c (fun I1 L1 c1 => mQ (C_M_numbers g (nI 2) (nI s) (nI n)) 0 I1 L1 c1) := by
  refine j_begin39 (m_numbers (by omega) hs hn ⟨rfl, hI.setR39 (KO.u rfl (KO.u rfl (KO.u rfl (KO.u rfl (KO.u rfl KO.rf))))) ⟨rfl, rfl, rfl⟩ (fun q hq => ⟨?_, ?_⟩) (KO.fl rfl (KO.fl rfl KO.rf)) (fun q k hq hk => ?_) (Or.inr ⟨n, s, hn, hs, rfl, rfl, rfl, rfl, fun k hk => ?_⟩)⟩)
  · rw [gm_u_ne _ _ _ (by omega), gm_u_ne2 _ _ _ _ hq]; rfl
  · rw [gm_u_ne2 _ _ _ _ hq]; rfl
  · rw [fl_out (by omega), fl_ne (by omega)]
  · rw [fl_in (by omega), fl_ne (by omega)]
    have := fl_in (L := L) (p := 40) (a := 0) (f := fun _ => (0 : Int64)) (i := 40) (k := k) (by omega)
    rw [Nat.zero_add] at this
    exact this
theorem n_numbers41 {s n : Nat} (hI : Inv I L c) (hs : s ≤ 3) (hn : n ≤ 40) : C_Ro41_begin g (nI s) (nI n) I L c (fun I1 L1 c1 => mQ (C_M_numbers g (nI 3) (nI s) (nI n)) 0 I1 L1 c1) := by
  refine j_begin41 (m_numbers (by omega) hs hn ⟨rfl, hI.setR41 (KO.u rfl (KO.u rfl (KO.u rfl (KO.u rfl (KO.u rfl KO.rf))))) ⟨rfl, rfl, rfl⟩ (fun q hq => ⟨?_, ?_⟩) (KO.fl rfl (KO.fl rfl KO.rf)) (fun q k hq hk => ?_) (Or.inr ⟨n, s, hn, hs, rfl, rfl, rfl, rfl, fun k hk => ?_⟩)⟩)
  · rw [gm_u_ne _ _ _ (by omega), gm_u_ne2 _ _ _ _ hq]; rfl
  · rw [gm_u_ne2 _ _ _ _ hq]; rfl
  · rw [fl_out (by omega), fl_ne (by omega)]
  · rw [fl_in (by omega), fl_ne (by omega)]
    have := fl_in (L := L) (p := 42) (a := 0) (f := fun _ => (0 : Int64)) (i := 40) (k := k) (by omega)
    rw [Nat.zero_add] at this
    exact this
theorem P_numbers {x y z : Int32} (hI : Inv I L c) : C_J_numbers g x y z I L c (mQ (C_M_numbers g x y z)) := by
  rcases inR x 4 (by omega) with ⟨r, hr, rfl⟩ | hx
  · refine e_J_numbers (j_isRowT hr (bt ?_))
    rcases inR y 4 (by omega) with ⟨s, hs, rfl⟩ | hy
    · refine br_f (nI_pos (by omega)) (br_t (nI_lt (b := 4) hs (by omega)) ?_)
      rcases inR z 41 (by omega) with ⟨n, hn, rfl⟩ | hz
      · refine br_f (nI_pos (by omega)) (br_t (nI_le (b := 40) (by omega) (by omega)) ⟨vp_in_nI hr (by omega), ?_⟩)
        match r, hr with
        | 0, _ => exact ⟨fun _ => n_numbers35 hI (by omega) (by omega), fun z => absurd z (by decide), fun z => absurd z (by decide), fun z => absurd z (by decide)⟩
        | 1, _ => exact ⟨fun z => absurd z (by decide), fun _ => n_numbers37 hI (by omega) (by omega), fun z => absurd z (by decide), fun z => absurd z (by decide)⟩
        | 2, _ => exact ⟨fun z => absurd z (by decide), fun z => absurd z (by decide), fun _ => n_numbers39 hI (by omega) (by omega), fun z => absurd z (by decide)⟩
        | 3, _ => exact ⟨fun z => absurd z (by decide), fun z => absurd z (by decide), fun z => absurd z (by decide), fun _ => n_numbers41 hI (by omega) (by omega)⟩
      · have M : mQ (C_M_numbers g (nI r) (nI s) z) (-3) I L c := e_M_numbers (m_0t (n := 3) rfl (by omega) (by omega) (bt (m_0t (n := 3) rfl (by omega) (by omega) (bt (m_0f (n := 40) rfl (by omega) hz (bf (fin hI rfl kT)))))))
        refine br_c (fun _ => M) (fun q => br_f (fun w => ?_) M)
        have hz' := hz.resolve_left q
        rw [Int32.le_iff_toInt_le] at w hz'
        rw [nI_toInt (by omega)] at hz'
        have e : (40 : Int32).toInt = 40 := rfl
        omega
    · have M : mQ (C_M_numbers g (nI r) y z) (-2) I L c := e_M_numbers (m_0t (n := 3) rfl (by omega) (by omega) (bt (m_0f (n := 3) rfl (by omega) hy (bf (fin hI rfl kT)))))
      refine br_c (fun _ => M) (fun q => br_f (fun w => ?_) M)
      have hy' := hy.resolve_left q
      rw [Int32.lt_iff_toInt_lt] at w
      rw [Int32.le_iff_toInt_le, nI_toInt (by omega)] at hy'
      have e : (4 : Int32).toInt = 4 := rfl
      omega
  · exact e_J_numbers (j_isRowF hx (bf (e_M_numbers (m_0f (n := 3) rfl (by omega) hx (bf (fin hI rfl kT))))))
theorem n_put35 {y : Int32} {v : Int64} (hI : Inv I L c) (hw : RW I L 35 36 0) : C_Ro35_isMissing g I L c (fun b8 I5 L6 c7 => ((b8 = false → ((y < 0 → mQ (C_M_put g (nI 0) y v) (-7) I5 L6 c7) ∧ (¬ y < 0 → ((y < (I5 35 1) → (C_Ro35_set g y v I5 L6 c7 (fun r12 I9 L10 c11 => mQ (C_M_put g (nI 0) y v) r12 I9 L10 c11))) ∧ (¬ y < (I5 35 1) → mQ (C_M_put g (nI 0) y v) (-7) I5 L6 c7))))) ∧ (b8 = true → mQ (C_M_put g (nI 0) y v) (-6) I5 L6 c7))) := by
  have T : Int32.toNatClampNeg (nI 0) = 0 := rfl
  rcases hw with ⟨e1, e2⟩ | ⟨n, s, hn, hs, e1, e2, e3, e4, e5⟩
  · refine j_missT35 e1 (bt (e_M_put (m_0t (n := 3) rfl (by omega) (by omega) (bt ⟨vp_in_nI (by omega) (by omega), br_t ?_ (fin hI rfl kT)⟩))))
    rw [T]; exact e2
  · refine j_missF35 e1 hn (bf ?_)
    rw [e1]
    have ne : ¬ I 71 0 = -1 := by rw [e4]; exact nIm1 (by omega)
    rcases inR y n (by omega) with ⟨i, hi, rfl⟩ | hy
    · refine br_f (nI_pos (by omega)) (br_t (nI_lt hi (by omega)) (j_set35 hs e3 e1 hn hi ?_))
      refine e_M_put (m_0t (n := 3) rfl (by omega) (by omega) (bt ⟨vp_in_nI (by omega) (by omega), br_f ?_ ⟨vp_in_nI (by omega) (by omega), ?_⟩⟩))
      · rw [T]; exact ne
      rw [T, show (gm_u I 59 0 0) 72 0 = nI n from e2]
      refine m_nt hi (by omega) (bt ⟨vp_in_nI (by omega) (by omega), ?_⟩)
      rw [show (gm_u I 59 0 0) 71 0 = nI s from e4]
      obtain ⟨a1, a2⟩ := i40 0 i (by omega) (by omega)
      refine m_cut hs ⟨a1, a1, ?_⟩
      rw [a2, gm_u_eq]
      refine ⟨rfl, hI.setR35 (KO.u rfl KO.rf) ⟨rfl, rfl, rfl⟩ (fun q hq => ⟨rfl, rfl⟩) (KO.u rfl (KO.u rfl KO.rf)) (fun q k hq hk => ?_) (Or.inr ⟨n, s, hn, hs, e1, e2, e3, e4, fun k hk => ?_⟩)⟩
      · rw [gm_u_ne2 _ _ _ _ (by omega)]; rfl
      · rw [gm_u_ne _ _ _ (by omega)]
        by_cases q : k = i
        · subst q
          rw [gm_u_eq, gm_u_eq]
        · rw [gm_u_ne2 _ _ _ _ q, gm_u_ne2 _ _ _ _ (by omega)]
          exact e5 k hk
    · have M : mQ (C_M_put g (nI 0) y v) (-7) I L c := by
        refine e_M_put (m_0t (n := 3) rfl (by omega) (by omega) (bt ⟨vp_in_nI (by omega) (by omega), br_f ?_ ⟨vp_in_nI (by omega) (by omega), ?_⟩⟩))
        · rw [T]; exact ne
        rw [T, show (gm_u I 59 0 0) 72 0 = nI n from e2]
        exact m_nf (by omega) hy (bf (fin hI rfl kT))
      refine br_c (fun _ => M) (fun q => br_f (fun w => ?_) M)
      have hy' := hy.resolve_left q
      rw [Int32.lt_iff_toInt_lt] at w
      rw [Int32.le_iff_toInt_le] at hy'
      omega
theorem n_put37 {y : Int32} {v : Int64} (hI : Inv I L c) (hw : RW I L 37 38 1) : C_Ro37_isMissing g I L c (fun b8 I5 L6 c7 => ((b8 = false → ((y < 0 → mQ (C_M_put g (nI 1) y v) (-7) I5 L6 c7) ∧ (¬ y < 0 → ((y < (I5 37 1) → (C_Ro37_set g y v I5 L6 c7 (fun r12 I9 L10 c11 => mQ (C_M_put g (nI 1) y v) r12 I9 L10 c11))) ∧ (¬ y < (I5 37 1) → mQ (C_M_put g (nI 1) y v) (-7) I5 L6 c7))))) ∧ (b8 = true → mQ (C_M_put g (nI 1) y v) (-6) I5 L6 c7))) := by
  have T : Int32.toNatClampNeg (nI 1) = 1 := rfl
  rcases hw with ⟨e1, e2⟩ | ⟨n, s, hn, hs, e1, e2, e3, e4, e5⟩
  · refine j_missT37 e1 (bt (e_M_put (m_0t (n := 3) rfl (by omega) (by omega) (bt ⟨vp_in_nI (by omega) (by omega), br_t ?_ (fin hI rfl kT)⟩))))
    rw [T]; exact e2
  · refine j_missF37 e1 hn (bf ?_)
    rw [e1]
    have ne : ¬ I 71 1 = -1 := by rw [e4]; exact nIm1 (by omega)
    rcases inR y n (by omega) with ⟨i, hi, rfl⟩ | hy
    · refine br_f (nI_pos (by omega)) (br_t (nI_lt hi (by omega)) (j_set37 hs e3 e1 hn hi ?_))
      refine e_M_put (m_0t (n := 3) rfl (by omega) (by omega) (bt ⟨vp_in_nI (by omega) (by omega), br_f ?_ ⟨vp_in_nI (by omega) (by omega), ?_⟩⟩))
      · rw [T]; exact ne
      rw [T, show (gm_u I 59 0 0) 72 1 = nI n from e2]
      refine m_nt hi (by omega) (bt ⟨vp_in_nI (by omega) (by omega), ?_⟩)
      rw [show (gm_u I 59 0 0) 71 1 = nI s from e4]
      obtain ⟨a1, a2⟩ := i40 1 i (by omega) (by omega)
      refine m_cut hs ⟨a1, a1, ?_⟩
      rw [a2, gm_u_eq]
      refine ⟨rfl, hI.setR37 (KO.u rfl KO.rf) ⟨rfl, rfl, rfl⟩ (fun q hq => ⟨rfl, rfl⟩) (KO.u rfl (KO.u rfl KO.rf)) (fun q k hq hk => ?_) (Or.inr ⟨n, s, hn, hs, e1, e2, e3, e4, fun k hk => ?_⟩)⟩
      · rw [gm_u_ne2 _ _ _ _ (by omega)]; rfl
      · rw [gm_u_ne _ _ _ (by omega)]
        by_cases q : k = i
        · subst q
          rw [gm_u_eq, gm_u_eq]
        · rw [gm_u_ne2 _ _ _ _ q, gm_u_ne2 _ _ _ _ (by omega)]
          exact e5 k hk
    · have M : mQ (C_M_put g (nI 1) y v) (-7) I L c := by
        refine e_M_put (m_0t (n := 3) rfl (by omega) (by omega) (bt ⟨vp_in_nI (by omega) (by omega), br_f ?_ ⟨vp_in_nI (by omega) (by omega), ?_⟩⟩))
        · rw [T]; exact ne
        rw [T, show (gm_u I 59 0 0) 72 1 = nI n from e2]
        exact m_nf (by omega) hy (bf (fin hI rfl kT))
      refine br_c (fun _ => M) (fun q => br_f (fun w => ?_) M)
      have hy' := hy.resolve_left q
      rw [Int32.lt_iff_toInt_lt] at w
      rw [Int32.le_iff_toInt_le] at hy'
      omega
theorem n_put39 {y : Int32} {v : Int64} (hI : Inv I L c) (hw : RW I L 39 40 2) : C_Ro39_isMissing g I L c (fun b8 I5 L6 c7 => ((b8 = false → ((y < 0 → mQ (C_M_put g (nI 2) y v) (-7) I5 L6 c7) ∧ (¬ y < 0 → ((y < (I5 39 1) → (C_Ro39_set g y v I5 L6 c7 (fun r12 I9 L10 c11 => mQ (C_M_put g (nI 2) y v) r12 I9 L10 c11))) ∧ (¬ y < (I5 39 1) → mQ (C_M_put g (nI 2) y v) (-7) I5 L6 c7))))) ∧ (b8 = true → mQ (C_M_put g (nI 2) y v) (-6) I5 L6 c7))) := by
  have T : Int32.toNatClampNeg (nI 2) = 2 := rfl
  rcases hw with ⟨e1, e2⟩ | ⟨n, s, hn, hs, e1, e2, e3, e4, e5⟩
  · refine j_missT39 e1 (bt (e_M_put (m_0t (n := 3) rfl (by omega) (by omega) (bt ⟨vp_in_nI (by omega) (by omega), br_t ?_ (fin hI rfl kT)⟩))))
    rw [T]; exact e2
  · refine j_missF39 e1 hn (bf ?_)
    rw [e1]
    have ne : ¬ I 71 2 = -1 := by rw [e4]; exact nIm1 (by omega)
    rcases inR y n (by omega) with ⟨i, hi, rfl⟩ | hy
    · refine br_f (nI_pos (by omega)) (br_t (nI_lt hi (by omega)) (j_set39 hs e3 e1 hn hi ?_))
      refine e_M_put (m_0t (n := 3) rfl (by omega) (by omega) (bt ⟨vp_in_nI (by omega) (by omega), br_f ?_ ⟨vp_in_nI (by omega) (by omega), ?_⟩⟩))
      · rw [T]; exact ne
      rw [T, show (gm_u I 59 0 0) 72 2 = nI n from e2]
      refine m_nt hi (by omega) (bt ⟨vp_in_nI (by omega) (by omega), ?_⟩)
      rw [show (gm_u I 59 0 0) 71 2 = nI s from e4]
      obtain ⟨a1, a2⟩ := i40 2 i (by omega) (by omega)
      refine m_cut hs ⟨a1, a1, ?_⟩
      rw [a2, gm_u_eq]
      refine ⟨rfl, hI.setR39 (KO.u rfl KO.rf) ⟨rfl, rfl, rfl⟩ (fun q hq => ⟨rfl, rfl⟩) (KO.u rfl (KO.u rfl KO.rf)) (fun q k hq hk => ?_) (Or.inr ⟨n, s, hn, hs, e1, e2, e3, e4, fun k hk => ?_⟩)⟩
      · rw [gm_u_ne2 _ _ _ _ (by omega)]; rfl
      · rw [gm_u_ne _ _ _ (by omega)]
        by_cases q : k = i
        · subst q
          rw [gm_u_eq, gm_u_eq]
        · rw [gm_u_ne2 _ _ _ _ q, gm_u_ne2 _ _ _ _ (by omega)]
          exact e5 k hk
    · have M : mQ (C_M_put g (nI 2) y v) (-7) I L c := by
        refine e_M_put (m_0t (n := 3) rfl (by omega) (by omega) (bt ⟨vp_in_nI (by omega) (by omega), br_f ?_ ⟨vp_in_nI (by omega) (by omega), ?_⟩⟩))
        · rw [T]; exact ne
        rw [T, show (gm_u I 59 0 0) 72 2 = nI n from e2]
        exact m_nf (by omega) hy (bf (fin hI rfl kT))
      refine br_c (fun _ => M) (fun q => br_f (fun w => ?_) M)
      have hy' := hy.resolve_left q
      rw [Int32.lt_iff_toInt_lt] at w
      rw [Int32.le_iff_toInt_le] at hy'
      omega
theorem n_put41 {y : Int32} {v : Int64} (hI : Inv I L c) (hw : RW I L 41 42 3) : C_Ro41_isMissing g I L c (fun b8 I5 L6 c7 => ((b8 = false → ((y < 0 → mQ (C_M_put g (nI 3) y v) (-7) I5 L6 c7) ∧ (¬ y < 0 → ((y < (I5 41 1) → (C_Ro41_set g y v I5 L6 c7 (fun r12 I9 L10 c11 => mQ (C_M_put g (nI 3) y v) r12 I9 L10 c11))) ∧ (¬ y < (I5 41 1) → mQ (C_M_put g (nI 3) y v) (-7) I5 L6 c7))))) ∧ (b8 = true → mQ (C_M_put g (nI 3) y v) (-6) I5 L6 c7))) := by
  have T : Int32.toNatClampNeg (nI 3) = 3 := rfl
  rcases hw with ⟨e1, e2⟩ | ⟨n, s, hn, hs, e1, e2, e3, e4, e5⟩
  · refine j_missT41 e1 (bt (e_M_put (m_0t (n := 3) rfl (by omega) (by omega) (bt ⟨vp_in_nI (by omega) (by omega), br_t ?_ (fin hI rfl kT)⟩))))
    rw [T]; exact e2
  · refine j_missF41 e1 hn (bf ?_)
    rw [e1]
    have ne : ¬ I 71 3 = -1 := by rw [e4]; exact nIm1 (by omega)
    rcases inR y n (by omega) with ⟨i, hi, rfl⟩ | hy
    · refine br_f (nI_pos (by omega)) (br_t (nI_lt hi (by omega)) (j_set41 hs e3 e1 hn hi ?_))
      refine e_M_put (m_0t (n := 3) rfl (by omega) (by omega) (bt ⟨vp_in_nI (by omega) (by omega), br_f ?_ ⟨vp_in_nI (by omega) (by omega), ?_⟩⟩))
      · rw [T]; exact ne
      rw [T, show (gm_u I 59 0 0) 72 3 = nI n from e2]
      refine m_nt hi (by omega) (bt ⟨vp_in_nI (by omega) (by omega), ?_⟩)
      rw [show (gm_u I 59 0 0) 71 3 = nI s from e4]
      obtain ⟨a1, a2⟩ := i40 3 i (by omega) (by omega)
      refine m_cut hs ⟨a1, a1, ?_⟩
      rw [a2, gm_u_eq]
      refine ⟨rfl, hI.setR41 (KO.u rfl KO.rf) ⟨rfl, rfl, rfl⟩ (fun q hq => ⟨rfl, rfl⟩) (KO.u rfl (KO.u rfl KO.rf)) (fun q k hq hk => ?_) (Or.inr ⟨n, s, hn, hs, e1, e2, e3, e4, fun k hk => ?_⟩)⟩
      · rw [gm_u_ne2 _ _ _ _ (by omega)]; rfl
      · rw [gm_u_ne _ _ _ (by omega)]
        by_cases q : k = i
        · subst q
          rw [gm_u_eq, gm_u_eq]
        · rw [gm_u_ne2 _ _ _ _ q, gm_u_ne2 _ _ _ _ (by omega)]
          exact e5 k hk
    · have M : mQ (C_M_put g (nI 3) y v) (-7) I L c := by
        refine e_M_put (m_0t (n := 3) rfl (by omega) (by omega) (bt ⟨vp_in_nI (by omega) (by omega), br_f ?_ ⟨vp_in_nI (by omega) (by omega), ?_⟩⟩))
        · rw [T]; exact ne
        rw [T, show (gm_u I 59 0 0) 72 3 = nI n from e2]
        exact m_nf (by omega) hy (bf (fin hI rfl kT))
      refine br_c (fun _ => M) (fun q => br_f (fun w => ?_) M)
      have hy' := hy.resolve_left q
      rw [Int32.lt_iff_toInt_lt] at w
      rw [Int32.le_iff_toInt_le] at hy'
      omega
theorem P_put {x y : Int32} {v : Int64} (hI : Inv I L c) : C_J_put g x y v I L c (mQ (C_M_put g x y v)) := by
  obtain ⟨w0, w1, w2, w3⟩ := hI.2.2.2.1
  rcases inR x 4 (by omega) with ⟨r, hr, rfl⟩ | hx
  · refine e_J_put (j_isRowT hr (bt ⟨vp_in_nI hr (by omega), ?_⟩))
    match r, hr with
    | 0, _ => exact ⟨fun _ => n_put35 hI w0, fun z => absurd z (by decide), fun z => absurd z (by decide), fun z => absurd z (by decide)⟩
    | 1, _ => exact ⟨fun z => absurd z (by decide), fun _ => n_put37 hI w1, fun z => absurd z (by decide), fun z => absurd z (by decide)⟩
    | 2, _ => exact ⟨fun z => absurd z (by decide), fun z => absurd z (by decide), fun _ => n_put39 hI w2, fun z => absurd z (by decide)⟩
    | 3, _ => exact ⟨fun z => absurd z (by decide), fun z => absurd z (by decide), fun z => absurd z (by decide), fun _ => n_put41 hI w3⟩
  · exact e_J_put (j_isRowF hx (bf (e_M_put (m_0f (n := 3) rfl (by omega) hx (bf (fin hI rfl kT))))))
theorem n_copy35 (hI : Inv I L c) (hw : RW I L 35 36 0) : C_Ro35_isMissing g I L c (fun b8 I5 L6 c7 => ((b8 = false → Z_J_copy g (mQ (C_M_copy g (nI 0))) 45 [(0, .ref 0), (1, .int 0), (2, .ref 35), (3, .int ((if (I5 20 2) < (I5 35 1) then (I5 20 2) else (I5 35 1)) : Int32)), (4, .int 0)] [] I5 L6 c7) ∧ (b8 = true → mQ (C_M_copy g (nI 0)) (-6) I5 L6 c7))) := by
  have T : Int32.toNatClampNeg (nI 0) = 0 := rfl
  have h : FS0 I := hI.1
  have hT : FM (gm_u I 59 0 0) := FM.k (FS0.m h) (kT (L := L))
  have hG := fG h
  rcases hw with ⟨e1, e2⟩ | ⟨n, s, hn, hs, e1, e2, e3, e4, e5⟩
  · refine j_missT35 e1 (bt (e_M_copy (m_0t (n := 3) rfl (by omega) (by omega) (bt ⟨vp_in_nI (by omega) (by omega), br_t ?_ (fin hI rfl kT)⟩))))
    rw [T]; exact e2
  · refine j_missF35 e1 hn (bf ?_)
    have ne : ¬ I 71 0 = -1 := by rw [e4]; exact nIm1 (by omega)
    obtain ⟨m, em⟩ : ∃ m, m = (if nv I 1 < n then nv I 1 else n) := ⟨_, rfl⟩
    have m1 : m ≤ n ∧ m ≤ nv I 1 := by rw [em]; split <;> omega
    have eJ : (if (I 20 2) < (I 35 1) then (I 20 2) else (I 35 1) : Int32) = nI m := by
      rw [hG.2.2, e1, em]
      by_cases q : nv I 1 < n
      · rw [if_pos q, if_pos (nI_lt q (by omega))]
      · rw [if_neg q, if_neg (nI_nlt (by omega) (by omega))]
    rw [eJ]
    let f : Nat → Int64 := fun i => ct s (Int32.toInt64 (nI (nu I i)))
    have M : mQ (C_M_copy g (nI 0)) (nI m) I (fl L 36 0 f m) c := by
      have key : Z_M_copy g (fun r' I2 L2 c2 => nI m = r' ∧ Inv I2 L2 c2) 66 [(0, .ref 59), (1, .int (nI 0)), (2, .int (nI m)), (3, .int (nI 0))] [] (gm_u I 59 0 0) (fl (fl L 36 0 f m) 73 (40 * 0) f 0) c := by
        refine lp0 (P := fun i => Z_M_copy g (fun r' I2 L2 c2 => nI m = r' ∧ Inv I2 L2 c2) 66 [(0, .ref 59), (1, .int (nI 0)), (2, .int (nI m)), (3, .int (nI i))] [] (gm_u I 59 0 0) (fl (fl L 36 0 f m) 73 (40 * 0) f i) c) m ?_ ?_
        · refine r_M_copy_66 (br_t (nI_le (Nat.le_refl _) (by omega)) ⟨rfl, hI.setR35 (KO.u rfl KO.rf) ⟨rfl, rfl, rfl⟩ (fun q hq => ⟨rfl, rfl⟩) (KO.fl rfl (KO.fl rfl KO.rf)) (fun q k hq hk => ?_) (Or.inr ⟨n, s, hn, hs, e1, e2, e3, e4, fun k hk => ?_⟩)⟩)
          · rw [fl_out (by omega), fl_ne (by omega)]
          · rw [fl_ne (by omega)]
            by_cases q : k < m
            · rw [fl_in q]
              have := fl_in (L := L) (p := 36) (a := 0) (f := f) (i := m) (k := k) q
              rw [Nat.zero_add] at this
              exact this
            · rw [fl_out (by omega), fl_out (by omega), fl_ne (by omega)]
              exact e5 k hk
        · intro i hi ih
          obtain ⟨a1, a2⟩ := i40 0 i (by omega) (by omega)
          refine r_M_copy_66 (br_f (nI_ge hi (by omega)) (m_numberOf hT (show i < nv I 1 by omega) ⟨vp_in_nI (by omega) (by omega), ?_⟩))
          rw [T, show (gm_u I 59 0 0) 71 0 = nI s from e4]
          refine m_cut hs ⟨a1, ?_⟩
          rw [a2, nI_1]
          have := fl_s (fl L 36 0 f m) 73 (40 * 0) f i
          rw [← this] at ih
          exact ih
      rw [fl_0] at key
      refine e_M_copy (m_0t (n := 3) rfl (by omega) (by omega) (bt ⟨vp_in_nI (by omega) (by omega), br_f ?_ ⟨vp_in_nI (by omega) (by omega), ?_⟩⟩))
      · rw [T]; exact ne
      rw [T, show (gm_u I 59 0 0) 72 0 = nI n from e2, show (gm_u I 59 0 0) 60 1 = nI (nv I 1) from hG.1]
      refine pk_le n (nv I 1) (fun z => ⟨vp_in_nI (by omega) (by omega), ?_⟩) (fun z => ?_)
      · rw [show n = m by rw [em, if_neg (by omega)]]
        exact key
      · rw [show nv I 1 = m by rw [em, if_pos z]]
        exact key
    have key : Z_J_copy g (mQ (C_M_copy g (nI 0))) 45 [(0, .ref 0), (1, .int 0), (2, .ref 35), (3, .int (nI m)), (4, .int (nI 0))] [] I (fl L 36 0 f 0) c := by
      refine lp0 (P := fun i => Z_J_copy g (mQ (C_M_copy g (nI 0))) 45 [(0, .ref 0), (1, .int 0), (2, .ref 35), (3, .int (nI m)), (4, .int (nI i))] [] I (fl L 36 0 f i) c) m ?_ ?_
      · exact r_J_copy_45_35 (br_t (nI_le (Nat.le_refl _) (by omega)) M)
      · intro i hi ih
        refine r_J_copy_45_35 (br_f (nI_ge hi (by omega)) ⟨vp_in_nI (by omega) (by omega), ?_⟩)
        rw [nI_clamp (by omega), (fNu h (show i < nv I 1 by omega)).1.2.2]
        refine j_set35 hs e3 e1 hn (by omega) ?_
        rw [nI_1]
        have := fl_s L 36 0 f i
        rw [Nat.zero_add] at this
        rw [← this] at ih
        exact ih
    rw [fl_0] at key
    exact key
theorem n_copy37 (hI : Inv I L c) (hw : RW I L 37 38 1) : C_Ro37_isMissing g I L c (fun b8 I5 L6 c7 => ((b8 = false → Z_J_copy g (mQ (C_M_copy g (nI 1))) 45 [(0, .ref 0), (1, .int 1), (2, .ref 37), (3, .int ((if (I5 20 2) < (I5 37 1) then (I5 20 2) else (I5 37 1)) : Int32)), (4, .int 0)] [] I5 L6 c7) ∧ (b8 = true → mQ (C_M_copy g (nI 1)) (-6) I5 L6 c7))) := by
  have T : Int32.toNatClampNeg (nI 1) = 1 := rfl
  have h : FS0 I := hI.1
  have hT : FM (gm_u I 59 0 0) := FM.k (FS0.m h) (kT (L := L))
  have hG := fG h
  rcases hw with ⟨e1, e2⟩ | ⟨n, s, hn, hs, e1, e2, e3, e4, e5⟩
  · refine j_missT37 e1 (bt (e_M_copy (m_0t (n := 3) rfl (by omega) (by omega) (bt ⟨vp_in_nI (by omega) (by omega), br_t ?_ (fin hI rfl kT)⟩))))
    rw [T]; exact e2
  · refine j_missF37 e1 hn (bf ?_)
    have ne : ¬ I 71 1 = -1 := by rw [e4]; exact nIm1 (by omega)
    obtain ⟨m, em⟩ : ∃ m, m = (if nv I 1 < n then nv I 1 else n) := ⟨_, rfl⟩
    have m1 : m ≤ n ∧ m ≤ nv I 1 := by rw [em]; split <;> omega
    have eJ : (if (I 20 2) < (I 37 1) then (I 20 2) else (I 37 1) : Int32) = nI m := by
      rw [hG.2.2, e1, em]
      by_cases q : nv I 1 < n
      · rw [if_pos q, if_pos (nI_lt q (by omega))]
      · rw [if_neg q, if_neg (nI_nlt (by omega) (by omega))]
    rw [eJ]
    let f : Nat → Int64 := fun i => ct s (Int32.toInt64 (nI (nu I i)))
    have M : mQ (C_M_copy g (nI 1)) (nI m) I (fl L 38 0 f m) c := by
      have key : Z_M_copy g (fun r' I2 L2 c2 => nI m = r' ∧ Inv I2 L2 c2) 66 [(0, .ref 59), (1, .int (nI 1)), (2, .int (nI m)), (3, .int (nI 0))] [] (gm_u I 59 0 0) (fl (fl L 38 0 f m) 73 (40 * 1) f 0) c := by
        refine lp0 (P := fun i => Z_M_copy g (fun r' I2 L2 c2 => nI m = r' ∧ Inv I2 L2 c2) 66 [(0, .ref 59), (1, .int (nI 1)), (2, .int (nI m)), (3, .int (nI i))] [] (gm_u I 59 0 0) (fl (fl L 38 0 f m) 73 (40 * 1) f i) c) m ?_ ?_
        · refine r_M_copy_66 (br_t (nI_le (Nat.le_refl _) (by omega)) ⟨rfl, hI.setR37 (KO.u rfl KO.rf) ⟨rfl, rfl, rfl⟩ (fun q hq => ⟨rfl, rfl⟩) (KO.fl rfl (KO.fl rfl KO.rf)) (fun q k hq hk => ?_) (Or.inr ⟨n, s, hn, hs, e1, e2, e3, e4, fun k hk => ?_⟩)⟩)
          · rw [fl_out (by omega), fl_ne (by omega)]
          · rw [fl_ne (by omega)]
            by_cases q : k < m
            · rw [fl_in q]
              have := fl_in (L := L) (p := 38) (a := 0) (f := f) (i := m) (k := k) q
              rw [Nat.zero_add] at this
              exact this
            · rw [fl_out (by omega), fl_out (by omega), fl_ne (by omega)]
              exact e5 k hk
        · intro i hi ih
          obtain ⟨a1, a2⟩ := i40 1 i (by omega) (by omega)
          refine r_M_copy_66 (br_f (nI_ge hi (by omega)) (m_numberOf hT (show i < nv I 1 by omega) ⟨vp_in_nI (by omega) (by omega), ?_⟩))
          rw [T, show (gm_u I 59 0 0) 71 1 = nI s from e4]
          refine m_cut hs ⟨a1, ?_⟩
          rw [a2, nI_1]
          have := fl_s (fl L 38 0 f m) 73 (40 * 1) f i
          rw [← this] at ih
          exact ih
      rw [fl_0] at key
      refine e_M_copy (m_0t (n := 3) rfl (by omega) (by omega) (bt ⟨vp_in_nI (by omega) (by omega), br_f ?_ ⟨vp_in_nI (by omega) (by omega), ?_⟩⟩))
      · rw [T]; exact ne
      rw [T, show (gm_u I 59 0 0) 72 1 = nI n from e2, show (gm_u I 59 0 0) 60 1 = nI (nv I 1) from hG.1]
      refine pk_le n (nv I 1) (fun z => ⟨vp_in_nI (by omega) (by omega), ?_⟩) (fun z => ?_)
      · rw [show n = m by rw [em, if_neg (by omega)]]
        exact key
      · rw [show nv I 1 = m by rw [em, if_pos z]]
        exact key
    have key : Z_J_copy g (mQ (C_M_copy g (nI 1))) 45 [(0, .ref 0), (1, .int 1), (2, .ref 37), (3, .int (nI m)), (4, .int (nI 0))] [] I (fl L 38 0 f 0) c := by
      refine lp0 (P := fun i => Z_J_copy g (mQ (C_M_copy g (nI 1))) 45 [(0, .ref 0), (1, .int 1), (2, .ref 37), (3, .int (nI m)), (4, .int (nI i))] [] I (fl L 38 0 f i) c) m ?_ ?_
      · exact r_J_copy_45_37 (br_t (nI_le (Nat.le_refl _) (by omega)) M)
      · intro i hi ih
        refine r_J_copy_45_37 (br_f (nI_ge hi (by omega)) ⟨vp_in_nI (by omega) (by omega), ?_⟩)
        rw [nI_clamp (by omega), (fNu h (show i < nv I 1 by omega)).1.2.2]
        refine j_set37 hs e3 e1 hn (by omega) ?_
        rw [nI_1]
        have := fl_s L 38 0 f i
        rw [Nat.zero_add] at this
        rw [← this] at ih
        exact ih
    rw [fl_0] at key
    exact key
theorem n_copy39 (hI : Inv I L c) (hw : RW I L 39 40 2) : C_Ro39_isMissing g I L c (fun b8 I5 L6 c7 => ((b8 = false → Z_J_copy g (mQ (C_M_copy g (nI 2))) 45 [(0, .ref 0), (1, .int 2), (2, .ref 39), (3, .int ((if (I5 20 2) < (I5 39 1) then (I5 20 2) else (I5 39 1)) : Int32)), (4, .int 0)] [] I5 L6 c7) ∧ (b8 = true → mQ (C_M_copy g (nI 2)) (-6) I5 L6 c7))) := by
  have T : Int32.toNatClampNeg (nI 2) = 2 := rfl
  have h : FS0 I := hI.1
  have hT : FM (gm_u I 59 0 0) := FM.k (FS0.m h) (kT (L := L))
  have hG := fG h
  rcases hw with ⟨e1, e2⟩ | ⟨n, s, hn, hs, e1, e2, e3, e4, e5⟩
  · refine j_missT39 e1 (bt (e_M_copy (m_0t (n := 3) rfl (by omega) (by omega) (bt ⟨vp_in_nI (by omega) (by omega), br_t ?_ (fin hI rfl kT)⟩))))
    rw [T]; exact e2
  · refine j_missF39 e1 hn (bf ?_)
    have ne : ¬ I 71 2 = -1 := by rw [e4]; exact nIm1 (by omega)
    obtain ⟨m, em⟩ : ∃ m, m = (if nv I 1 < n then nv I 1 else n) := ⟨_, rfl⟩
    have m1 : m ≤ n ∧ m ≤ nv I 1 := by rw [em]; split <;> omega
    have eJ : (if (I 20 2) < (I 39 1) then (I 20 2) else (I 39 1) : Int32) = nI m := by
      rw [hG.2.2, e1, em]
      by_cases q : nv I 1 < n
      · rw [if_pos q, if_pos (nI_lt q (by omega))]
      · rw [if_neg q, if_neg (nI_nlt (by omega) (by omega))]
    rw [eJ]
    let f : Nat → Int64 := fun i => ct s (Int32.toInt64 (nI (nu I i)))
    have M : mQ (C_M_copy g (nI 2)) (nI m) I (fl L 40 0 f m) c := by
      have key : Z_M_copy g (fun r' I2 L2 c2 => nI m = r' ∧ Inv I2 L2 c2) 66 [(0, .ref 59), (1, .int (nI 2)), (2, .int (nI m)), (3, .int (nI 0))] [] (gm_u I 59 0 0) (fl (fl L 40 0 f m) 73 (40 * 2) f 0) c := by
        refine lp0 (P := fun i => Z_M_copy g (fun r' I2 L2 c2 => nI m = r' ∧ Inv I2 L2 c2) 66 [(0, .ref 59), (1, .int (nI 2)), (2, .int (nI m)), (3, .int (nI i))] [] (gm_u I 59 0 0) (fl (fl L 40 0 f m) 73 (40 * 2) f i) c) m ?_ ?_
        · refine r_M_copy_66 (br_t (nI_le (Nat.le_refl _) (by omega)) ⟨rfl, hI.setR39 (KO.u rfl KO.rf) ⟨rfl, rfl, rfl⟩ (fun q hq => ⟨rfl, rfl⟩) (KO.fl rfl (KO.fl rfl KO.rf)) (fun q k hq hk => ?_) (Or.inr ⟨n, s, hn, hs, e1, e2, e3, e4, fun k hk => ?_⟩)⟩)
          · rw [fl_out (by omega), fl_ne (by omega)]
          · rw [fl_ne (by omega)]
            by_cases q : k < m
            · rw [fl_in q]
              have := fl_in (L := L) (p := 40) (a := 0) (f := f) (i := m) (k := k) q
              rw [Nat.zero_add] at this
              exact this
            · rw [fl_out (by omega), fl_out (by omega), fl_ne (by omega)]
              exact e5 k hk
        · intro i hi ih
          obtain ⟨a1, a2⟩ := i40 2 i (by omega) (by omega)
          refine r_M_copy_66 (br_f (nI_ge hi (by omega)) (m_numberOf hT (show i < nv I 1 by omega) ⟨vp_in_nI (by omega) (by omega), ?_⟩))
          rw [T, show (gm_u I 59 0 0) 71 2 = nI s from e4]
          refine m_cut hs ⟨a1, ?_⟩
          rw [a2, nI_1]
          have := fl_s (fl L 40 0 f m) 73 (40 * 2) f i
          rw [← this] at ih
          exact ih
      rw [fl_0] at key
      refine e_M_copy (m_0t (n := 3) rfl (by omega) (by omega) (bt ⟨vp_in_nI (by omega) (by omega), br_f ?_ ⟨vp_in_nI (by omega) (by omega), ?_⟩⟩))
      · rw [T]; exact ne
      rw [T, show (gm_u I 59 0 0) 72 2 = nI n from e2, show (gm_u I 59 0 0) 60 1 = nI (nv I 1) from hG.1]
      refine pk_le n (nv I 1) (fun z => ⟨vp_in_nI (by omega) (by omega), ?_⟩) (fun z => ?_)
      · rw [show n = m by rw [em, if_neg (by omega)]]
        exact key
      · rw [show nv I 1 = m by rw [em, if_pos z]]
        exact key
    have key : Z_J_copy g (mQ (C_M_copy g (nI 2))) 45 [(0, .ref 0), (1, .int 2), (2, .ref 39), (3, .int (nI m)), (4, .int (nI 0))] [] I (fl L 40 0 f 0) c := by
      refine lp0 (P := fun i => Z_J_copy g (mQ (C_M_copy g (nI 2))) 45 [(0, .ref 0), (1, .int 2), (2, .ref 39), (3, .int (nI m)), (4, .int (nI i))] [] I (fl L 40 0 f i) c) m ?_ ?_
      · exact r_J_copy_45_39 (br_t (nI_le (Nat.le_refl _) (by omega)) M)
      · intro i hi ih
        refine r_J_copy_45_39 (br_f (nI_ge hi (by omega)) ⟨vp_in_nI (by omega) (by omega), ?_⟩)
        rw [nI_clamp (by omega), (fNu h (show i < nv I 1 by omega)).1.2.2]
        refine j_set39 hs e3 e1 hn (by omega) ?_
        rw [nI_1]
        have := fl_s L 40 0 f i
        rw [Nat.zero_add] at this
        rw [← this] at ih
        exact ih
    rw [fl_0] at key
    exact key
theorem n_copy41 (hI : Inv I L c) (hw : RW I L 41 42 3) : C_Ro41_isMissing g I L c (fun b8 I5 L6 c7 => ((b8 = false → Z_J_copy g (mQ (C_M_copy g (nI 3))) 45 [(0, .ref 0), (1, .int 3), (2, .ref 41), (3, .int ((if (I5 20 2) < (I5 41 1) then (I5 20 2) else (I5 41 1)) : Int32)), (4, .int 0)] [] I5 L6 c7) ∧ (b8 = true → mQ (C_M_copy g (nI 3)) (-6) I5 L6 c7))) := by
  have T : Int32.toNatClampNeg (nI 3) = 3 := rfl
  have h : FS0 I := hI.1
  have hT : FM (gm_u I 59 0 0) := FM.k (FS0.m h) (kT (L := L))
  have hG := fG h
  rcases hw with ⟨e1, e2⟩ | ⟨n, s, hn, hs, e1, e2, e3, e4, e5⟩
  · refine j_missT41 e1 (bt (e_M_copy (m_0t (n := 3) rfl (by omega) (by omega) (bt ⟨vp_in_nI (by omega) (by omega), br_t ?_ (fin hI rfl kT)⟩))))
    rw [T]; exact e2
  · refine j_missF41 e1 hn (bf ?_)
    have ne : ¬ I 71 3 = -1 := by rw [e4]; exact nIm1 (by omega)
    obtain ⟨m, em⟩ : ∃ m, m = (if nv I 1 < n then nv I 1 else n) := ⟨_, rfl⟩
    have m1 : m ≤ n ∧ m ≤ nv I 1 := by rw [em]; split <;> omega
    have eJ : (if (I 20 2) < (I 41 1) then (I 20 2) else (I 41 1) : Int32) = nI m := by
      rw [hG.2.2, e1, em]
      by_cases q : nv I 1 < n
      · rw [if_pos q, if_pos (nI_lt q (by omega))]
      · rw [if_neg q, if_neg (nI_nlt (by omega) (by omega))]
    rw [eJ]
    let f : Nat → Int64 := fun i => ct s (Int32.toInt64 (nI (nu I i)))
    have M : mQ (C_M_copy g (nI 3)) (nI m) I (fl L 42 0 f m) c := by
      have key : Z_M_copy g (fun r' I2 L2 c2 => nI m = r' ∧ Inv I2 L2 c2) 66 [(0, .ref 59), (1, .int (nI 3)), (2, .int (nI m)), (3, .int (nI 0))] [] (gm_u I 59 0 0) (fl (fl L 42 0 f m) 73 (40 * 3) f 0) c := by
        refine lp0 (P := fun i => Z_M_copy g (fun r' I2 L2 c2 => nI m = r' ∧ Inv I2 L2 c2) 66 [(0, .ref 59), (1, .int (nI 3)), (2, .int (nI m)), (3, .int (nI i))] [] (gm_u I 59 0 0) (fl (fl L 42 0 f m) 73 (40 * 3) f i) c) m ?_ ?_
        · refine r_M_copy_66 (br_t (nI_le (Nat.le_refl _) (by omega)) ⟨rfl, hI.setR41 (KO.u rfl KO.rf) ⟨rfl, rfl, rfl⟩ (fun q hq => ⟨rfl, rfl⟩) (KO.fl rfl (KO.fl rfl KO.rf)) (fun q k hq hk => ?_) (Or.inr ⟨n, s, hn, hs, e1, e2, e3, e4, fun k hk => ?_⟩)⟩)
          · rw [fl_out (by omega), fl_ne (by omega)]
          · rw [fl_ne (by omega)]
            by_cases q : k < m
            · rw [fl_in q]
              have := fl_in (L := L) (p := 42) (a := 0) (f := f) (i := m) (k := k) q
              rw [Nat.zero_add] at this
              exact this
            · rw [fl_out (by omega), fl_out (by omega), fl_ne (by omega)]
              exact e5 k hk
        · intro i hi ih
          obtain ⟨a1, a2⟩ := i40 3 i (by omega) (by omega)
          refine r_M_copy_66 (br_f (nI_ge hi (by omega)) (m_numberOf hT (show i < nv I 1 by omega) ⟨vp_in_nI (by omega) (by omega), ?_⟩))
          rw [T, show (gm_u I 59 0 0) 71 3 = nI s from e4]
          refine m_cut hs ⟨a1, ?_⟩
          rw [a2, nI_1]
          have := fl_s (fl L 42 0 f m) 73 (40 * 3) f i
          rw [← this] at ih
          exact ih
      rw [fl_0] at key
      refine e_M_copy (m_0t (n := 3) rfl (by omega) (by omega) (bt ⟨vp_in_nI (by omega) (by omega), br_f ?_ ⟨vp_in_nI (by omega) (by omega), ?_⟩⟩))
      · rw [T]; exact ne
      rw [T, show (gm_u I 59 0 0) 72 3 = nI n from e2, show (gm_u I 59 0 0) 60 1 = nI (nv I 1) from hG.1]
      refine pk_le n (nv I 1) (fun z => ⟨vp_in_nI (by omega) (by omega), ?_⟩) (fun z => ?_)
      · rw [show n = m by rw [em, if_neg (by omega)]]
        exact key
      · rw [show nv I 1 = m by rw [em, if_pos z]]
        exact key
    have key : Z_J_copy g (mQ (C_M_copy g (nI 3))) 45 [(0, .ref 0), (1, .int 3), (2, .ref 41), (3, .int (nI m)), (4, .int (nI 0))] [] I (fl L 42 0 f 0) c := by
      refine lp0 (P := fun i => Z_J_copy g (mQ (C_M_copy g (nI 3))) 45 [(0, .ref 0), (1, .int 3), (2, .ref 41), (3, .int (nI m)), (4, .int (nI i))] [] I (fl L 42 0 f i) c) m ?_ ?_
      · exact r_J_copy_45_41 (br_t (nI_le (Nat.le_refl _) (by omega)) M)
      · intro i hi ih
        refine r_J_copy_45_41 (br_f (nI_ge hi (by omega)) ⟨vp_in_nI (by omega) (by omega), ?_⟩)
        rw [nI_clamp (by omega), (fNu h (show i < nv I 1 by omega)).1.2.2]
        refine j_set41 hs e3 e1 hn (by omega) ?_
        rw [nI_1]
        have := fl_s L 42 0 f i
        rw [Nat.zero_add] at this
        rw [← this] at ih
        exact ih
    rw [fl_0] at key
    exact key
theorem P_copy {x : Int32} (hI : Inv I L c) : C_J_copy g x I L c (mQ (C_M_copy g x)) := by
  obtain ⟨w0, w1, w2, w3⟩ := hI.2.2.2.1
  rcases inR x 4 (by omega) with ⟨r, hr, rfl⟩ | hx
  · refine e_J_copy (j_isRowT hr (bt ⟨vp_in_nI hr (by omega), ?_⟩))
    match r, hr with
    | 0, _ => exact ⟨fun _ => n_copy35 hI w0, fun z => absurd z (by decide), fun z => absurd z (by decide), fun z => absurd z (by decide)⟩
    | 1, _ => exact ⟨fun z => absurd z (by decide), fun _ => n_copy37 hI w1, fun z => absurd z (by decide), fun z => absurd z (by decide)⟩
    | 2, _ => exact ⟨fun z => absurd z (by decide), fun z => absurd z (by decide), fun _ => n_copy39 hI w2, fun z => absurd z (by decide)⟩
    | 3, _ => exact ⟨fun z => absurd z (by decide), fun z => absurd z (by decide), fun z => absurd z (by decide), fun _ => n_copy41 hI w3⟩
  · exact e_J_copy (j_isRowF hx (bf (e_M_copy (m_0f (n := 3) rfl (by omega) hx (bf (fin hI rfl kT))))))
/-! images -/
theorem m_image {Q : Int32 → mI → mL → gm_cfg → Prop} {r : Nat} (hr : r < 2) (hq : Q 0 (gm_u (fl (gm_u I 59 0 0) 60 (110 * (r + 1)) (I 60) 110) 61 r 1) L c) : C_M_image g (nI r) I L c Q := by
  refine e_M_image (m_0t (n := 1) rfl (by omega) (by omega) (bt ?_))
  have key : Z_M_image g Q 20 [(0, .ref 59), (1, .int (nI r)), (2, .int (nI 0))] [] (fl (gm_u I 59 0 0) 60 (110 * (r + 1)) (I 60) 0) L c := by
    refine lp0 (P := fun i => Z_M_image g Q 20 [(0, .ref 59), (1, .int (nI r)), (2, .int (nI i))] [] (fl (gm_u I 59 0 0) 60 (110 * (r + 1)) (I 60) i) L c) 110 ?_ ?_
    · refine r_M_image_20 (br_t (by decide) ⟨vp_in_nI hr (by omega), ?_⟩)
      rw [nI_clamp (by omega)]
      exact hq
    · intro i hi ih
      have e : (110 * (nI r + 1) + nI i : Int32) = nI (110 * (r + 1) + i) := by
        rw [nI_1, show (110 * nI (r + 1) : Int32) = nI 110 * nI (r + 1) from rfl, pk_mul, nI_add]
      refine r_M_image_20 (br_f (nI_ge (b := 110) hi (by omega)) ⟨vp_in_nI (by omega) (by omega), by rw [e]; exact vp_in_nI (by omega) (by omega), ?_⟩)
      rw [e, nI_clamp (by omega), nI_clamp (by omega), nI_1, fl_out (by omega)]
      have := fl_s (gm_u I 59 0 0) 60 (110 * (r + 1)) (I 60) i
      rw [← this] at ih
      exact ih
  rw [fl_0] at key
  exact key
theorem m_restore {Q : Int32 → mI → mL → gm_cfg → Prop} {r : Nat} (hr : r < 2) (h61 : ¬ I 61 r = 0) (hq : Q 0 (fl (gm_u I 59 0 0) 60 0 (fun k => I 60 (110 * (r + 1) + k)) 110) L c) : C_M_restore g (nI r) I L c Q := by
  refine e_M_restore (m_0t (n := 1) rfl (by omega) (by omega) (bt ⟨vp_in_nI hr (by omega), br_f (by rw [nI_clamp (by omega)]; exact h61) ?_⟩))
  have key : Z_M_restore g Q 32 [(0, .ref 59), (1, .int (nI r)), (2, .int (nI 0))] [] (fl (gm_u I 59 0 0) 60 0 (fun k => I 60 (110 * (r + 1) + k)) 0) L c := by
    refine lp0 (P := fun i => Z_M_restore g Q 32 [(0, .ref 59), (1, .int (nI r)), (2, .int (nI i))] [] (fl (gm_u I 59 0 0) 60 0 (fun k => I 60 (110 * (r + 1) + k)) i) L c) 110 ?_ ?_
    · exact r_M_restore_32 (br_t (by decide) hq)
    · intro i hi ih
      have e : (110 * (nI r + 1) + nI i : Int32) = nI (110 * (r + 1) + i) := by
        rw [nI_1, show (110 * nI (r + 1) : Int32) = nI 110 * nI (r + 1) from rfl, pk_mul, nI_add]
      refine r_M_restore_32 (br_f (nI_ge (b := 110) hi (by omega)) ⟨by rw [e]; exact vp_in_nI (by omega) (by omega), vp_in_nI (by omega) (by omega), ?_⟩)
      rw [e, nI_clamp (by omega), nI_clamp (by omega), nI_1, fl_out (by omega)]
      have := fl_s (gm_u I 59 0 0) 60 0 (fun k => I 60 (110 * (r + 1) + k)) i
      rw [Nat.zero_add] at this
      rw [← this] at ih
      exact ih
  rw [fl_0] at key
  exact key
theorem m_isImT {Q : Bool → mI → mL → gm_cfg → Prop} {r : Nat} (hr : r < 2) (hq : Q true I L c) : C_J_isImage g (nI r) I L c Q :=
  e_J_isImage (br_f (nI_pos (by omega)) (br_f (nI_ge (b := 2) hr (by omega)) hq))
theorem m_isImF {Q : Bool → mI → mL → gm_cfg → Prop} {x : Int32} (hx : x < 0 ∨ nI 2 ≤ x) (hq : Q false I L c) : C_J_isImage g x I L c Q :=
  e_J_isImage (br_c (fun _ => hq) (fun z => br_t (hx.resolve_left z) hq))
theorem cpy0 {α : Type} (f f' : Nat → α) (n : Int32) {k : Nat} (h : k < n.toNatClampNeg) : va_cpy f f' (Int32.toNatClampNeg 0) (Int32.toNatClampNeg 0) n.toNatClampNeg k = f k := by
  rw [show Int32.toNatClampNeg 0 = 0 from rfl, pk_cpy_in (by omega) (by omega)]
  congr 1; omega
theorem gz {x : Int32} (h : x = 0 ∨ x = 1) : gm_z x := by
  rcases h with rfl | rfl
  · exact ⟨rfl, rfl⟩
  · exact ⟨rfl, rfl⟩
theorem FS0.z (h : FS0 I) : gm_z (I 16 2) ∧ gm_z (I 16 9) := by
  constructor
  · rcases fPri h with q | q
    · exact gz (Or.inl q.1)
    · exact gz (Or.inr q.1)
  · have hh := fHd h
    rw [hh.2.2]
    rcases Nat.eq_zero_or_pos (nv I 7) with e | e
    · rw [e]; exact gz (Or.inl rfl)
    · rw [show nv I 7 = 1 by omega]; exact gz (Or.inr rfl)
theorem n_image43 (hI : Inv I L c) : C_Fe44_takeFrom_16 g I L c (fun I5 L6 c7 => (C_Sh48_takeFrom_20 g I5 L6 c7 (fun I8 L9 c10 => mQ (C_M_image g (nI 0)) 0 (gm_u I8 43 2 1) L9 c10))) := by
  have h : FS0 I := hI.1
  refine e_Fe44_takeFrom_16 ⟨(FS0.z h).1, (FS0.z h).2, e_Sh48_takeFrom_20 (m_image (by omega) ⟨rfl, ?_⟩)⟩
  obtain ⟨f0, t0, x0, ⟨r0, r1, r2, r3⟩, ⟨m0, m1⟩, cf⟩ := hI
  have K : ∀ {J : mI}, KO (fun o => o == 7 || o == 0 || o == 1 || o == 6 || (16 ≤ o && o ≤ 22) || o == 35 || o == 37 || o == 39 || o == 41 || o == 51 || o == 52 || o == 53 || o == 54 || o == 55 || o == 56 || o == 57 || o == 58 || o == 62 || o == 71 || o == 72) I J → (∀ k, k < 110 → J 60 k = I 60 k ∧ J 60 (110 * (1 + 1) + k) = I 60 (110 * (1 + 1) + k)) → J 61 1 = I 61 1 → J 59 5 = I 59 5 → J 59 13 = I 59 13 → J 59 14 = I 59 14 → IM J 43 44 45 46 47 48 49 50 0 → Inv J L c := by
    intro J R e60 e61 e5 e13 e14 hm
    refine ⟨FS_sm (fun k hk => by rw [Nat.zero_add]; exact (e60 k hk).1) (R 16 rfl) (R 17 rfl) (R 18 rfl) (R 19 rfl) (R 20 rfl) (R 21 rfl) (R 22 rfl) f0, TP_congr (by rw [R 0 rfl]) (R 1 rfl) e5 (R 62 rfl) t0, ⟨by rw [R 6 rfl, e13]; exact x0.1, by rw [R 6 rfl, e14]; exact x0.2⟩, ⟨RW_congr (R 35 rfl) (R 71 rfl) (R 72 rfl) rfl rfl r0, RW_congr (R 37 rfl) (R 71 rfl) (R 72 rfl) rfl rfl r1, RW_congr (R 39 rfl) (R 71 rfl) (R 72 rfl) rfl rfl r2, RW_congr (R 41 rfl) (R 71 rfl) (R 72 rfl) rfl rfl r3⟩, ⟨hm, IM_c (R 51 rfl) e61 (fun k hk => (e60 k hk).2) (R 52 rfl) (R 53 rfl) (R 54 rfl) (R 55 rfl) (R 56 rfl) (R 57 rfl) (R 58 rfl) m1⟩, cf.1, SZ_k (R 7 rfl) cf.2.1, cf.2.2⟩
  refine K (KO.u rfl (KO.fl rfl (KO.u rfl (KO.u rfl (KO.u rfl (KO.up rfl (KO.up rfl (KO.u rfl (KO.u rfl (KO.u rfl (KO.u rfl (KO.u rfl (KO.up rfl (KO.up rfl (KO.up rfl (KO.u rfl (KO.u rfl (KO.u rfl (KO.u rfl (KO.u rfl (KO.u rfl KO.rf))))))))))))))))))))) (fun k hk => ⟨?_, ?_⟩) ?_ rfl rfl rfl (Or.inr ⟨rfl, rfl, FS_tr (I := I) (f := 16) (a1 := 17) (a2 := 18) (a3 := 19) (sh := 20) (nu := 21) (wr := 22) (off := 0) (fun k hk => ?_) (fun k hk => ?_) (fun j hj => ?_) (fun j hj => ?_) (fun j hj => ?_) rfl (fun k hk => ?_) (fun k hk => ?_) h⟩)
  · rw [gm_u_ne _ _ _ (by omega), fl_out (by omega)]; rfl
  · rw [gm_u_ne _ _ _ (by omega), fl_out (by omega)]; rfl
  · rw [gm_u_ne2 _ _ _ _ (by omega), fl_ne (by omega)]; rfl
  · rw [gm_u_ne _ _ _ (by omega), fl_in hk, Nat.zero_add]; rfl
  · have q : k = 0 ∨ k = 1 ∨ k = 2 ∨ k = 3 ∨ k = 4 ∨ k = 5 ∨ k = 9 ∨ k = 10 ∨ k = 11 ∨ k = 12 ∨ k = 13 := by
      simp [fld] at hk
      omega
    rcases q with rfl | rfl | rfl | rfl | rfl | rfl | rfl | rfl | rfl | rfl | rfl <;> rfl
  · exact cpy0 (I 17) (I 45) 6 hj
  · exact cpy0 (I 18) (I 46) 6 hj
  · exact cpy0 (I 19) (I 47) 6 hj
  · exact cpy0 (I 21) (I 49) 40 hk
  · exact cpy0 (I 22) (I 50) 40 hk
theorem n_restore43 (hI : Inv I L c) (hm : IM I 43 44 45 46 47 48 49 50 0) : ((I 43 2) = 0 → mQ (C_M_restore g (nI 0)) (-5) I L c) ∧ (¬ (I 43 2) = 0 → (C_Fe16_takeFrom_44 g I L c (fun I5 L6 c7 => (C_Sh20_takeFrom_48 g I5 L6 c7 (fun I8 L9 c10 => mQ (C_M_restore g (nI 0)) 0 I8 L9 c10))))) := by
  rcases hm with ⟨e1, e2⟩ | ⟨e1, e2, e3⟩
  · refine br_t e1 (e_M_restore (m_0t (n := 1) rfl (by omega) (by omega) (bt ⟨vp_in_nI (by omega) (by omega), br_t ?_ (fin hI rfl kT)⟩)))
    exact e2
  · refine br_f (by rw [e1]; decide) (e_Fe16_takeFrom_44 ⟨?_, ?_, e_Sh20_takeFrom_48 (m_restore (by omega) ?_ ⟨rfl, ?_⟩)⟩)
    · rcases e3.2.2.2.2.2.2.2.2.2.1 with q | q
      · exact gz (Or.inl q.1)
      · exact gz (Or.inr q.1)
    · obtain ⟨q1, q2⟩ := e3.2.2.2.2.2.2.2.1
      rw [q2, q1.1]
      have q3 := q1.2
      generalize nv I (110 * (0 + 1) + 7) = w at q3
      rcases Nat.eq_zero_or_pos w with e | e
      · rw [e]; exact gz (Or.inl rfl)
      · rw [show w = 1 by omega]; exact gz (Or.inr rfl)
    · show ¬ I 61 0 = 0
      rw [e2]; decide
    · refine hI.setF (FS_tr (I := I) (f := 44) (a1 := 45) (a2 := 46) (a3 := 47) (sh := 48) (nu := 49) (wr := 50) (off := 110 * (0 + 1)) (fun k hk => ?_) (fun k hk => ?_) (fun j hj => ?_) (fun j hj => ?_) (fun j hj => ?_) rfl (fun k hk => ?_) (fun k hk => ?_) e3) (TP_congr rfl rfl rfl rfl hI.2.1) hI.2.2.1 (fun k hk => ?_) (KO.fl rfl (KO.u rfl (KO.u rfl (KO.up rfl (KO.up rfl (KO.u rfl (KO.u rfl (KO.u rfl (KO.u rfl (KO.u rfl (KO.up rfl (KO.up rfl (KO.up rfl (KO.u rfl (KO.u rfl (KO.u rfl (KO.u rfl (KO.u rfl (KO.u rfl KO.rf))))))))))))))))))) KO.rf hI.cf
      · rw [fl_in hk]; rfl
      · have q : k = 0 ∨ k = 1 ∨ k = 2 ∨ k = 3 ∨ k = 4 ∨ k = 5 ∨ k = 9 ∨ k = 10 ∨ k = 11 ∨ k = 12 ∨ k = 13 := by
          simp [fld] at hk
          omega
        rcases q with rfl | rfl | rfl | rfl | rfl | rfl | rfl | rfl | rfl | rfl | rfl <;> rfl
      · exact cpy0 (I 45) (I 17) 6 hj
      · exact cpy0 (I 46) (I 18) 6 hj
      · exact cpy0 (I 47) (I 19) 6 hj
      · exact cpy0 (I 49) (I 21) 40 hk
      · exact cpy0 (I 50) (I 22) 40 hk
      · rw [fl_out (by omega)]; rfl
theorem n_image51 (hI : Inv I L c) : C_Fe52_takeFrom_16 g I L c (fun I5 L6 c7 => (C_Sh56_takeFrom_20 g I5 L6 c7 (fun I8 L9 c10 => mQ (C_M_image g (nI 1)) 0 (gm_u I8 51 2 1) L9 c10))) := by
  have h : FS0 I := hI.1
  refine e_Fe52_takeFrom_16 ⟨(FS0.z h).1, (FS0.z h).2, e_Sh56_takeFrom_20 (m_image (by omega) ⟨rfl, ?_⟩)⟩
  obtain ⟨f0, t0, x0, ⟨r0, r1, r2, r3⟩, ⟨m0, m1⟩, cf⟩ := hI
  have K : ∀ {J : mI}, KO (fun o => o == 7 || o == 0 || o == 1 || o == 6 || (16 ≤ o && o ≤ 22) || o == 35 || o == 37 || o == 39 || o == 41 || o == 43 || o == 44 || o == 45 || o == 46 || o == 47 || o == 48 || o == 49 || o == 50 || o == 62 || o == 71 || o == 72) I J → (∀ k, k < 110 → J 60 k = I 60 k ∧ J 60 (110 * (0 + 1) + k) = I 60 (110 * (0 + 1) + k)) → J 61 0 = I 61 0 → J 59 5 = I 59 5 → J 59 13 = I 59 13 → J 59 14 = I 59 14 → IM J 51 52 53 54 55 56 57 58 1 → Inv J L c := by
    intro J R e60 e61 e5 e13 e14 hm
    refine ⟨FS_sm (fun k hk => by rw [Nat.zero_add]; exact (e60 k hk).1) (R 16 rfl) (R 17 rfl) (R 18 rfl) (R 19 rfl) (R 20 rfl) (R 21 rfl) (R 22 rfl) f0, TP_congr (by rw [R 0 rfl]) (R 1 rfl) e5 (R 62 rfl) t0, ⟨by rw [R 6 rfl, e13]; exact x0.1, by rw [R 6 rfl, e14]; exact x0.2⟩, ⟨RW_congr (R 35 rfl) (R 71 rfl) (R 72 rfl) rfl rfl r0, RW_congr (R 37 rfl) (R 71 rfl) (R 72 rfl) rfl rfl r1, RW_congr (R 39 rfl) (R 71 rfl) (R 72 rfl) rfl rfl r2, RW_congr (R 41 rfl) (R 71 rfl) (R 72 rfl) rfl rfl r3⟩, ⟨IM_c (R 43 rfl) e61 (fun k hk => (e60 k hk).2) (R 44 rfl) (R 45 rfl) (R 46 rfl) (R 47 rfl) (R 48 rfl) (R 49 rfl) (R 50 rfl) m0, hm⟩, cf.1, SZ_k (R 7 rfl) cf.2.1, cf.2.2⟩
  refine K (KO.u rfl (KO.fl rfl (KO.u rfl (KO.u rfl (KO.u rfl (KO.up rfl (KO.up rfl (KO.u rfl (KO.u rfl (KO.u rfl (KO.u rfl (KO.u rfl (KO.up rfl (KO.up rfl (KO.up rfl (KO.u rfl (KO.u rfl (KO.u rfl (KO.u rfl (KO.u rfl (KO.u rfl KO.rf))))))))))))))))))))) (fun k hk => ⟨?_, ?_⟩) ?_ rfl rfl rfl (Or.inr ⟨rfl, rfl, FS_tr (I := I) (f := 16) (a1 := 17) (a2 := 18) (a3 := 19) (sh := 20) (nu := 21) (wr := 22) (off := 0) (fun k hk => ?_) (fun k hk => ?_) (fun j hj => ?_) (fun j hj => ?_) (fun j hj => ?_) rfl (fun k hk => ?_) (fun k hk => ?_) h⟩)
  · rw [gm_u_ne _ _ _ (by omega), fl_out (by omega)]; rfl
  · rw [gm_u_ne _ _ _ (by omega), fl_out (by omega)]; rfl
  · rw [gm_u_ne2 _ _ _ _ (by omega), fl_ne (by omega)]; rfl
  · rw [gm_u_ne _ _ _ (by omega), fl_in hk, Nat.zero_add]; rfl
  · have q : k = 0 ∨ k = 1 ∨ k = 2 ∨ k = 3 ∨ k = 4 ∨ k = 5 ∨ k = 9 ∨ k = 10 ∨ k = 11 ∨ k = 12 ∨ k = 13 := by
      simp [fld] at hk
      omega
    rcases q with rfl | rfl | rfl | rfl | rfl | rfl | rfl | rfl | rfl | rfl | rfl <;> rfl
  · exact cpy0 (I 17) (I 53) 6 hj
  · exact cpy0 (I 18) (I 54) 6 hj
  · exact cpy0 (I 19) (I 55) 6 hj
  · exact cpy0 (I 21) (I 57) 40 hk
  · exact cpy0 (I 22) (I 58) 40 hk
theorem n_restore51 (hI : Inv I L c) (hm : IM I 51 52 53 54 55 56 57 58 1) : ((I 51 2) = 0 → mQ (C_M_restore g (nI 1)) (-5) I L c) ∧ (¬ (I 51 2) = 0 → (C_Fe16_takeFrom_52 g I L c (fun I5 L6 c7 => (C_Sh20_takeFrom_56 g I5 L6 c7 (fun I8 L9 c10 => mQ (C_M_restore g (nI 1)) 0 I8 L9 c10))))) := by
  rcases hm with ⟨e1, e2⟩ | ⟨e1, e2, e3⟩
  · refine br_t e1 (e_M_restore (m_0t (n := 1) rfl (by omega) (by omega) (bt ⟨vp_in_nI (by omega) (by omega), br_t ?_ (fin hI rfl kT)⟩)))
    exact e2
  · refine br_f (by rw [e1]; decide) (e_Fe16_takeFrom_52 ⟨?_, ?_, e_Sh20_takeFrom_56 (m_restore (by omega) ?_ ⟨rfl, ?_⟩)⟩)
    · rcases e3.2.2.2.2.2.2.2.2.2.1 with q | q
      · exact gz (Or.inl q.1)
      · exact gz (Or.inr q.1)
    · obtain ⟨q1, q2⟩ := e3.2.2.2.2.2.2.2.1
      rw [q2, q1.1]
      have q3 := q1.2
      generalize nv I (110 * (1 + 1) + 7) = w at q3
      rcases Nat.eq_zero_or_pos w with e | e
      · rw [e]; exact gz (Or.inl rfl)
      · rw [show w = 1 by omega]; exact gz (Or.inr rfl)
    · show ¬ I 61 1 = 0
      rw [e2]; decide
    · refine hI.setF (FS_tr (I := I) (f := 52) (a1 := 53) (a2 := 54) (a3 := 55) (sh := 56) (nu := 57) (wr := 58) (off := 110 * (1 + 1)) (fun k hk => ?_) (fun k hk => ?_) (fun j hj => ?_) (fun j hj => ?_) (fun j hj => ?_) rfl (fun k hk => ?_) (fun k hk => ?_) e3) (TP_congr rfl rfl rfl rfl hI.2.1) hI.2.2.1 (fun k hk => ?_) (KO.fl rfl (KO.u rfl (KO.u rfl (KO.up rfl (KO.up rfl (KO.u rfl (KO.u rfl (KO.u rfl (KO.u rfl (KO.u rfl (KO.up rfl (KO.up rfl (KO.up rfl (KO.u rfl (KO.u rfl (KO.u rfl (KO.u rfl (KO.u rfl (KO.u rfl KO.rf))))))))))))))))))) KO.rf hI.cf
      · rw [fl_in hk]; rfl
      · have q : k = 0 ∨ k = 1 ∨ k = 2 ∨ k = 3 ∨ k = 4 ∨ k = 5 ∨ k = 9 ∨ k = 10 ∨ k = 11 ∨ k = 12 ∨ k = 13 := by
          simp [fld] at hk
          omega
        rcases q with rfl | rfl | rfl | rfl | rfl | rfl | rfl | rfl | rfl | rfl | rfl <;> rfl
      · exact cpy0 (I 53) (I 17) 6 hj
      · exact cpy0 (I 54) (I 18) 6 hj
      · exact cpy0 (I 55) (I 19) 6 hj
      · exact cpy0 (I 57) (I 21) 40 hk
      · exact cpy0 (I 58) (I 22) 40 hk
      · rw [fl_out (by omega)]; rfl
theorem P_image {x : Int32} (hI : Inv I L c) : C_J_image g x I L c (mQ (C_M_image g x)) := by
  rcases inR x 2 (by omega) with ⟨r, hr, rfl⟩ | hx
  · refine e_J_image (m_isImT hr (bt ⟨vp_in_nI hr (by omega), ?_⟩))
    match r, hr with
    | 0, _ => exact ⟨fun _ => n_image43 hI, fun z => absurd z (by decide)⟩
    | 1, _ => exact ⟨fun z => absurd z (by decide), fun _ => n_image51 hI⟩
  · exact e_J_image (m_isImF hx (bf (e_M_image (m_0f (n := 1) rfl (by omega) hx (bf (fin hI rfl kT))))))
theorem P_restore {x : Int32} (hI : Inv I L c) : C_J_restore g x I L c (mQ (C_M_restore g x)) := by
  obtain ⟨w0, w1⟩ := hI.2.2.2.2.1
  rcases inR x 2 (by omega) with ⟨r, hr, rfl⟩ | hx
  · refine e_J_restore (m_isImT hr (bt ⟨vp_in_nI hr (by omega), ?_⟩))
    match r, hr with
    | 0, _ => exact ⟨fun _ => n_restore43 hI w0, fun z => absurd z (by decide)⟩
    | 1, _ => exact ⟨fun z => absurd z (by decide), fun _ => n_restore51 hI w1⟩
  · exact e_J_restore (m_isImF hx (bf (e_M_restore (m_0f (n := 1) rfl (by omega) hx (bf (fin hI rfl kT))))))
end R
