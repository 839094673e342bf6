/-! what the start gives: the machine's fixed things -/
theorem st_u0 : ∀ w ∈ u_ws RX0 TX0 1, w ∈ lw_tbl := by decide +kernel
theorem st_u1 : ∀ w ∈ u_ws RX1 TX1 14, w ∈ lw_tbl := by decide +kernel
theorem st_u2 : ∀ w ∈ u_ws RX2 TX2 3, w ∈ lw_tbl := by decide +kernel
theorem st_u3 : ∀ w ∈ u_ws RX3 TX3 5, w ∈ lw_tbl := by decide +kernel
theorem st_u4 : ∀ w ∈ u_ws RX4 TX4 3, w ∈ lw_tbl := by decide +kernel
theorem st_u5 : ∀ w ∈ u_ws RX5 TX5 9, w ∈ lw_tbl := by decide +kernel
theorem st_u6 : ∀ w ∈ u_ws RX6 TX6 3, w ∈ lw_tbl := by decide +kernel
theorem st_u7 : ∀ w ∈ u_ws RX7 TX7 11, w ∈ lw_tbl := by decide +kernel
theorem st_u8 : ∀ w ∈ u_ws RX8 TX8 3, w ∈ lw_tbl := by decide +kernel
theorem st_u9 : ∀ w ∈ u_ws RX9 TX9 3, w ∈ lw_tbl := by decide +kernel
theorem st_u10 : ∀ w ∈ u_ws RX10 TX10 13, w ∈ lw_tbl := by decide +kernel
theorem st_u11 : ∀ w ∈ u_ws RX11 TX11 32, w ∈ lw_tbl := by decide +kernel
theorem st_m {w : Cond} (h : w ∈ gm_TB) : w ∈ lw_tbl := (List.mem_filter.mp h).1
section St
variable {args : Array Value} {s : State}
theorem st_cl (hts : ∀ w ∈ lw_tbl, w.before args s = true) {c : Nat} (hc : c < 12) : ∃ (cC : ClassId) (iS : Nat → Nat), u_Kn s (gm_R c) (gm_T c) (gm_n c) cC iS := by
  match c, hc with
  | 0, _ => exact u_known hts st_u0 (hts _ (st_m is_X0.1))
  | 1, _ => exact u_known hts st_u1 (hts _ (st_m is_X1.1))
  | 2, _ => exact u_known hts st_u2 (hts _ (st_m is_X2.1))
  | 3, _ => exact u_known hts st_u3 (hts _ (st_m is_X3.1))
  | 4, _ => exact u_known hts st_u4 (hts _ (st_m is_X4.1))
  | 5, _ => exact u_known hts st_u5 (hts _ (st_m is_X5.1))
  | 6, _ => exact u_known hts st_u6 (hts _ (st_m is_X6.1))
  | 7, _ => exact u_known hts st_u7 (hts _ (st_m is_X7.1))
  | 8, _ => exact u_known hts st_u8 (hts _ (st_m is_X8.1))
  | 9, _ => exact u_known hts st_u9 (hts _ (st_m is_X9.1))
  | 10, _ => exact u_known hts st_u10 (hts _ (st_m is_X10.1))
  | 11, _ => exact u_known hts st_u11 (hts _ (st_m is_X11.1))
theorem st_row : Cond.arrayOver (.object "JarGuess$Row") ∈ lw_tbl := by decide +kernel
theorem st_ima : Cond.arrayOver (.object "JarGuess$Image") ∈ lw_tbl := by decide +kernel
theorem st_ints : Cond.arrayOver (.array .int) ∈ lw_tbl := by decide +kernel
theorem st_arr (ty : FieldType) (hty : ∀ C, ty ≠ .object C) (h : (Cond.arrayClass ty).before args s = true) : ∃ cA : ClassId, ArrOfT s cA ty ∧ va_RA s cA ty := by
  obtain ⟨c, k, comp, h1, h2, h3⟩ := Cond.arrayClass_spec h
  refine ⟨c, fun n z => ⟨fun k h => (by cases h), k, h2, comp, h3⟩, ?_⟩
  cases ty with
  | object C => exact absurd rfl (hty C)
  | _ => exact h1
theorem st_arq (C : String) (h : (Cond.arrayOver (.object C)).before args s = true) : ∃ cA : ClassId, ArrOfT s cA (.object C) ∧ va_RA s cA (.object C) := by
  obtain ⟨comp, c, k, h1, h2, h3, h4, h5⟩ := Cond.arrayOver_spec h
  exact ⟨c, fun n z => ⟨fun k h => (by cases h), k, h3, comp, h4⟩, k, comp, h3, h4, h1, h5⟩
theorem st_ty (hts : ∀ w ∈ lw_tbl, w.before args s = true) {t : Nat} (ht : t < 7) : ∃ cA : ClassId, ArrOfT s cA (gm_tyA t) ∧ va_RA s cA (gm_tyA t) := by
  match t, ht with
  | 0, _ => exact st_arr _ (fun C h => by cases h) (hts _ (st_m aw_0))
  | 1, _ => exact st_arr _ (fun C h => by cases h) (hts _ (st_m aw_1))
  | 2, _ => exact st_arr _ (fun C h => by cases h) (hts _ (st_m aw_2))
  | 3, _ => exact st_arr _ (fun C h => by cases h) (hts _ (st_m aw_3))
  | 4, _ => exact st_arq _ (hts _ st_row)
  | 5, _ => exact st_arq _ (hts _ st_ima)
  | 6, _ =>
    obtain ⟨comp, c, k, h1, h2, h3, h4, h5⟩ := gm_AO_spec (hts _ st_ints)
    exact ⟨c, fun n z => ⟨fun k h => (by cases h), k, h3, comp, h4⟩, h5⟩
def st_tm (i : Nat) : Term := .string (gm_so i) (gm_si i)
theorem st_ex : ∀ i, i < 9 → Cond.exactly (st_tm i) "java/lang/String" ∈ flatC (Jvm.Cond.and given_1 narrow_1) := by decide +kernel
theorem st_co : ∀ i, i < 9 → Cond.eq (.field (st_tm i) "java/lang/String" "coder" "B") (.int 0) ∈ flatC (Jvm.Cond.and given_1 narrow_1) := by decide +kernel
theorem st_ar : ∀ i, i < 9 → Cond.arrayOf (.field (st_tm i) "java/lang/String" "value" "[B") .byte ∈ flatC (Jvm.Cond.and given_1 narrow_1) := by decide +kernel
theorem st_le : ∀ i, i < 9 → Cond.eq (.length (.field (st_tm i) "java/lang/String" "value" "[B")) (.int (Int32.ofNat (gm_sl.getD i 0))) ∈ flatC (Jvm.Cond.and given_1 narrow_1) := by decide +kernel
theorem st_el : ∀ i, i < 9 → ∀ j, j < gm_sl.getD i 0 → Cond.eq (.elem (.field (st_tm i) "java/lang/String" "value" "[B") (.int (Int32.ofNat j))) (.int ((gm_sb.getD i []).getD j 0)) ∈ flatC (Jvm.Cond.and given_1 narrow_1) := by decide +kernel
theorem st_ne : ∀ i, i < 9 → ∀ j, j < 9 → i ≠ j → Cond.not (Cond.eq (st_tm i) (st_tm j)) ∈ flatC (Jvm.Cond.and given_1 narrow_1) ∨ Cond.not (Cond.eq (st_tm j) (st_tm i)) ∈ flatC (Jvm.Cond.and given_1 narrow_1) := by decide +kernel
theorem st_cs : Cond.eq (.static "java/lang/String" "COMPACT_STRINGS" "Z") (.int 1) ∈ flatC (Jvm.Cond.and given_1 narrow_1) := by decide +kernel
theorem st_fm : Cond.isRef (.static "jdk/internal/util/Preconditions" "SIOOBE_FORMATTER" "Ljava/util/function/BiFunction;") ∈ flatC (Jvm.Cond.and given_1 narrow_1) := by decide +kernel
theorem st_l1 : Cond.laysStatic "java/lang/String" "COMPACT_STRINGS" "Z" ∈ lw_tbl := by decide +kernel
theorem st_i1 : Cond.initialized "java/lang/String" ∈ lw_tbl := by decide +kernel
theorem st_l2 : Cond.laysStatic "jdk/internal/util/Preconditions" "SIOOBE_FORMATTER" "Ljava/util/function/BiFunction;" ∈ lw_tbl := by decide +kernel
theorem st_i2 : Cond.initialized "jdk/internal/util/Preconditions" ∈ lw_tbl := by decide +kernel
theorem st_sr : ∀ i, i < 9 → Cond.stringRef (gm_so i) (gm_si i) (gm_st i) ∈ lw_tbl := by decide +kernel
end St
