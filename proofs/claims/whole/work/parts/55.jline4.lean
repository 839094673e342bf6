/-! the class reads a line: guesser, and all -/
section Jq
variable {g : gm_G} {I : mI} {L : mL} {w a : Option Nat}
theorem nf9 {F : Nat → Nat} {n p lo hi : Nat} (z : nf F n p lo hi = 0) : xk F n p = 9 ∧ lo ≤ xv F n p ∧ xv F n p ≤ hi ∧ xv F n p < 10000 := by
  unfold nf at z
  by_cases q : xk F n p = 9
  · rw [if_pos q] at z
    have := xv_b q
    split at z
    · omega
    · exact ⟨q, by omega, by omega, this⟩
  · rw [if_neg q] at z
    have := fq_ne (F := F) (n := n) (p := p) (q := 2) (by omega)
    omega
/-- a guesser added to the draft -/
theorem DR_g {I I' : mI} {D : Nat → Int32} {m l s k : Nat} (hm : m < 6) (h0 : D 0 = nI m) (h : DR I D) (e2 : ∀ j, j ≠ 5 → I' 2 j = I 2 j) (e5 : I' 2 5 = nI (m + 1)) (x3 : ∀ j, j ≠ m → I' 3 j = I 3 j) (y3 : I' 3 m = nI l) (x4 : ∀ j, j ≠ m → I' 4 j = I 4 j) (y4 : I' 4 m = nI s) (x5 : ∀ j, j ≠ m → I' 5 j = I 5 j) (y5 : I' 5 m = nI k) : DR I' (gs1 D l s k) := by
  obtain ⟨m', m6, d0, d5, da, db, dc, dd, de, df, dg, dp, dj⟩ := h
  have em : m' = m := neq (by rw [← d0, h0]) (by omega) (by omega)
  subst em
  have c0 : (D 0).toNatClampNeg = m' := by rw [h0, nI_clamp (by omega)]
  have U : ∀ j, j ≠ 0 → j ≠ 11 + m' → j ≠ 17 + m' → j ≠ 23 + m' → gs1 D l s k j = D j := fun j q0 q1 q2 q3 => by
    unfold gs1; rw [c0, us_ne q0, us_ne q3, us_ne q2, us_ne q1]
  have U0 : gs1 D l s k 0 = nI (m' + 1) := by unfold gs1; rw [us_eq, h0, nI_1]
  have U1 : gs1 D l s k (11 + m') = nI l := by unfold gs1; rw [c0, us_ne (by omega), us_ne (by omega), us_ne (by omega), us_eq]
  have U2 : gs1 D l s k (17 + m') = nI s := by unfold gs1; rw [c0, us_ne (by omega), us_ne (by omega), us_eq]
  have U3 : gs1 D l s k (23 + m') = nI k := by unfold gs1; rw [c0, us_ne (by omega), us_eq]
  refine ⟨m' + 1, by omega, U0, e5, ?_, ?_, ?_, ?_, ?_, ?_, ?_, ?_, fun j hj => ?_⟩
  · rw [e2 0 (by omega), U 2 (by omega) (by omega) (by omega) (by omega)]; exact da
  · rw [e2 1 (by omega), U 3 (by omega) (by omega) (by omega) (by omega)]; exact db
  · rw [e2 10 (by omega), U 4 (by omega) (by omega) (by omega) (by omega)]; exact dc
  · rw [e2 11 (by omega), U 5 (by omega) (by omega) (by omega) (by omega)]; exact dd
  · rw [e2 12 (by omega), U 6 (by omega) (by omega) (by omega) (by omega)]; exact de
  · rw [e2 9 (by omega), U 7 (by omega) (by omega) (by omega) (by omega)]; exact df
  · rw [e2 13 (by omega), U 8 (by omega) (by omega) (by omega) (by omega)]; exact dg
  · rw [e2 2 (by omega), e2 3 (by omega), e2 4 (by omega), U 9 (by omega) (by omega) (by omega) (by omega), U 10 (by omega) (by omega) (by omega) (by omega)]; exact dp
  · rcases Nat.lt_or_ge j m' with q | q
    · rw [x3 j (by omega), x4 j (by omega), x5 j (by omega), U (11 + j) (by omega) (by omega) (by omega) (by omega), U (17 + j) (by omega) (by omega) (by omega) (by omega), U (23 + j) (by omega) (by omega) (by omega) (by omega)]
      exact dj j q
    · rw [show j = m' by omega, y3, y4, y5, U1, U2, U3]
      exact ⟨rfl, rfl, rfl⟩
end Jq
