/-! the class reads a line, kind by kind -/
theorem us_ne {D : Nat → Int32} {k j : Nat} {v : Int32} (h : j ≠ k) : us D k v j = D j := if_neg h
theorem us_eq {D : Nat → Int32} {k : Nat} {v : Int32} : us D k v k = v := if_pos rfl
section Jm
variable {g : gm_G} {I : mI} {L : mL} {w a : Option Nat}
theorem NJ_k {I I' : mI} {n p : Nat} {F : Nat → Nat} (h : NJ I n F p) (e : I' 6 = I 6) : NJ I' n F p := by unfold NJ at *; rw [e]; exact h
theorem TX_k {I I' : mI} {n : Nat} {F : Nat → Nat} (h : TX I n F) (e : I' 6 = I 6) (e1 : I' 1 = I 1) : TX I' n F := by unfold TX at *; rw [e, e1]; exact h
/-- one of the fields that one number sets -/
theorem DR_1 {I I' : mI} {D : Nat → Int32} {i k : Nat} {v : Int32} (h : DR I D) (hik : (i = 0 ∧ k = 2) ∨ (i = 1 ∧ k = 3) ∨ (i = 10 ∧ k = 4) ∨ (i = 11 ∧ k = 5) ∨ (i = 12 ∧ k = 6) ∨ (i = 9 ∧ k = 7) ∨ (i = 13 ∧ k = 8)) (e2 : ∀ j, j ≠ i → I' 2 j = I 2 j) (ei : I' 2 i = v) (e3 : I' 3 = I 3) (e4 : I' 4 = I 4) (e5 : I' 5 = I 5) : DR I' (us D k v) := by
  obtain ⟨m, m6, d0, d5, da, db, dc, dd, de, df, dg, dp, dj⟩ := h
  have g : ∀ i0 k0, ((i0 = 0 ∧ k0 = 2) ∨ (i0 = 1 ∧ k0 = 3) ∨ (i0 = 10 ∧ k0 = 4) ∨ (i0 = 11 ∧ k0 = 5) ∨ (i0 = 12 ∧ k0 = 6) ∨ (i0 = 9 ∧ k0 = 7) ∨ (i0 = 13 ∧ k0 = 8)) → I 2 i0 = D k0 → I' 2 i0 = us D k v k0 := by
    intro i0 k0 q1 q2
    by_cases q : i0 = i
    · have : k0 = k := by omega
      rw [q, this, us_eq]; exact ei
    · rw [e2 i0 q, us_ne (by omega)]; exact q2
  refine ⟨m, m6, by rw [us_ne (by omega)]; exact d0, by rw [e2 5 (by omega)]; exact d5, g 0 2 (by omega) da, g 1 3 (by omega) db, g 10 4 (by omega) dc, g 11 5 (by omega) dd, g 12 6 (by omega) de, g 9 7 (by omega) df, g 13 8 (by omega) dg, ?_, fun j hj => ?_⟩
  · rw [e2 2 (by omega), e2 3 (by omega), e2 4 (by omega), us_ne (by omega), us_ne (by omega)]
    exact dp
  · rw [e3, e4, e5, us_ne (by omega), us_ne (by omega), us_ne (by omega)]
    exact dj j hj
/-- a line of one number -/
theorem j_one {Q : Bool → mI → mL → gm_cfg → Prop} {n p lo hi i k : Nat} {F : Nat → Nat} {D : Nat → Int32} {I0 : mI} (e : TX I n F) (hp : p ≤ n) (h : NJ I n F p) (d : DR I D) (k0 : KO pD I0 I) (k3 : ∀ k, k < 4 → I 6 k = I0 6 k) (hlo : lo < 2 ^ 20) (hhi : hi < 2 ^ 20) (hik : (i = 0 ∧ k = 2) ∨ (i = 1 ∧ k = 3) ∨ (i = 10 ∧ k = 4) ∨ (i = 11 ∧ k = 5) ∨ (i = 12 ∧ k = 6) ∨ (i = 9 ∧ k = 7) ∨ (i = 13 ∧ k = 8)) (hl : PL L (w, a, some 1) n F I0 Q (nu1 F n p lo hi (fun v q => Sum.inr (us D k (nI v), q)))) : C_Rd_takeNumber g (nI lo) (nI hi) I L (w, a, some 1) (fun b36 I33 L34 c35 => c35 = (w, a, some 1) ∧ Q b36 (gm_u I33 2 i (I33 6 8)) L34 (w, a, some 1)) := by
  refine j_take e hp h hlo hhi (fun z I' a1 a2 a3 a4 => ⟨rfl, ?_⟩) (fun z I' a1 a2 a3 => ⟨rfl, ?_⟩)
  · unfold nu1 at hl
    rw [if_pos z] at hl
    rw [a3]
    refine hl _ (KO.u rfl (k0.tr (n6D a1))) (fun j hj => ?_) (NJ_k a4 rfl) (xe_le hp).1 (DR_1 d hik (fun j hj => ?_) (gm_u_eq _ _ _ _) (a1 3 rfl) (a1 4 rfl) (a1 5 rfl))
    · show I' 6 j = _
      rw [a2 j hj]; exact k3 j hj
    · rw [gm_u_ne2 _ _ _ _ hj, a1 2 rfl]
  · unfold nu1 at hl
    rw [if_neg z] at hl
    exact hl _ (KO.u rfl (k0.tr (n6D a1))) a2 a3
end Jm
