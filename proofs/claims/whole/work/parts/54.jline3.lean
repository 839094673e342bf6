/-! the class reads a line, whole -/
section Jp
variable {g : gm_G} {I : mI} {L : mL} {w a : Option Nat}
theorem j_grid {Q : Bool → mI → mL → gm_cfg → Prop} {n p : Nat} {F : Nat → Nat} {D : Nat → Int32} {I0 : mI} (e : TX I n F) (hp : p ≤ n) (h : NJ I n F p) (d : DR I D) (k0 : KO pD I0 I) (k3 : ∀ k, k < 4 → I 6 k = I0 6 k) (hl : PL L (w, a, some 1) n F I0 Q (nu1 F n p 1 999 (fun v q => nu1 F n q v (v + 199) (fun v2 q2 => Sum.inr (us (us D 2 (nI v)) 3 (nI v2), q2))))) : C_Rd_readGrid_2 g I L (w, a, some 1) Q := by
  refine e_Rd_readGrid_2 (j_nu (R := Q) (lo := 1) (hi := 999) e hp h k0 k3 (by omega) (by omega) hl (fun I' q => ⟨rfl, bf q⟩) (fun z hl2 I1 a1 a2 a3 a4 a5 a6 => ⟨rfl, bt ?_⟩))
  have k9 : xk F n p = 9 := by
    unfold nf at z
    by_cases q : xk F n p = 9
    · exact q
    · rw [if_neg q] at z
      have := fq_ne (F := F) (n := n) (p := p) (q := 2) (by omega)
      omega
  have vb := xv_b k9
  rw [a3, show (nI (xv F n p) + 200 - 1 : Int32) = nI (xv F n p + 199) by rw [show (nI (xv F n p) + 200 : Int32) = nI (xv F n p + 200) from nI_add _ 200]; exact pk_sub (b := 1) (by omega)]
  have d1 : DR (gm_u I1 2 0 (nI (xv F n p))) (us D 2 (nI (xv F n p))) := DR_1 (i := 0) (k := 2) d (by omega) (fun j hj => by rw [gm_u_ne2 _ _ _ _ hj, a1 2 rfl]) (gm_u_eq _ _ _ _) (a1 3 rfl) (a1 4 rfl) (a1 5 rfl)
  refine j_nu (R := Q) (K := fun v2 q2 => Sum.inr (us (us D 2 (nI (xv F n p))) 3 (nI v2), q2)) (TX_k a4 rfl rfl) a6 (NJ_k a5 rfl) (KO.u rfl (k0.tr (n6D a1))) a2 (by omega) (by omega) hl2 (fun I' q => ⟨rfl, bf q⟩) (fun z2 hl3 I2 b1 b2 b3 b4 b5 b6 => ⟨rfl, bt ?_⟩)
  rw [b3]
  refine hl3 _ (KO.u rfl ((KO.u rfl (k0.tr (n6D a1))).tr (n6D b1))) b2 (NJ_k b5 rfl) b6 (DR_1 (i := 1) (k := 3) d1 (by omega) (fun j hj => ?_) (gm_u_eq _ _ _ _) (b1 3 rfl) (b1 4 rfl) (b1 5 rfl))
  rw [gm_u_ne2 _ _ _ _ hj, b1 2 rfl]
theorem j_prior {Q : Bool → mI → mL → gm_cfg → Prop} {n p : Nat} {F : Nat → Nat} {D : Nat → Int32} {I0 : mI} (e : TX I n F) (hp : p ≤ n) (h : NJ I n F p) (d : DR I D) (k0 : KO pD I0 I) (k3 : ∀ k, k < 4 → I 6 k = I0 6 k) (hl : PL L (w, a, some 1) n F I0 Q (nu1 F n p 0 999 (fun v q => nu1 F n q 0 8 (fun v2 q2 => Sum.inr (us (us D 9 (nI v)) 10 (nI v2), q2))))) : C_Rd_readPrior_2 g I L (w, a, some 1) Q := by
  refine e_Rd_readPrior_2 (j_nu (R := Q) (lo := 0) (hi := 999) e hp h k0 k3 (by omega) (by omega) hl (fun I' q => ⟨rfl, bf q⟩) (fun z hl2 I1 a1 a2 a3 a4 a5 a6 => ⟨rfl, bt ?_⟩))
  rw [a3]
  refine j_nu (R := Q) (lo := 0) (hi := 8) (K := fun v2 q2 => Sum.inr (us (us D 9 (nI (xv F n p))) 10 (nI v2), q2)) (TX_k a4 rfl rfl) a6 (NJ_k a5 rfl) (KO.u rfl (k0.tr (n6D a1))) a2 (by omega) (by omega) hl2 (fun I' q => ⟨rfl, bf q⟩) (fun z2 hl3 I2 b1 b2 b3 b4 b5 b6 => ⟨rfl, bt ?_⟩)
  have k9 : xk F n (xe F n p) = 9 := by
    unfold nf at z2
    by_cases q : xk F n (xe F n p) = 9
    · exact q
    · rw [if_neg q] at z2
      have := fq_ne (F := F) (n := n) (p := xe F n p) (q := 2) (by omega)
      omega
  have vb := xv_b k9
  rw [b3]
  refine hl3 _ (KO.u rfl (KO.u rfl ((KO.u rfl (k0.tr (n6D a1))).tr (n6D b1)))) b2 (NJ_k b5 rfl) b6 ?_
  obtain ⟨m, m6, d0, d5, da, db, dc, dd, de, df, dg, dp, dj⟩ := d
  have E : ∀ j, j ≠ 2 → j ≠ 3 → j ≠ 4 → (gm_u (gm_u I2 2 4 (nI (xv F n (xe F n p)))) 2 2 1) 2 j = I 2 j := fun j h2 h3 h4 => by
    rw [gm_u_ne2 _ _ _ _ h2, gm_u_ne2 _ _ _ _ h4, b1 2 rfl, gm_u_ne2 _ _ _ _ h3, a1 2 rfl]
  refine ⟨m, m6, d0, by rw [E 5 (by omega) (by omega) (by omega)]; exact d5, by rw [E 0 (by omega) (by omega) (by omega)]; exact da, by rw [E 1 (by omega) (by omega) (by omega)]; exact db, by rw [E 10 (by omega) (by omega) (by omega)]; exact dc, by rw [E 11 (by omega) (by omega) (by omega)]; exact dd, by rw [E 12 (by omega) (by omega) (by omega)]; exact de, by rw [E 9 (by omega) (by omega) (by omega)]; exact df, by rw [E 13 (by omega) (by omega) (by omega)]; exact dg, Or.inr ⟨rfl, ?_, rfl, nIm1 (by omega)⟩, fun j hj => ?_⟩
  · show I2 2 3 = nI (xv F n p)
    rw [b1 2 rfl, gm_u_eq]
  · have h3 : (gm_u (gm_u I2 2 4 (nI (xv F n (xe F n p)))) 2 2 1) 3 = I 3 := (b1 3 rfl).trans (a1 3 rfl)
    have h4 : (gm_u (gm_u I2 2 4 (nI (xv F n (xe F n p)))) 2 2 1) 4 = I 4 := (b1 4 rfl).trans (a1 4 rfl)
    have h5 : (gm_u (gm_u I2 2 4 (nI (xv F n (xe F n p)))) 2 2 1) 5 = I 5 := (b1 5 rfl).trans (a1 5 rfl)
    have u : ∀ k, 11 ≤ k → (us (us D 9 (nI (xv F n p))) 10 (nI (xv F n (xe F n p)))) k = D k := fun k hk => by rw [us_ne (by omega), us_ne (by omega)]
    rw [h3, h4, h5]
    refine ⟨(dj j hj).1.trans (u _ (by omega)).symm, (dj j hj).2.1.trans (u _ (by omega)).symm, (dj j hj).2.2.trans (u _ (by omega)).symm⟩
end Jp
