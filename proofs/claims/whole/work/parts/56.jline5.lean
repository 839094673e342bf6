/-! the class reads a guesser -/
section Jr
variable {g : gm_G} {I : mI} {L : mL} {w a : Option Nat}
theorem j_guesser {Q : Bool → mI → mL → gm_cfg → Prop} {n p : Nat} {F : Nat → Nat} {D : Nat → Int32} (e : TX I n F) (hp : p ≤ n) (h : NJ I n F p) (h2 : xk F n p = 2) (d : DR I D) (hl : PL L (w, a, some 1) n F I Q (if D 0 = 6 then Sum.inl (4, xb F n p) else nu1 F n (xe F n p) 1 200 (fun v q => nu1 F n q 0 20 (fun v2 q2 => if xk F n q2 = 3 then nu1 F n (xe F n q2) 0 10 (fun v3 q3 => Sum.inr (gs1 D v v2 v3, q3)) else Sum.inr (gs1 D v v2 0, q2))))) : C_Rd_readGuesser_2 g I L (w, a, some 1) Q := by
  have d' := d
  obtain ⟨m, m6, d0, d5, -⟩ := d'
  refine e_Rd_readGuesser_2 ?_
  rw [d5]
  refine br_f (nI_pos (by omega)) (pk_lt m 6 (fun z => ?_) (fun z => ?_))
  · rw [if_neg (fun q => by rw [d0] at q; have := neq (b := 6) q (by omega) (by omega); omega)] at hl
    have v6 : vp_in (nI m) 6 := vp_in_nI z (by omega)
    have T : Int32.toNatClampNeg (nI m) = m := nI_clamp (by omega)
    refine j_nextTok e (xe_le hp).1 h.2.2.1 (fun I1 f1 n1 => ⟨rfl, ?_⟩)
    have kI : KO n6 I I1 := f1.1
    refine j_nu (R := Q) (lo := 1) (hi := 200) (I0 := I) (TX_f e f1) (xe_le hp).1 n1 (n6D kI) (fun k hk => f1.2 k (Or.inl hk)) (by omega) (by omega) hl (fun I' q => ⟨rfl, bf q⟩) (fun z1 hl2 I2 a1 a2 a3 a4 a5 a6 => ⟨rfl, bt ⟨v6, ?_⟩⟩)
    rw [T, a3]
    refine j_nu (R := Q) (lo := 0) (hi := 20) (I0 := I) (K := fun v2 q2 => if xk F n q2 = 3 then nu1 F n (xe F n q2) 0 10 (fun v3 q3 => Sum.inr (gs1 D (xv F n (xe F n p)) v2 v3, q3)) else Sum.inr (gs1 D (xv F n (xe F n p)) v2 0, q2)) (TX_k a4 rfl rfl) a6 (NJ_k a5 rfl) (KO.u rfl (n6D (kI.tr a1))) a2 (by omega) (by omega) hl2 (fun I' q => ⟨rfl, bf q⟩) (fun z2 hl3 I3 b1 b2 b3 b4 b5 b6 => ⟨rfl, bt ⟨v6, v6, ?_⟩⟩)
    rw [b3]
    have E2 : ∀ j, I3 2 j = I 2 j := fun j => by rw [b1 2 rfl]; show I2 2 j = _; rw [a1 2 rfl, kI 2 rfl]
    have E3 : I3 3 = gm_u I2 3 m (nI (xv F n (xe F n p))) 3 := b1 3 rfl
    have E4 : I3 4 = I 4 := by rw [b1 4 rfl]; show I2 4 = _; rw [a1 4 rfl, kI 4 rfl]
    have E5 : I3 5 = I 5 := by rw [b1 5 rfl]; show I2 5 = _; rw [a1 5 rfl, kI 5 rfl]
    have I23 : I2 3 = I 3 := by rw [a1 3 rfl, kI 3 rfl]
    have kO : KO pD I (gm_u (gm_u I3 4 m (nI (xv F n (xe F n (xe F n p))))) 5 m 0) := KO.u rfl (KO.u rfl ((KO.u rfl (n6D (kI.tr a1))).tr (n6D b1)))
    have fin1 : ∀ (I4 : mI) (k : Nat), KO n6 (gm_u (gm_u I3 4 m (nI (xv F n (xe F n (xe F n p))))) 5 m 0) I4 → DR (gm_u (gm_u I4 5 m (nI k)) 2 5 (nI m + 1)) (gs1 D (xv F n (xe F n p)) (xv F n (xe F n (xe F n p))) k) := by
      intro I4 k c1
      refine DR_g z d0 d (fun j hj => ?_) ?_ (fun j hj => ?_) ?_ (fun j hj => ?_) ?_ (fun j hj => ?_) ?_
      · rw [gm_u_ne2 _ _ _ _ hj]
        show I4 2 j = _
        rw [c1 2 rfl]; exact E2 j
      · rw [gm_u_eq, nI_1]
      · show I4 3 j = _
        rw [c1 3 rfl]
        show I3 3 j = _
        rw [E3, gm_u_ne2 _ _ _ _ hj, I23]
      · show I4 3 m = _
        rw [c1 3 rfl]
        show I3 3 m = _
        rw [E3, gm_u_eq]
      · show I4 4 j = _
        rw [c1 4 rfl]
        show gm_u I3 4 m _ 4 j = _
        rw [gm_u_ne2 _ _ _ _ hj, E4]
      · show I4 4 m = _
        rw [c1 4 rfl]
        show gm_u I3 4 m _ 4 m = _
        exact gm_u_eq _ _ _ _
      · show gm_u I4 5 m (nI k) 5 j = _
        rw [gm_u_ne2 _ _ _ _ hj, c1 5 rfl]
        show gm_u _ 5 m 0 5 j = _
        rw [gm_u_ne2 _ _ _ _ hj]
        show I3 5 j = _
        rw [E5]
      · show gm_u I4 5 m (nI k) 5 m = _
        exact gm_u_eq _ _ _ _
    refine j_takeW3 (TX_k b4 rfl rfl) b6 (NJ_k b5 rfl) (fun y I4 c1 c2 => ⟨rfl, bt ?_⟩) (fun y => ⟨rfl, bf ?_⟩)
    · rw [if_pos y] at hl3
      have e40 : TX (gm_u (gm_u I3 4 m (nI (xv F n (xe F n (xe F n p))))) 5 m 0) n F := TX_k b4 rfl rfl
      have e4 : TX I4 n F := TX_f e40 c1
      refine j_nu (R := Q) (lo := 0) (hi := 10) (I0 := I) (K := fun v3 q3 => Sum.inr (gs1 D (xv F n (xe F n p)) (xv F n (xe F n (xe F n p))) v3, q3)) e4 (xe_le b6).1 c2 (kO.tr (n6D c1.1)) (fun k hk => (c1.2 k (Or.inl hk)).trans (b2 k hk)) (by omega) (by omega) hl3 (fun I' q => ⟨rfl, bf q⟩) (fun z3 hl4 I5 s1 s2 s3 s4 s5 s6 => ⟨rfl, bt ⟨v6, ?_⟩⟩)
      rw [s3]
      exact hl4 _ (KO.u rfl (KO.u rfl ((kO.tr (n6D c1.1)).tr (n6D s1)))) s2 (NJ_k s5 rfl) s6 (fin1 I5 _ (KO.tr c1.1 s1))
    · rw [if_neg y] at hl3
      have := fin1 (gm_u (gm_u I3 4 m (nI (xv F n (xe F n (xe F n p))))) 5 m 0) 0 KO.rf
      have u2 : gm_u (gm_u (gm_u I3 4 m (nI (xv F n (xe F n (xe F n p))))) 5 m 0) 5 m (nI 0) = gm_u (gm_u I3 4 m (nI (xv F n (xe F n (xe F n p))))) 5 m 0 := by
        funext o j
        by_cases q : o = 5
        · subst q
          by_cases q2 : j = m
          · subst q2; rw [gm_u_eq, gm_u_eq]; rfl
          · rw [gm_u_ne2 _ _ _ _ q2]
        · rw [gm_u_ne _ _ _ q]
      rw [u2] at this
      exact hl3 _ (KO.u rfl kO) b2 (NJ_k b5 rfl) b6 this
  · have m66 : m = 6 := by omega
    rw [if_pos (by rw [d0, m66]; rfl)] at hl
    refine j_refuse (q := 4) h (fun I' a1 a2 a3 => ⟨rfl, hl I' (n6D a1) ?_ a3⟩)
    rw [a2]; unfold fq; rw [if_neg (by omega)]
end Jr
