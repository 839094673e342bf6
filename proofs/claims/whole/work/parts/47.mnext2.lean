/-! the reference's next token, whole -/
section Mo
variable {g : gm_G} {I : mI} {L : mL} {c : gm_cfg}
theorem m_smallE {Q : Bool → mI → mL → gm_cfg → Prop} (hq : Q false I L c) : C_M_isSmall g (-1) I L c Q := e_M_isSmall (br_t (by decide) hq)
theorem m_digitE {Q : Bool → mI → mL → gm_cfg → Prop} (hq : Q false I L c) : C_M_isDigit g (-1) I L c Q := e_M_isDigit (br_t (by decide) hq)
theorem m_run {Q : mI → mL → gm_cfg → Prop} {n b : Nat} {F : Nat → Nat} (e : TXM I n F) (hb : b ≤ n) (h6 : I 59 6 = nI b) (h7 : I 59 7 = nI b) (hq : ∀ I', FRM I I' → I' 59 6 = nI b → I' 59 7 = nI (ru F n isL b) → I' 59 9 = nI (kx F b (ru F n isL b) 8) → Q I' L c) : Z_M_next g Q 89 [(0, .ref 59)] [] I L c := by
  obtain ⟨s1, s2, s3, s4⟩ := ru_spec F n isL b
  have hn := e.1
  have s2' := s2 hb
  have key := lp (P := fun q => b ≤ q → ∀ I', FRM I I' → I' 59 6 = nI b → I' 59 7 = nI q → Z_M_next g Q 89 [(0, .ref 59)] [] I' L c) (ru F n isL b) ?_ ?_ b s1
  · exact key (Nat.le_refl _) I FRM.rf h6 h7
  · intro _ I' f1 f2 f3
    have e' := TXM_f e f1
    refine r_M_next_89 ?_
    rw [f3]
    rcases Nat.lt_or_ge (ru F n isL b) n with z | z
    · have := s4 z
      refine m_see e' z (m_isL (e'.2.2 _ z).1 ?_)
      rw [show isL (F (ru F n isL b)) = false by cases h : isL (F (ru F n isL b)) with | false => rfl | true => exact absurd h this]
      exact bf (m_keyAt e' s1 s2' f2 f3 (hq _ (f1.u (by omega)) f2 f3 (gm_u_eq _ _ _ _)))
    · exact m_seeE e' z (by omega) (m_smallE (bf (m_keyAt e' s1 s2' f2 f3 (hq _ (f1.u (by omega)) f2 f3 (gm_u_eq _ _ _ _)))))
  · intro q hq1 ih hbq I' f1 f2 f3
    have e' := TXM_f e f1
    obtain ⟨z1, z2⟩ := s3 q hbq hq1
    refine r_M_next_89 ?_
    rw [f3]
    refine m_see e' z1 (m_isL (e'.2.2 _ z1).1 ?_)
    rw [z2, f3, nI_1]
    exact bt (ih (by omega) _ (f1.u (by omega)) f2 (gm_u_eq _ _ _ _))
theorem m_digits {Q : mI → mL → gm_cfg → Prop} {n b : Nat} {F : Nat → Nat} (e : TXM I n F) (hb : b ≤ n) (h6 : I 59 6 = nI b) (h7 : I 59 7 = nI b) (h10 : I 59 10 = 0) (hq : ∀ I', FRM I I' → I' 59 6 = nI b → I' 59 7 = nI (ru F n isD b) → I' 59 9 = nI (if ru F n isD b - b ≤ 4 then 9 else 12) → I' 59 10 = nI (dg F b (if ru F n isD b - b < 4 then ru F n isD b - b else 4)) → Q I' L c) : Z_M_next g Q 146 [(0, .ref 59)] [] I L c := by
  obtain ⟨s1, s2, s3, s4⟩ := ru_spec F n isD b
  have hn := e.1
  have s2' := s2 hb
  have key := lp (P := fun q => b ≤ q → ∀ I', FRM I I' → I' 59 6 = nI b → I' 59 7 = nI q → I' 59 10 = nI (dg F b (if q - b < 4 then q - b else 4)) → Z_M_next g Q 146 [(0, .ref 59)] [] I' L c) (ru F n isD b) ?_ ?_ b s1
  · refine key (Nat.le_refl _) I FRM.rf h6 h7 ?_
    rw [h10, Nat.sub_self]; rfl
  · intro _ I' f1 f2 f3 f4
    have e' := TXM_f e f1
    have done : ((nI (ru F n isD b) - nI b ≤ 4 → Q (gm_u I' 59 9 9) L c) ∧ (¬ nI (ru F n isD b) - nI b ≤ 4 → Q (gm_u I' 59 9 12) L c)) := by
      rw [pk_sub s1]
      refine pk_le (ru F n isD b - b) 4 (fun z => hq _ (f1.u (by omega)) f2 f3 ?_ f4) (fun z => hq _ (f1.u (by omega)) f2 f3 ?_ f4)
      · rw [gm_u_eq, if_pos z]; rfl
      · rw [gm_u_eq, if_neg (by omega)]; rfl
    refine r_M_next_146 ?_
    rw [f3]
    rcases Nat.lt_or_ge (ru F n isD b) n with z | z
    · have := s4 z
      refine m_see e' z (m_isD (e'.2.2 _ z).1 ?_)
      rw [show isD (F (ru F n isD b)) = false by cases h : isD (F (ru F n isD b)) with | false => rfl | true => exact absurd h this, f3, f2]
      exact bf done
    · refine m_seeE e' z (by omega) (m_digitE ?_)
      rw [f3, f2]
      exact bf done
  · intro q hq1 ih hbq I' f1 f2 f3 f4
    have e' := TXM_f e f1
    obtain ⟨z1, z2⟩ := s3 q hbq hq1
    have zd : 48 ≤ F q ∧ F q ≤ 57 := by simp [isD] at z2; omega
    refine r_M_next_146 ?_
    rw [f3]
    refine m_see e' z1 (m_isD (e'.2.2 _ z1).1 ?_)
    rw [z2, f3, f2, pk_sub hbq, nI_1]
    refine bt (pk_le 4 (q - b) (fun y => ?_) (fun y => m_see e' z1 ?_))
    · refine ih (by omega) _ (f1.u (by omega)) f2 (gm_u_eq _ _ _ _) ?_
      rw [gm_u_ne2 _ _ _ _ (by omega), f4, if_neg (by omega), if_neg (by omega)]
    · rw [f3, nI_1, f4, if_pos y]
      refine ih (by omega) _ ((f1.u (by omega)).u (by omega)) f2 (gm_u_eq _ _ _ _) ?_
      rw [gm_u_ne2 _ _ _ _ (by omega), gm_u_eq, show (if q + 1 - b < 4 then q + 1 - b else 4) = q - b + 1 by split <;> omega, show (10 * nI (dg F b (q - b)) : Int32) = nI (10 * dg F b (q - b)) from pk_mul 10 _, nI_add]
      show nI (10 * dg F b (q - b) + F q) - nI 48 = nI (dg F b (q - b) * 10 + (F (b + (q - b)) - 48))
      rw [pk_sub (by omega), show b + (q - b) = q by omega]
      congr 1; omega
theorem m_nextTok {Q : mI → mL → gm_cfg → Prop} {n p : Nat} {F : Nat → Nat} (e : TXM I n F) (hp : p ≤ n) (h7 : I 59 7 = nI p) (hq : ∀ I', FRM I I' → NM I' n F p → Q I' L c) : C_M_next g I L c Q := by
  obtain ⟨s1, s2, s3, s4⟩ := ru_spec F n isB p
  have hn := e.1
  have s2' := s2 hp
  refine e_M_next ?_
  have eb : xb F n p = ru F n isB p := rfl
  have key := lp (P := fun q => p ≤ q → ∀ I', FRM I I' → I' 59 6 = nI q → Z_M_next g Q 8 [(0, .ref 59)] [] I' L c) (ru F n isB p) ?_ ?_ p s1
  · exact key (Nat.le_refl _) _ (FRM.rf.u (by omega)) (by rw [gm_u_eq]; exact h7)
  · intro _ I' f1 f2
    have e' := TXM_f e f1
    rw [← eb] at f2 s4 s2'
    refine r_M_next_8 ?_
    rw [f2]
    rcases Nat.lt_or_ge (xb F n p) n with z | z
    · have nb := s4 z
      obtain ⟨b1, b2⟩ := e'.2.2 (xb F n p) z
      have c10 : ¬ nI (F (xb F n p)) = 10 := fun q => nb (by rw [neq (b := 10) q (by omega) (by omega)]; rfl)
      have c32 : ¬ nI (F (xb F n p)) = 32 := fun q => nb (by rw [neq (b := 32) q (by omega) (by omega)]; rfl)
      refine m_see e' z (br_f c10 ?_)
      rw [f2]
      refine m_see e' z (br_f c32 ?_)
      rw [f2, e'.2.1]
      have f3 : FRM I (gm_u I' 59 7 (nI (xb F n p))) := f1.u (by omega)
      have e3 := TXM_f e f3
      have f26 : (gm_u I' 59 7 (nI (xb F n p))) 59 6 = nI (xb F n p) := f2
      refine br_t (nI_lt z (by omega)) (m_see e3 z (m_isL b1 ?_))
      cases hL : isL (F (xb F n p)) with
      | true =>
        refine bt (m_run (b := xb F n p) e3 (by omega) f26 (gm_u_eq _ _ _ _) (fun I4 g1 g2 g3 g4 => ?_))
        have ke : xe F n p = ru F n isL (xb F n p) := by unfold xe; rw [if_neg (by omega), if_pos hL]
        have kk : xk F n p = kx F (xb F n p) (xe F n p) 8 := by unfold xk; rw [if_neg (by omega), if_pos hL]
        have k8 := kx_8 (F := F) (b := xb F n p) (e := xe F n p) 8
        exact hq I4 (f3.tr g1) ⟨by rw [g4, kk, ke], g2, by rw [g3, ke], fun q => by rw [kk] at q; omega⟩
      | false =>
        refine bf ?_
        rw [f26]
        refine m_see e3 z (m_isD b1 ?_)
        cases hD : isD (F (xb F n p)) with
        | true =>
          refine bt (m_digits (b := xb F n p) (TXM_f e (f3.u (by omega))) (by omega) f2 rfl (gm_u_eq _ _ _ _) (fun I4 g1 g2 g3 g4 g5 => ?_))
          have ke : xe F n p = ru F n isD (xb F n p) := by unfold xe; rw [if_neg (by omega), if_neg (by rw [hL]; decide), if_pos hD]
          have kk : xk F n p = if xe F n p - xb F n p ≤ 4 then 9 else 12 := by unfold xk; rw [if_neg (by omega), if_neg (by rw [hL]; decide), if_pos hD]
          refine hq I4 ((f3.u (by omega)).tr g1) ⟨by rw [g4, kk, ke], g2, by rw [g3, ke], fun _ => ?_⟩
          rw [g5]; unfold xv; rw [ke]
        | false =>
          have ke : xe F n p = xb F n p + 1 := by unfold xe; rw [if_neg (by omega), if_neg (by rw [hL]; decide), if_neg (by rw [hD]; decide)]
          have kk : xk F n p = if F (xb F n p) = 59 then 10 else 12 := by unfold xk; rw [if_neg (by omega), if_neg (by rw [hL]; decide), if_neg (by rw [hD]; decide)]
          refine bf ?_
          rw [show (gm_u I' 59 7 (nI (xb F n p))) 59 7 = nI (xb F n p) from gm_u_eq _ _ _ _, f26, nI_1]
          have f4 : FRM I (gm_u (gm_u I' 59 7 (nI (xb F n p))) 59 7 (nI (xb F n p + 1))) := f3.u (by omega)
          refine m_see (TXM_f e f4) z (pk_eq (F (xb F n p)) 59 (fun y => ?_) (fun y => ?_))
          · rw [if_pos y] at kk
            exact hq _ (f4.u (by omega)) ⟨by rw [gm_u_eq, kk]; rfl, f2, by rw [ke]; rfl, fun q => by rw [kk] at q; omega⟩
          · rw [if_neg y] at kk
            exact hq _ (f4.u (by omega)) ⟨by rw [gm_u_eq, kk]; rfl, f2, by rw [ke]; rfl, fun q => by rw [kk] at q; omega⟩
    · refine m_seeE e' z (by omega) (br_f (by decide) ?_)
      rw [f2]
      refine m_seeE e' z (by omega) (br_f (by decide) ?_)
      rw [f2, e'.2.1]
      have k11 : xk F n p = 11 := by unfold xk; rw [if_pos z]
      have ke : xe F n p = xb F n p := by unfold xe; rw [if_pos z]
      exact br_f (nI_nlt z (by omega)) (hq _ ((f1.u (by omega)).u (by omega)) ⟨by rw [gm_u_eq, k11]; rfl, f2, by rw [ke]; rfl, fun q => by rw [k11] at q; omega⟩)
  · intro q hq1 ih hpq I' f1 f2
    have e' := TXM_f e f1
    obtain ⟨z1, z2⟩ := s3 q hpq hq1
    obtain ⟨b1, b2⟩ := e'.2.2 q z1
    have zb : F q = 10 ∨ F q = 32 := by simp [isB] at z2; exact z2
    refine r_M_next_8 ?_
    rw [f2]
    refine m_see e' z1 (pk_eq (F q) 10 (fun y => ?_) (fun y => ?_))
    · rw [f2, nI_1]
      exact ih (by omega) _ (f1.u (by omega)) (gm_u_eq _ _ _ _)
    · have h32 : F q = 32 := by omega
      rw [f2]
      refine m_see e' z1 (br_t (by rw [h32]; rfl) ?_)
      rw [f2, nI_1]
      exact ih (by omega) _ (f1.u (by omega)) (gm_u_eq _ _ _ _)
end Mo
