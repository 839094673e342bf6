/-! the reference reads a line -/
def p963 (o : Nat) : Bool := o != 59 && o != 63
def FMM (I I' : mI) : Prop := KO p963 I I' ∧ ∀ k, k ≠ 6 → k ≠ 7 → k ≠ 9 → k ≠ 10 → k ≠ 11 → k ≠ 12 → I' 59 k = I 59 k
theorem FMM.rf {I : mI} : FMM I I := ⟨KO.rf, fun _ _ _ _ _ _ _ => rfl⟩
theorem p963_e {I I' : mI} (h : KO (fun o => o != 59) I I') : KO p963 I I' := fun o q => h o (by simp [p963] at q; simp; omega)
theorem FMM.m {I I' I'' : mI} (h : FMM I I') (k : FRM I' I'') : FMM I I'' := ⟨h.1.tr (p963_e k.1), fun j a b c d e f => (k.2 j a b c d).trans (h.2 j a b c d e f)⟩
theorem FMM.f {I I' I'' : mI} (h : FMM I I') (k : FRF I' I'') : FMM I I'' := ⟨h.1.tr (p963_e k.1), fun j a b c d e f => (k.2 j e f).trans (h.2 j a b c d e f)⟩
theorem FMM.u {I I' : mI} {k : Nat} {v : Int32} (h : FMM I I') : FMM I (gm_u I' 63 k v) := ⟨KO.u rfl h.1, fun j a b c d e f => h.2 j a b c d e f⟩
/-- something is wrong -/
def WS (I0 I : mI) (f b : Nat) : Prop := FMM I0 I ∧ I 59 11 = nI f ∧ I 59 12 = nI b ∧ 1 ≤ f ∧ f ≤ 4
theorem WS.u {I0 I : mI} {f b k : Nat} {v : Int32} (h : WS I0 I f b) : WS I0 (gm_u I 63 k v) f b := ⟨h.1.u, h.2.1, h.2.2⟩
theorem WS.n {I0 I : mI} {f b : Nat} (h : WS I0 I f b) : ¬ I 59 11 = 0 := fun q => by
  rw [h.2.1] at q
  have := neq (b := 0) q (by have := h.2.2.2; omega) (by omega)
  have := h.2.2.2
  omega
/-- all is well, the token from p on is next, the row is D -/
def OS (I0 I : mI) (n : Nat) (F : Nat → Nat) (p : Nat) (D : Nat → Int32) : Prop := FMM I0 I ∧ I 59 11 = 0 ∧ NM I n F p ∧ p ≤ n ∧ ∀ k, k < 110 → I 63 k = D k
theorem OS.u {I0 I : mI} {n p k : Nat} {F : Nat → Nat} {D : Nat → Int32} {v : Int32} (h : OS I0 I n F p D) : OS I0 (gm_u I 63 k v) n F p (us D k v) :=
  ⟨h.1.u, h.2.1, h.2.2.1, h.2.2.2.1, fun j hj => by
    by_cases q : j = k
    · subst q; rw [gm_u_eq, us_eq]
    · rw [gm_u_ne2 _ _ _ _ q, us_ne q]; exact h.2.2.2.2 j hj⟩
theorem OS.t {I0 I : mI} {n p : Nat} {F : Nat → Nat} {D : Nat → Int32} (h : OS I0 I n F p D) (e : TXM I0 n F) : TXM I n F := ⟨e.1, (h.1.2 8 (by omega) (by omega) (by omega) (by omega) (by omega) (by omega)).trans e.2.1, fun k hk => ⟨(e.2.2 k hk).1, by rw [h.1.1 62 rfl]; exact (e.2.2 k hk).2⟩⟩
theorem OS.m {I0 I I' : mI} {n p q : Nat} {F : Nat → Nat} {D : Nat → Int32} (h : OS I0 I n F p D) (k : FRM I I') (m : NM I' n F q) (hq : q ≤ n) : OS I0 I' n F q D := ⟨h.1.m k, (k.2 11 (by omega) (by omega) (by omega) (by omega)).trans h.2.1, m, hq, fun j hj => by rw [k.1 63 rfl]; exact h.2.2.2.2 j hj⟩
/-- what a line leads to -/
def PML (L : mL) (c : gm_cfg) (n : Nat) (F : Nat → Nat) (I0 : mI) (Q : mI → mL → gm_cfg → Prop) : Sum (Nat × Nat) ((Nat → Int32) × Nat) → Prop
  | Sum.inl x => ∀ I', WS I0 I' x.1 x.2 → Q I' L c
  | Sum.inr x => ∀ I', OS I0 I' n F x.2 x.1 → Q I' L c
section Ml
variable {g : gm_G} {I I0 : mI} {L : mL} {c : gm_cfg} {n p : Nat} {F : Nat → Nat} {D : Nat → Int32}
theorem m_nu {Q : Int32 → mI → mL → gm_cfg → Prop} {lo hi : Nat} (e : TXM I0 n F) (o : OS I0 I n F p D) (hlo : lo < 2 ^ 20) (hhi : hi < 2 ^ 20) (k1 : nf F n p lo hi = 0 → ∀ I', OS I0 I' n F (xe F n p) D → Q (nI (xv F n p)) I' L c) (k2 : ¬ nf F n p lo hi = 0 → ∀ v I', WS I0 I' (nf F n p lo hi) (xb F n p) → Q v I' L c) : C_M_takes g (nI lo) (nI hi) I L c Q :=
  m_takes (o.t e) o.2.2.2.1 o.2.2.1 o.2.1 hlo hhi (fun z I' f m => k1 z I' (o.m f m (xe_le o.2.2.2.1).1)) (fun z v I' f a b => k2 z v I' ⟨o.1.f f, a, b, by omega, by have := nf_3 (F := F) (n := n) (p := p) (lo := lo) (hi := hi); omega⟩)
theorem m_ea {Q : Bool → mI → mL → gm_cfg → Prop} {k : Nat} (e : TXM I0 n F) (o : OS I0 I n F p D) (hk : k ≤ 12) (k1 : xk F n p = k → ∀ I', OS I0 I' n F (xe F n p) D → Q true I' L c) (k2 : ¬ xk F n p = k → Q false I L c) : C_M_eats g (nI k) I L c Q :=
  m_eats (o.t e) o.2.2.2.1 o.2.2.1 hk o.2.1 (fun z I' f m => k1 z I' (o.m f m (xe_le o.2.2.2.1).1)) k2
theorem m_fa {Q : mI → mL → gm_cfg → Prop} {q : Nat} (o : OS I0 I n F p D) (h1 : 1 ≤ q) (h4 : q ≤ 4) (hq : ∀ I', WS I0 I' (fq F n p q) (xb F n p) → Q I' L c) : C_M_fails g (nI q) I L c Q :=
  m_fails o.2.2.1 o.2.1 (hq _ ⟨⟨KO.u rfl (KO.u rfl o.1.1), fun k a b c d e f => by rw [gm_u_ne2 _ _ _ _ f, gm_u_ne2 _ _ _ _ e]; exact o.1.2 k a b c d e f⟩, by rw [gm_u_ne2 _ _ _ _ (by omega), gm_u_eq], gm_u_eq _ _ _ _, fq_ne h1, fq_le h4⟩)
/-- a line's end -/
theorem m_tail {Q : mI → mL → gm_cfg → Prop} (e : TXM I0 n F) (o : OS I0 I n F p D) (hl : PML L c n F I0 Q (lt F n D p)) : C_M_eats g 10 I L c (fun b35 I32 L33 c34 => ((b35 = false → (C_M_fails g 2 I32 L33 c34 (fun I36 L37 c38 => Q (gm_u I36 63 8 ((I36 63 8) + 1)) L37 c38))) ∧ (b35 = true → Q (gm_u I32 63 8 ((I32 63 8) + 1)) L33 c34))) := by
  unfold lt at hl
  refine m_ea (k := 10) e o (by omega) (fun z I' o' => bt ?_) (fun z => bf (m_fa (q := 2) o (by omega) (by omega) (fun I' w => ?_)))
  · rw [if_pos z] at hl
    rw [o'.2.2.2.2 8 (by omega)]
    exact hl _ o'.u
  · rw [if_neg z] at hl
    exact hl _ w.u
theorem m_tailW {Q : mI → mL → gm_cfg → Prop} {f b : Nat} (w : WS I0 I f b) (hl : PML L c n F I0 Q (Sum.inl (f, b))) : C_M_eats g 10 I L c (fun b35 I32 L33 c34 => ((b35 = false → (C_M_fails g 2 I32 L33 c34 (fun I36 L37 c38 => Q (gm_u I36 63 8 ((I36 63 8) + 1)) L37 c38))) ∧ (b35 = true → Q (gm_u I32 63 8 ((I32 63 8) + 1)) L33 c34))) :=
  m_eatsW w.n (bf (m_failsW w.n (hl _ w.u)))
/-- a guesser -/
theorem m_gend {Q : mI → mL → gm_cfg → Prop} {m l s k : Nat} {i : Int32} (o : OS I0 I n F p D) (hm : m < 6) (hi : i = nI m) (h0 : D 0 = nI m) (hl : ∀ I', OS I0 I' n F p (gs1 D l s k) → Q I' L c) : vp_in (11 + i) 110 ∧ (vp_in (17 + i) 110 ∧ (vp_in (23 + i) 110 ∧ Q (gm_u (gm_u (gm_u (gm_u I 63 (Int32.toNatClampNeg (11 + i)) (nI l)) 63 (Int32.toNatClampNeg (17 + i)) (nI s)) 63 (Int32.toNatClampNeg (23 + i)) (nI k)) 63 0 (((gm_u (gm_u (gm_u I 63 (Int32.toNatClampNeg (11 + i)) (nI l)) 63 (Int32.toNatClampNeg (17 + i)) (nI s)) 63 (Int32.toNatClampNeg (23 + i)) (nI k)) 63 0) + 1)) L c)) := by
  subst hi
  refine ⟨via 11 m 110 (by omega) (by omega), via 17 m 110 (by omega) (by omega), via 23 m 110 (by omega) (by omega), ?_⟩
  have e1 : Int32.toNatClampNeg (11 + nI m) = 11 + m := ixa 11 m (by omega)
  have e2 : Int32.toNatClampNeg (17 + nI m) = 17 + m := ixa 17 m (by omega)
  have e3 : Int32.toNatClampNeg (23 + nI m) = 23 + m := ixa 23 m (by omega)
  have c0 : (D 0).toNatClampNeg = m := by rw [h0, nI_clamp (by omega)]
  rw [e1, e2, e3, gm_u_ne2 _ _ _ _ (by omega), gm_u_ne2 _ _ _ _ (by omega), gm_u_ne2 _ _ _ _ (by omega), o.2.2.2.2 0 (by omega)]
  have := hl _ (show OS I0 _ n F p (gs1 D l s k) from by
    unfold gs1
    rw [c0]
    exact (((o.u (k := 11 + m) (v := nI l)).u (k := 17 + m) (v := nI s)).u (k := 23 + m) (v := nI k)).u (k := 0) (v := D 0 + 1))
  exact this
theorem m_guesser {Q : mI → mL → gm_cfg → Prop} {m : Nat} (e : TXM I0 n F) (o : OS I0 I n F p D) (z2 : xk F n p = 2) (hm : m ≤ 6) (h0 : D 0 = nI m) (hl : PML L c n F I0 Q (ln F n D p)) : C_M_readGuesser g I L c Q := by
  unfold ln at hl
  rw [if_neg (by omega), if_neg (by omega), if_pos z2] at hl
  have g0 : I 63 0 = nI m := (o.2.2.2.2 0 (by omega)).trans h0
  refine e_M_readGuesser (br_c (fun z => ?_) (fun z => ?_))
  · rw [if_pos (by rw [h0, ← g0]; exact z)] at hl
    refine m_fa (q := 4) o (by omega) (by omega) (fun I' w => br_f w.n ?_)
    have : fq F n p 4 = 4 := by unfold fq; rw [if_neg (by omega)]
    rw [this] at w
    exact hl _ w
  · rw [if_neg (by rw [h0, ← g0]; exact z)] at hl
    have m5 : m < 6 := by
      rcases Nat.lt_or_ge m 6 with q | q
      · exact q
      · exact absurd (by rw [g0, show m = 6 by omega]; rfl) z
    have xl := (xe_le (F := F) o.2.2.2.1).1
    refine br_t o.2.1 (m_nextTok (o.t e) xl o.2.2.1.2.2.1 (fun I1 f1 n1 => ?_))
    have o1 : OS I0 I1 n F (xe F n p) D := o.m f1 n1 xl
    refine m_nu (lo := 1) (hi := 200) e o1 (by omega) (by omega) (fun y1 I2 o2 => ?_) (fun y1 v I2 w2 => ?_)
    · rw [nu1_t y1] at hl
      refine m_nu (lo := 0) (hi := 20) e o2 (by omega) (by omega) (fun y2 I3 o3 => ?_) (fun y2 v I3 w3 => ?_)
      · rw [nu1_t y2] at hl
        refine m_ea (k := 3) e o3 (by omega) (fun y3 I4 o4 => bt ?_) (fun y3 => bf (br_t o3.2.1 ?_))
        · rw [if_pos y3] at hl
          refine m_nu (lo := 0) (hi := 10) e o4 (by omega) (by omega) (fun y4 I5 o5 => br_t o5.2.1 ?_) (fun y4 v I5 w5 => br_f w5.n ?_)
          · rw [nu1_t y4] at hl
            exact m_gend o5 m5 g0 h0 hl
          · rw [nu1_f y4] at hl
            exact hl _ w5
        · rw [if_neg y3] at hl
          exact m_gend (k := 0) o3 m5 g0 h0 hl
      · rw [nu1_f y2] at hl
        exact m_eatsW w3.n (bf (br_f w3.n (hl _ w3)))
    · rw [nu1_f y1] at hl
      exact m_takesW w2.n (fun v2 => m_eatsW w2.n (bf (br_f w2.n (hl _ w2))))
theorem PML_ll_l {Q : mI → mL → gm_cfg → Prop} {x : Nat × Nat} (h : ln F n D p = Sum.inl x) (hl : PML L c n F I0 Q (ll F n D p)) : PML L c n F I0 Q (Sum.inl x) := by rw [ll_l h] at hl; exact hl
theorem PML_ll_r {Q : mI → mL → gm_cfg → Prop} {D' : Nat → Int32} {q : Nat} (h : ln F n D p = Sum.inr (D', q)) (hl : PML L c n F I0 Q (ll F n D p)) : PML L c n F I0 Q (lt F n D' q) := by rw [ll_r h] at hl; exact hl
theorem m_line {Q : mI → mL → gm_cfg → Prop} {m : Nat} (e : TXM I0 n F) (o : OS I0 I n F p D) (hm : m ≤ 6) (h0 : D 0 = nI m) (hl : PML L c n F I0 Q (ll F n D p)) : C_M_readLine g I L c Q := by
  refine e_M_readLine (m_ea (k := 0) e o (by omega) (fun z0 I1 o1 => bt ?_) (fun z0 => bf ?_))
  · refine m_nu (lo := 1) (hi := 999) e o1 (by omega) (by omega) (fun y1 I2 o2 => ?_) (fun y1 v I2 w2 => ?_)
    · obtain ⟨-, y3, y4, -⟩ := nf9 y1
      have ev : (nI (xv F n (xe F n p)) + 200 - 1 : Int32) = nI (xv F n (xe F n p) + 199) := by
        rw [show (nI (xv F n (xe F n p)) + 200 : Int32) = nI (xv F n (xe F n p) + 200) from nI_add _ 200]
        exact pk_sub (a := xv F n (xe F n p) + 200) (b := 1) (by omega)
      rw [ev]
      refine m_nu (lo := xv F n (xe F n p)) (hi := xv F n (xe F n p) + 199) e o2.u (by omega) (by omega) (fun y2 I3 o3 => ?_) (fun y2 v I3 w3 => ?_)
      · exact m_tail e o3.u (PML_ll_r (by unfold ln; rw [if_pos z0, nu1_t y1, nu1_t y2]) hl)
      · exact m_tailW w3.u (PML_ll_l (by unfold ln; rw [if_pos z0, nu1_t y1, nu1_f y2]) hl)
    · exact m_takesW w2.u.n (fun v2 => m_tailW w2.u.u (PML_ll_l (by unfold ln; rw [if_pos z0, nu1_f y1]) hl))
  refine m_ea (k := 1) e o (by omega) (fun z1 I1 o1 => bt ?_) (fun z1 => bf ?_)
  · refine m_nu (lo := 0) (hi := 999) e o1 (by omega) (by omega) (fun y1 I2 o2 => ?_) (fun y1 v I2 w2 => ?_)
    · refine m_nu (lo := 0) (hi := 8) e o2.u (by omega) (by omega) (fun y2 I3 o3 => ?_) (fun y2 v I3 w3 => ?_)
      · exact m_tail e o3.u (PML_ll_r (by unfold ln; rw [if_neg z0, if_pos z1, nu1_t y1, nu1_t y2]) hl)
      · exact m_tailW w3.u (PML_ll_l (by unfold ln; rw [if_neg z0, if_pos z1, nu1_t y1, nu1_f y2]) hl)
    · exact m_takesW w2.u.n (fun v2 => m_tailW w2.u.u (PML_ll_l (by unfold ln; rw [if_neg z0, if_pos z1, nu1_f y1]) hl))
  refine m_is (k := 2) o.2.2.1 (by omega) o.2.1 (fun z2 => bt ?_) (fun z2 => bf ?_)
  · refine m_guesser e o z2 hm h0 ?_
    cases el : ln F n D p with
    | inl x => exact fun I' w => m_tailW w (PML_ll_l el hl)
    | inr x => exact fun I' o' => m_tail e o' (PML_ll_r el hl)
  refine m_ea (k := 4) e o (by omega) (fun z4 I1 o1 => bt ?_) (fun z4 => bf ?_)
  · exact m_tail e o1.u (PML_ll_r (by unfold ln; rw [if_neg z0, if_neg z1, if_neg z2, if_pos z4]) hl)
  refine m_ea (k := 5) e o (by omega) (fun z5 I1 o1 => bt ?_) (fun z5 => bf ?_)
  · refine m_nu (lo := 0) (hi := 99) e o1 (by omega) (by omega) (fun y1 I2 o2 => ?_) (fun y1 v I2 w2 => ?_)
    · exact m_tail e o2.u (PML_ll_r (by unfold ln; rw [if_neg z0, if_neg z1, if_neg z2, if_neg z4, if_pos z5, nu1_t y1]) hl)
    · exact m_tailW w2.u (PML_ll_l (by unfold ln; rw [if_neg z0, if_neg z1, if_neg z2, if_neg z4, if_pos z5, nu1_f y1]) hl)
  refine m_ea (k := 6) e o (by omega) (fun z6 I1 o1 => bt ?_) (fun z6 => bf ?_)
  · refine m_nu (lo := 0) (hi := 9999) e o1 (by omega) (by omega) (fun y1 I2 o2 => ?_) (fun y1 v I2 w2 => ?_)
    · exact m_tail e o2.u (PML_ll_r (by unfold ln; rw [if_neg z0, if_neg z1, if_neg z2, if_neg z4, if_neg z5, if_pos z6, nu1_t y1]) hl)
    · exact m_tailW w2.u (PML_ll_l (by unfold ln; rw [if_neg z0, if_neg z1, if_neg z2, if_neg z4, if_neg z5, if_pos z6, nu1_f y1]) hl)
  refine m_ea (k := 7) e o (by omega) (fun z7 I1 o1 => bt ?_) (fun z7 => bf ?_)
  · refine m_nu (lo := 1) (hi := 999) e o1 (by omega) (by omega) (fun y1 I2 o2 => ?_) (fun y1 v I2 w2 => ?_)
    · exact m_tail e o2.u (PML_ll_r (by unfold ln; rw [if_neg z0, if_neg z1, if_neg z2, if_neg z4, if_neg z5, if_neg z6, if_pos z7, nu1_t y1]) hl)
    · exact m_tailW w2.u (PML_ll_l (by unfold ln; rw [if_neg z0, if_neg z1, if_neg z2, if_neg z4, if_neg z5, if_neg z6, if_pos z7, nu1_f y1]) hl)
  exact m_fa (q := 2) o (by omega) (by omega) (fun I' w => m_tailW w (PML_ll_l (by unfold ln; rw [if_neg z0, if_neg z1, if_neg z2, if_neg z4, if_neg z5, if_neg z6, if_neg z7]) hl))
end Ml
