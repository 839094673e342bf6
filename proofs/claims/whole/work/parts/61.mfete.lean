/-! the reference reads a text -/
def n63 (o : Nat) : Bool := o != 63
theorem rs {I : mI} {D : Nat → Int32} {j : Nat} {v : Int32} (h : ∀ k, k < 110 → I 63 k = D k) : ∀ k, k < 110 → gm_u I 63 j v 63 k = us D j v k := fun k hk => by
  by_cases q : k = j
  · subst q; rw [gm_u_eq, us_eq]
  · rw [gm_u_ne2 _ _ _ _ q, us_ne q]; exact h k hk
/-- what a text leads to -/
def PE (g : gm_G) (x1 : Int32) (L : mL) (c : gm_cfg) (I0 : mI) (Q : Int32 → mI → mL → gm_cfg → Prop) : Sum (Nat × Nat) (Nat → Int32) → Prop
  | Sum.inl x => ∀ I', WS I0 I' x.1 x.2 → Q (-30 - nI x.1) (gm_u (gm_u I' 59 13 (nI x.1)) 59 14 (nI x.2)) L c
  | Sum.inr D => ∀ I', FMM I0 I' → (∀ k, k < 110 → I' 63 k = D k) → Z_M_fete g Q 120 [(0, .ref 59), (1, .int x1), (2, .int 0)] [] (gm_u (gm_u I' 59 13 0) 59 14 (-1)) L c
section Mf
variable {g : gm_G} {I I0 : mI} {L : mL} {c : gm_cfg} {n : Nat} {F : Nat → Nat}
theorem m_plain {Q : mI → mL → gm_cfg → Prop} (hq : ∀ I', KO n63 I I' → (∀ k, k < 110 → I' 63 k = D0 k) → Q I' L c) : C_M_plain_63 g I L c Q := by
  refine e_M_plain_63 ?_
  refine lp0 (P := fun i => ∀ I', (KO n63 I I' ∧ ∀ k, k < i → I' 63 k = 0) → Z_M_plain_63 g Q 2 [(0, .ref 63), (1, .int (nI i))] [] I' L c) 110 ?_ ?_ I ⟨KO.rf, fun k hk => absurd hk (by omega)⟩
  · intro I' h
    refine r_M_plain_63_2 (br_t (by decide) (hq _ (KO.u rfl (KO.u rfl (KO.u rfl (KO.u rfl (KO.u rfl h.1))))) ?_))
    exact rs (rs (rs (rs (rs h.2))))
  · intro i hi ih I' h
    refine r_M_plain_63_2 (br_f (nI_ge (b := 110) hi (by omega)) ⟨vp_in_nI hi (by omega), ?_⟩)
    rw [nI_clamp (by omega), nI_1]
    refine ih _ ⟨KO.u rfl h.1, fun k hk => ?_⟩
    rcases Nat.lt_or_ge k i with q | q
    · rw [gm_u_ne2 _ _ _ _ (by omega)]; exact h.2 k q
    · rw [show k = i by omega, gm_u_eq]
theorem m_lines {Q : Int32 → mI → mL → gm_cfg → Prop} {x1 : Int32} (e : TXM I0 n F) : ∀ f p D I, n ≤ p + f → OS I0 I n F p D → VD D → PE g x1 L c I0 Q (tx F n f D p) → Z_M_fete g Q 53 [(0, .ref 59), (1, .int x1)] [] I L c := by
  have fin11 : ∀ (f : Nat) p D I, OS I0 I n F p D → xk F n p = 11 → PE g x1 L c I0 Q (Sum.inr D) → Z_M_fete g Q 53 [(0, .ref 59), (1, .int x1)] [] I L c := by
    intro f p D I o z hl
    have h9 : I 59 9 = 11 := by rw [o.2.2.1.1, z]; rfl
    refine r_M_fete_53 (br_t o.2.1 (br_t h9 (br_t o.2.1 (br_t o.2.1 ?_))))
    rw [o.2.1]
    exact hl I o.1 o.2.2.2.2
  intro f
  induction f with
  | zero =>
    intro p D I hp o v hl
    have : p = n := by have := o.2.2.2.1; omega
    subst this
    exact fin11 0 p D I o xk_n hl
  | succ f ih =>
    intro p D I hp o v hl
    unfold tx at hl
    by_cases z : xk F n p = 11
    · rw [if_pos z] at hl
      exact fin11 0 p D I o z hl
    rw [if_neg z] at hl
    have h9 : ¬ I 59 9 = 11 := fun q => by
      rw [o.2.2.1.1] at q
      have := xk_b (F := F) (n := n) (p := p)
      exact z (neq (b := 11) q (by omega) (by omega))
    obtain ⟨m, m6, m0, -⟩ := v.1
    refine r_M_fete_53 (br_t o.2.1 (br_f h9 (m_line e o m6 m0 ?_)))
    cases el : ll F n D p with
    | inl x =>
      rw [el] at hl
      intro I' w
      refine r_M_fete_53 (br_f w.n (br_f w.n (br_f w.n ?_)))
      rw [w.2.1, w.2.2.1]
      exact hl I' w
    | inr x =>
      obtain ⟨D1, q⟩ := x
      rw [el] at hl
      have lq := ll_q el o.2.2.2.1
      intro I' o'
      exact ih q D1 I' (by omega) o' (VD_ll v el o.2.2.2.1) hl
def n60 (o : Nat) : Bool := o != 60
theorem m_120 {Q : Int32 → mI → mL → gm_cfg → Prop} {x1 : Int32} (hq : ∀ I', KO n60 I I' → (∀ k, k < 110 → I' 60 k = I 63 k) → (∀ k, 110 ≤ k → I' 60 k = I 60 k) → Q (I 63 8) I' L c) : Z_M_fete g Q 120 [(0, .ref 59), (1, .int x1), (2, .int 0)] [] I L c := by
  refine lp0 (P := fun i => ∀ I', (KO n60 I I' ∧ (∀ k, k < i → I' 60 k = I 63 k) ∧ ∀ k, 110 ≤ k → I' 60 k = I 60 k) → Z_M_fete g Q 120 [(0, .ref 59), (1, .int x1), (2, .int (nI i))] [] I' L c) 110 ?_ ?_ I ⟨KO.rf, fun k hk => absurd hk (by omega), fun _ _ => rfl⟩
  · intro I' h
    refine r_M_fete_120 (br_t (by decide) ?_)
    rw [h.2.1 8 (by omega)]
    exact hq I' h.1 h.2.1 h.2.2
  · intro i hi ih I' h
    refine r_M_fete_120 (br_f (nI_ge (b := 110) hi (by omega)) ⟨vp_in_nI hi (by omega), vp_in_nI (by omega) (by omega), ?_⟩)
    rw [nI_clamp (by omega), nI_1]
    refine ih _ ⟨KO.u rfl h.1, fun k hk => ?_, fun k hk => ?_⟩
    · rcases Nat.lt_or_ge k i with q | q
      · rw [gm_u_ne2 _ _ _ _ (by omega)]; exact h.2.1 k q
      · rw [show k = i by omega, gm_u_eq, h.1 63 rfl]
    · rw [gm_u_ne2 _ _ _ _ (by omega)]; exact h.2.2 k hk
def pMf (o : Nat) : Bool := o != 59 && o != 60 && o != 63
/-- what the reference's fete leads to -/
def PF (L : mL) (c : gm_cfg) (I : mI) (Q : Int32 → mI → mL → gm_cfg → Prop) : Sum (Nat × Nat) (Nat → Int32) → Prop
  | Sum.inl x => ∀ I', KO pMf I I' → I' 60 = I 60 → I' 59 5 = 0 → I' 59 13 = nI x.1 → I' 59 14 = nI x.2 → Q (-30 - nI x.1) I' L c
  | Sum.inr D => ∀ I', KO pMf I I' → (∀ k, k < 110 → I' 60 k = D k) → (∀ k, 110 ≤ k → I' 60 k = I 60 k) → I' 59 5 = 0 → I' 59 13 = 0 → I' 59 14 = -1 → Q (D 8) I' L c
theorem m_fete {Q : Int32 → mI → mL → gm_cfg → Prop} {T : Nat} (hT : T ≤ 700) (hn : n ≤ T) (h5 : I 59 5 = nI T) (hF : ∀ k, k < n → F k < 256 ∧ I 62 k = nI (F k)) (hl : PF L c I Q (tx F n n D0 0)) : C_M_fete g (nI n) I L c Q := by
  refine e_M_fete ?_
  rw [h5]
  refine m_wt (a := 0) (b := T) rfl (by rw [Int32.toInt_toInt64, nI_toInt (by omega)]) (by omega) hn (by omega) (bt ?_)
  refine m_plain (fun I1 k1 r1 => ?_)
  have s : ∀ k, k ≠ 0 → k ≠ 5 → k ≠ 7 → k ≠ 8 → k ≠ 11 → I1 59 k = I 59 k := fun k a b c d e => by
    rw [k1 59 rfl, gm_u_ne2 _ _ _ _ e, gm_u_ne2 _ _ _ _ c, gm_u_ne2 _ _ _ _ b, gm_u_ne2 _ _ _ _ d, gm_u_ne2 _ _ _ _ a]
  have t1 : TXM I1 n F := ⟨by omega, by rw [k1 59 rfl]; rfl, fun k hk => ⟨(hF k hk).1, by rw [k1 62 rfl]; exact (hF k hk).2⟩⟩
  have k2 : KO p963 I I1 := fun o q => by
    have : o ≠ 59 ∧ o ≠ 63 := by
      refine ⟨?_, ?_⟩ <;> (rintro rfl; cases q)
    rw [k1 o (by simp [n63]; omega), gm_u_ne _ _ _ this.1, gm_u_ne _ _ _ this.1, gm_u_ne _ _ _ this.1, gm_u_ne _ _ _ this.1, gm_u_ne _ _ _ this.1]
  have z5 : I1 59 5 = 0 := by rw [k1 59 rfl]; rfl
  refine m_nextTok (p := 0) t1 (by omega) (by rw [k1 59 rfl]; rfl) (fun I2 f2 n2 => ?_)
  have o2 : OS I1 I2 n F 0 D0 := ⟨FMM.rf.m f2, by rw [f2.2 11 (by omega) (by omega) (by omega) (by omega), k1 59 rfl]; rfl, n2, by omega, fun k hk => by rw [f2.1 63 rfl]; exact r1 k hk⟩
  refine m_lines t1 n 0 D0 I2 (by omega) o2 VD_0 ?_
  cases e : tx F n n D0 0 with
  | inl x =>
    rw [e] at hl
    intro I' w
    have kk : KO pMf I I' := fun o q => by
      have q2 : p963 o = true := by simp [pMf] at q; simp [p963]; omega
      exact (w.1.1 o q2).trans (k2 o q2)
    refine hl _ (KO.u rfl (KO.u rfl kk)) ?_ ?_ ?_ (gm_u_eq _ _ _ _)
    · show I' 60 = I 60
      exact (w.1.1 60 rfl).trans (k2 60 rfl)
    · rw [gm_u_ne2 _ _ _ _ (by omega), gm_u_ne2 _ _ _ _ (by omega), w.1.2 5 (by omega) (by omega) (by omega) (by omega) (by omega) (by omega)]
      exact z5
    · rw [gm_u_ne2 _ _ _ _ (by omega), gm_u_eq]
  | inr D =>
    rw [e] at hl
    intro I' w r
    refine m_120 (fun I3 k3 a3 b3 => ?_)
    have e8 : I' 63 8 = D 8 := r 8 (by omega)
    rw [show gm_u (gm_u I' 59 13 0) 59 14 (-1) 63 8 = D 8 from e8]
    refine hl I3 ?_ (fun k hk => (a3 k hk).trans (r k hk)) (fun k hk => ?_) ?_ ?_ ?_
    · intro o q
      have q2 : p963 o = true ∧ n60 o = true ∧ o ≠ 59 := by simp [pMf] at q; simp [p963, n60]; omega
      rw [k3 o q2.2.1, gm_u_ne _ _ _ q2.2.2, gm_u_ne _ _ _ q2.2.2]
      exact (w.1 o q2.1).trans (k2 o q2.1)
    · rw [b3 k hk]
      show I' 60 k = I 60 k
      rw [w.1 60 rfl, k2 60 rfl]
    · rw [k3 59 rfl, gm_u_ne2 _ _ _ _ (by omega), gm_u_ne2 _ _ _ _ (by omega), w.2 5 (by omega) (by omega) (by omega) (by omega) (by omega) (by omega)]
      exact z5
    · rw [k3 59 rfl, gm_u_ne2 _ _ _ _ (by omega), gm_u_eq]
    · rw [k3 59 rfl, gm_u_eq]
end Mf
