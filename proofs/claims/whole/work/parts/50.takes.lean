/-! the reference takes a number -/
def FRF (I I' : mI) : Prop := KO (fun o => o != 59) I I' ∧ ∀ k, k ≠ 11 → k ≠ 12 → I' 59 k = I 59 k
theorem nf_3 {F : Nat → Nat} {n p lo hi : Nat} : nf F n p lo hi ≤ 3 := by
  unfold nf fq
  split
  · split <;> omega
  · split <;> omega
theorem fq_ne {F : Nat → Nat} {n p q : Nat} (hq : 1 ≤ q) : 1 ≤ fq F n p q := by unfold fq; split <;> omega
theorem fq_le {F : Nat → Nat} {n p q : Nat} (hq : q ≤ 4) : fq F n p q ≤ 4 := by unfold fq; split <;> omega
section Tk
variable {g : gm_G} {I : mI} {L : mL} {c : gm_cfg}
theorem m_takes {Q : Int32 → mI → mL → gm_cfg → Prop} {n p lo hi : Nat} {F : Nat → Nat} (e : TXM I n F) (hp : p ≤ n) (h : NM I n F p) (h0 : I 59 11 = 0) (hlo : lo < 2 ^ 20) (hhi : hi < 2 ^ 20) (k1 : nf F n p lo hi = 0 → ∀ I', FRM I I' → NM I' n F (xe F n p) → Q (nI (xv F n p)) I' L c) (k2 : ¬ nf F n p lo hi = 0 → ∀ v I', FRF I I' → I' 59 11 = nI (nf F n p lo hi) → I' 59 12 = nI (xb F n p) → Q v I' L c) : C_M_takes g (nI lo) (nI hi) I L c Q := by
  have fr : ∀ (x y : Int32), FRF I (gm_u (gm_u I 59 11 x) 59 12 y) := fun x y => ⟨KO.u rfl (KO.u rfl KO.rf), fun k h1 h2 => by rw [gm_u_ne2 _ _ _ _ h2, gm_u_ne2 _ _ _ _ h1]⟩
  refine e_M_takes (m_is (k := 9) h (by omega) h0 (fun z => bt ?_) (fun z => bf (m_fails (q := 2) h h0 (br_f ?_ ?_))))
  · have vb := xv_b z
    rw [h.2.2.2 z]
    have bad : (xv F n p < lo ∨ hi < xv F n p) → C_M_fails g 3 I L c (fun I15 L16 c17 => (((I15 59 11) = 0 → (C_M_next g I15 L16 c17 (fun I18 L19 c20 => Q (I15 59 10) I18 L19 c20))) ∧ (¬ (I15 59 11) = 0 → Q (I15 59 10) I15 L16 c17))) := by
      intro q
      have e3 : nf F n p lo hi = 3 := by unfold nf; rw [if_pos z, if_pos q]
      have e4 : fq F n p 3 = 3 := by unfold fq; rw [if_neg (by omega)]
      refine m_fails (q := 3) h h0 (br_f ?_ (k2 (by omega) _ _ (fr _ _) ?_ (gm_u_eq _ _ _ _)))
      · show ¬ nI (fq F n p 3) = 0
        rw [e4]; decide
      · show nI (fq F n p 3) = _
        rw [e4, e3]
    by_cases q : xv F n p < lo ∨ hi < xv F n p
    · refine m_wf (a := lo) (b := hi) (by rw [Int32.toInt_toInt64, nI_toInt (by omega)]) (by rw [Int32.toInt_toInt64, nI_toInt (by omega)]) (by omega) (by omega) ?_ (bf (bad q))
      rcases q with q | q
      · exact Or.inl (nI_lt q (by omega))
      · exact Or.inr (nI_lt q (by omega))
    · refine m_wt (a := lo) (b := hi) (by rw [Int32.toInt_toInt64, nI_toInt (by omega)]) (by rw [Int32.toInt_toInt64, nI_toInt (by omega)]) (by omega) (by omega) (by omega) (bt (br_t h0 ?_))
      refine m_nextTok e (xe_le hp).1 h.2.2.1 (fun I' f1 f2 => ?_)
      rw [h.2.2.2 z]
      refine k1 ?_ I' f1 f2
      unfold nf; rw [if_pos z, if_neg q]
  · show ¬ nI (fq F n p 2) = 0
    have h1 := fq_ne (F := F) (n := n) (p := p) (q := 2) (by omega)
    have h2 := fq_le (F := F) (n := n) (p := p) (q := 2) (by omega)
    exact nI_ne0 (by omega) (by omega)
  · have e2 : nf F n p lo hi = fq F n p 2 := by unfold nf; rw [if_neg z]
    have h1 := fq_ne (F := F) (n := n) (p := p) (q := 2) (by omega)
    exact k2 (by omega) _ _ (fr _ _) (by rw [e2]; rfl) (gm_u_eq _ _ _ _)
theorem m_takesW {Q : Int32 → mI → mL → gm_cfg → Prop} {x y : Int32} (h0 : ¬ I 59 11 = 0) (hq : ∀ v, Q v I L c) : C_M_takes g x y I L c Q :=
  e_M_takes (m_isW h0 (bf (m_failsW h0 (br_f h0 (hq _)))))
end Tk
