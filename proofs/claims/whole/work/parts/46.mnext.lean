/-! the reference's next token -/
def FRM (I I' : mI) : Prop := KO (fun o => o != 59) I I' ∧ ∀ k, k ≠ 6 → k ≠ 7 → k ≠ 9 → k ≠ 10 → I' 59 k = I 59 k
theorem FRM.rf {I : mI} : FRM I I := ⟨KO.rf, fun _ _ _ _ _ => rfl⟩
theorem FRM.u {I I' : mI} {k : Nat} {v : Int32} (h : FRM I I') (hk : k = 6 ∨ k = 7 ∨ k = 9 ∨ k = 10) : FRM I (gm_u I' 59 k v) := ⟨KO.u rfl h.1, fun j h1 h2 h3 h4 => by rw [gm_u_ne2 _ _ _ _ (by omega)]; exact h.2 j h1 h2 h3 h4⟩
theorem FRM.tr {I I' I'' : mI} (h : FRM I I') (h' : FRM I' I'') : FRM I I'' := ⟨h.1.tr h'.1, fun k h1 h2 h3 h4 => (h'.2 k h1 h2 h3 h4).trans (h.2 k h1 h2 h3 h4)⟩
def TXM (I : mI) (n : Nat) (F : Nat → Nat) : Prop := n ≤ 700 ∧ I 59 8 = nI n ∧ ∀ k, k < n → F k < 256 ∧ I 62 k = nI (F k)
theorem TXM_f {I I' : mI} {n : Nat} {F : Nat → Nat} (e : TXM I n F) (h : FRM I I') : TXM I' n F := ⟨e.1, (h.2 8 (by omega) (by omega) (by omega) (by omega)).trans e.2.1, fun k hk => ⟨(e.2.2 k hk).1, by rw [h.1 62 rfl]; exact (e.2.2 k hk).2⟩⟩
def NM (I : mI) (n : Nat) (F : Nat → Nat) (p : Nat) : Prop := I 59 9 = nI (xk F n p) ∧ I 59 6 = nI (xb F n p) ∧ I 59 7 = nI (xe F n p) ∧ (xk F n p = 9 → I 59 10 = nI (xv F n p))
theorem ch8 : ∀ i, i < 8 → (∀ k, k < 7 → k < kl i → gm_ch 8 (kp i + k) = gm_ch i k ∧ ¬ gm_ch i k = 32) ∧ gm_ch 8 (kp i + kl i) = 32 ∧ kp (i + 1) = kp i + kl i + 1 ∧ kl i ≤ 7 ∧ kp i + kl i < 48 := by decide
section Mn
variable {g : gm_G} {I : mI} {L : mL} {c : gm_cfg}
theorem m_see {Q : Int32 → mI → mL → gm_cfg → Prop} {n k : Nat} {F : Nat → Nat} (e : TXM I n F) (hk : k < n) (hq : Q (nI (F k)) I L c) : C_M_see g (nI k) I L c Q := by
  have hn := e.1
  refine e_M_see ?_
  rw [e.2.1]
  refine br_f (nI_ge hk (by omega)) ⟨vp_in_nI (by omega) (by omega), ?_⟩
  rw [nI_clamp (by omega), (e.2.2 k hk).2]
  exact hq
theorem m_seeE {Q : Int32 → mI → mL → gm_cfg → Prop} {n k : Nat} {F : Nat → Nat} (e : TXM I n F) (hk : n ≤ k) (hk2 : k ≤ 700) (hq : Q (-1) I L c) : C_M_see g (nI k) I L c Q := by
  refine e_M_see ?_
  rw [e.2.1]
  exact br_t (nI_le hk (by omega)) hq
theorem m_keyAt {Q : Int32 → mI → mL → gm_cfg → Prop} {n b e : Nat} {F : Nat → Nat} (t : TXM I n F) (hbe : b ≤ e) (he : e ≤ n) (h6 : I 59 6 = nI b) (h7 : I 59 7 = nI e) (hq : Q (nI (kx F b e 8)) I L c) : C_M_keyAt g I L c Q := by
  have hn := t.1
  refine e_M_keyAt ?_
  have key := lp0 (P := fun i => kx F b e 8 = kx F b e (8 - i) → Z_M_keyAt g Q 4 [(0, .ref 59), (1, .int (nI i)), (2, .int (nI (kp i)))] [] I L c) 8 ?_ ?_
  · exact key rfl
  · intro hk
    refine r_M_keyAt_4 (br_t (by decide) ?_)
    rw [hk] at hq
    exact hq
  · intro i hi ih hk
    obtain ⟨c1, c2, c3, c4, c5⟩ := ch8 i hi
    have st : kx F b e (8 - i) = if kw F b e i = true then i else kx F b e (8 - (i + 1)) := by
      rw [show 8 - i = (8 - (i + 1)) + 1 by omega]
      show (if kw F b e (7 - (8 - (i + 1))) = true then 7 - (8 - (i + 1)) else _) = _
      rw [show 7 - (8 - (i + 1)) = i by omega]
    refine r_M_keyAt_4 (br_f (nI_ge (b := 48) (by omega) (by omega)) ?_)
    have skip : ∀ x3, ¬ kw F b e i = true → Z_M_keyAt g Q 97 [(0, .ref 59), (1, .int (nI i)), (2, .int (nI (kp i))), (3, .int x3)] [] I L c := by
      intro x3 hn2
      rw [if_neg hn2] at st
      have ih' := ih (by rw [hk, st])
      have k9 := lp0 (P := fun d => Z_M_keyAt g Q 97 [(0, .ref 59), (1, .int (nI i)), (2, .int (nI (kp i + d))), (3, .int x3)] [] I L c) (kl i) ?_ ?_
      · exact k9
      · refine r_M_keyAt_97 ⟨vp_in_nI c5 (by omega), ?_⟩
        rw [nI_clamp (by omega), nI_1, nI_1, ← c3]
        exact br_t c2 ih'
      · intro d hd ih9
        refine r_M_keyAt_97 ⟨vp_in_nI (by omega) (by omega), ?_⟩
        rw [nI_clamp (by omega), nI_1, nI_1, (c1 d (by omega) hd).1]
        exact br_f (c1 d (by omega) hd).2 ih9
    obtain ⟨m, m1, m2, m3⟩ := SR_ex (fun k => ¬ (b + k < e ∧ nI (F (b + k)) = gm_ch i k)) (kl i)
    have m2' : ∀ k, k < m → b + k < e ∧ nI (F (b + k)) = gm_ch i k := fun k hk => Classical.not_not.mp (m2 k hk)
    have IX : ∀ k, k ≤ kl i → vp_in (nI (kp i) + nI k) 48 ∧ Int32.toNatClampNeg (nI (kp i) + nI k) = kp i + k := fun k hk => by
      rw [nI_add]
      exact ⟨vp_in_nI (by omega) (by omega), nI_clamp (by omega)⟩
    refine lp0 (P := fun k => Z_M_keyAt g Q 15 [(0, .ref 59), (1, .int (nI i)), (2, .int (nI (kp i))), (3, .int (nI k))] [] I L c) m ?_ ?_
    · obtain ⟨v1, v2⟩ := IX m m1
      refine r_M_keyAt_15 ⟨v1, ?_⟩
      rw [v2, h6, h7, nI_add b m]
      rcases Nat.lt_or_ge m (kl i) with q | q
      · obtain ⟨d1, d2⟩ := c1 m (by omega) q
        have m3' := m3 q
        have nk : ¬ kw F b e i = true := by
          intro u
          unfold kw at u
          rw [Bool.and_eq_true, decide_eq_true_iff, decide_eq_true_iff] at u
          exact m3' ⟨by omega, u.2 m q⟩
        rw [d1]
        refine br_f d2 (pk_le e (b + m) (fun z => ⟨v1, br_f d2 (skip _ nk)⟩) (fun z => ⟨vp_in_nI (by omega) (by omega), v1, ?_⟩))
        rw [nI_clamp (by omega), (t.2.2 (b + m) (by omega)).2]
        exact br_f (fun u => m3' ⟨z, u⟩) ⟨v1, br_f d2 (skip _ nk)⟩
      · have em : m = kl i := by omega
        rw [em, c2]
        refine br_t rfl ⟨by rw [← em]; exact v1, br_t rfl (pk_eq (b + kl i) e (fun z => ?_) (fun z => skip _ ?_))⟩
        · have yk : kw F b e i = true := by
            unfold kw
            rw [Bool.and_eq_true, decide_eq_true_iff, decide_eq_true_iff]
            exact ⟨by omega, fun k hk => (m2' k (by omega)).2⟩
          rw [if_pos yk] at st
          rw [hk, st] at hq
          exact hq
        · intro u
          unfold kw at u
          rw [Bool.and_eq_true, decide_eq_true_iff, decide_eq_true_iff] at u
          omega
    · intro k hkm ih3
      obtain ⟨v1, v2⟩ := IX k (by omega)
      obtain ⟨d1, d2⟩ := c1 k (by omega) (by omega)
      obtain ⟨y1, y2⟩ := m2' k hkm
      refine r_M_keyAt_15 ⟨v1, ?_⟩
      rw [v2, h6, h7, nI_add b k, d1]
      refine br_f d2 (br_f (nI_ge y1 (by omega)) ⟨vp_in_nI (by omega) (by omega), v1, ?_⟩)
      rw [nI_clamp (by omega), (t.2.2 (b + k) (by omega)).2, nI_1]
      exact br_t y2 ih3
end Mn
