/-! fete -/
section Ft
variable {g : gm_G} {I : mI} {L : mL} {c : gm_cfg}
theorem j_adopt {Q : mI → mL → gm_cfg → Prop} {w a : Option Nat} {D : Nat → Int32} {s : Nat} (v : VD D) (d : DR I D) (hs : s ≤ 40) (h20 : I 20 2 = nI s) (hq : ∀ I', KO (fun o => decide (o < 16 ∨ 22 < o)) I I' → I' 16 13 = D 8 → (∀ J : mI, (∀ o, 16 ≤ o → o ≤ 20 → J o = I' o) → (∀ k, k < 110 → J 60 k = D k) → FS0 J) → Q I' L (w, a, some 1)) : C_Fe16_takeFrom_2 g I L (w, a, some 1) (fun I4 L5 c6 => c6 = (w, a, some 1) ∧ C_Sh20_cutTo g 0 I4 L5 (w, a, some 1) Q) := by
  obtain ⟨m, m6, d0, d5, da, db, dc, dd, de, df, dg, dp, dj⟩ := d
  have z2 : gm_z (I 2 2) := by
    rcases dp with q | q
    · exact gz (Or.inl q.1)
    · exact gz (Or.inr q.1)
  have z9 : gm_z (I 2 9) := by
    obtain ⟨a, a1, a2⟩ := v.2.2.2.2.2.2.1
    rw [df, a2]
    rcases Nat.eq_zero_or_pos a with e | e
    · rw [e]; exact gz (Or.inl rfl)
    · rw [show a = 1 by omega]; exact gz (Or.inr rfl)
  refine e_Fe16_takeFrom_2 ⟨z2, z9, rfl, ?_⟩
  have key : ∀ J : mI, (∀ k, J 16 k = (gm_u (gm_u (gm_u (gm_u (gm_u (va_up (va_up (va_up (gm_u (gm_u (gm_u (gm_u (gm_u (gm_u I 16 0 (I 2 0)) 16 1 (I 2 1)) 16 2 (I 2 2)) 16 3 (I 2 3)) 16 4 (I 2 4)) 16 5 (I 2 5)) 17 (va_cpy (I 3) (I 17) (Int32.toNatClampNeg 0) (Int32.toNatClampNeg 0) (Int32.toNatClampNeg 6))) 18 (va_cpy (I 4) (I 18) (Int32.toNatClampNeg 0) (Int32.toNatClampNeg 0) (Int32.toNatClampNeg 6))) 19 (va_cpy (I 5) (I 19) (Int32.toNatClampNeg 0) (Int32.toNatClampNeg 0) (Int32.toNatClampNeg 6))) 16 9 (I 2 9)) 16 10 (I 2 10)) 16 11 (I 2 11)) 16 12 (I 2 12)) 16 13 (I 2 13)) 16 k) → (∀ j, j < 6 → J 17 j = I 3 j ∧ J 18 j = I 4 j ∧ J 19 j = I 5 j) → J 20 2 = 0 → (∀ k, k < 110 → J 60 k = D k) → FS0 J := by
    intro J e16 eg es e60
    refine FS0_D v e60 ?_ ?_ ?_ ?_ ?_ ?_ ?_ ?_ ?_ (fun j hj _ hc => ?_) es
    · rw [e16, d0]; exact d5
    · rw [e16]; exact da
    · rw [e16]; exact db
    · rw [e16]; exact dc
    · rw [e16]; exact dd
    · rw [e16]; exact de
    · rw [e16]; exact df
    · rw [e16]; exact dg
    · rw [e16, e16, e16]; exact dp
    · rw [d0, nI_clamp (by omega)] at hc
      have e := eg j hj
      rw [e.1, e.2.1, e.2.2]
      exact dj j hc
  refine e_Sh20_cutTo (br_f (by decide) (br_c (fun z => ?_) (fun z => ?_)))
  · refine hq _ ?_ dg (fun J e16 e60 => key J (fun k => by rw [e16 16 (by omega) (by omega)]) (fun j hj => ⟨?_, ?_, ?_⟩) ?_ e60)
    · intro o q
      have q2 : o ≠ 16 ∧ o ≠ 17 ∧ o ≠ 18 ∧ o ≠ 19 := by
        simp at q; omega
      simp only [gm_u_ne _ _ _ q2.1, va_up, if_neg q2.2.1, if_neg q2.2.2.1, if_neg q2.2.2.2]
    · rw [e16 17 (by omega) (by omega)]; exact cpy0 (I 3) (I 17) 6 hj
    · rw [e16 18 (by omega) (by omega)]; exact cpy0 (I 4) (I 18) 6 hj
    · rw [e16 19 (by omega) (by omega)]; exact cpy0 (I 5) (I 19) 6 hj
    · rw [e16 20 (by omega) (by omega)]
      have z' : I 20 2 ≤ 0 := z
      show I 20 2 = 0
      rw [h20] at z' ⊢
      have := nle (b := 0) z' (by omega) (by omega)
      rw [show s = 0 by omega]; rfl
  · refine hq _ ?_ dg (fun J e16 e60 => key J (fun k => by rw [e16 16 (by omega) (by omega)]; rfl) (fun j hj => ⟨?_, ?_, ?_⟩) ?_ e60)
    · intro o q
      have q2 : o ≠ 16 ∧ o ≠ 17 ∧ o ≠ 18 ∧ o ≠ 19 ∧ o ≠ 20 := by
        simp at q; omega
      simp only [gm_u_ne _ _ _ q2.1, gm_u_ne _ _ _ q2.2.2.2.2, va_up, if_neg q2.2.1, if_neg q2.2.2.1, if_neg q2.2.2.2.1]
    · rw [e16 17 (by omega) (by omega)]; exact cpy0 (I 3) (I 17) 6 hj
    · rw [e16 18 (by omega) (by omega)]; exact cpy0 (I 4) (I 18) 6 hj
    · rw [e16 19 (by omega) (by omega)]; exact cpy0 (I 5) (I 19) 6 hj
    · rw [e16 20 (by omega) (by omega)]
      exact gm_u_eq _ _ _ _
theorem P_fete {x : Int32} (hI : Inv I L c) : C_J_fete g x I L c (mQ (C_M_fete g x)) := by
  obtain ⟨T, hT, t1, t2, t3⟩ := hI.2.1
  obtain ⟨w, a, t⟩ := c
  have cf : CF (w, a, some 1) := by
    obtain ⟨t', q | q⟩ := hI.cf
    · cases q; exact ⟨some 1, Or.inl rfl⟩
    · cases q; exact ⟨some 1, Or.inr rfl⟩
  rcases inR x (T + 1) (by omega) with ⟨n, hn, rfl⟩ | hx
  · let F : Nat → Nat := fun k => (I 62 k).toNatClampNeg
    have hF : ∀ k, k < n → F k < 256 ∧ I 62 k = nI (F k) ∧ I 1 k = jb (F k) := fun k hk => by
      obtain ⟨b, b1, b2, b3⟩ := t3 k (by omega)
      have e : F k = b := by show (I 62 k).toNatClampNeg = b; rw [b2, nI_clamp (by omega)]
      rw [e]
      exact ⟨b1, b2, b3⟩
    refine e_J_fete (br_f (nI_pos (by omega)) (br_t (by rw [t1]; exact nI_le (by omega) (by omega)) ?_))
    refine j_text (F := F) (by omega) (fun k hk => ⟨(hF k hk).1, (hF k hk).2.2⟩) ?_
    have mm : ∀ {I' : mI} {Q : Int32 → mI → mL → gm_cfg → Prop}, I' 59 = I 59 → I' 62 = I 62 → PF L (w, a, some 1) I' Q (tx F n n D0 0) → C_M_fete g (nI n) I' L (w, a, some 1) Q := fun h1 h2 hl => m_fete (T := T) hT (by omega) (by rw [h1]; exact t2) (fun k hk => ⟨(hF k hk).1, by rw [h2]; exact (hF k hk).2.1⟩) hl
    cases e : tx F n n D0 0 with
    | inl y =>
      rw [e] at mm
      have yb := tx_f n 0 D0 e
      intro I1 k1 f0 f1
      refine ⟨rfl, br_f (fun q => ?_) (mm ((k1 59 rfl).trans rfl) ((k1 62 rfl).trans rfl) (fun I2 k2 h60 h5 h13 h14 => ⟨by rw [f0], ?_⟩))⟩
      · rw [f0] at q
        have := neq (b := 0) q (by omega) (by omega)
        omega
      · have K : ∀ o, pD o = true → pMf o = true → o ≠ 0 → I2 o = I o := fun o q1 q2 q3 => by
          rw [k2 o q2, k1 o q1, gm_u_ne _ _ _ q3]
        refine hI.setF (FS_congr (h60.trans ((k1 60 rfl).trans rfl)) (K 16 rfl rfl (by omega)) (K 17 rfl rfl (by omega)) (K 18 rfl rfl (by omega)) (K 19 rfl rfl (by omega)) (K 20 rfl rfl (by omega)) (K 21 rfl rfl (by omega)) (K 22 rfl rfl (by omega)) hI.1) ⟨0, by omega, ?_, h5, fun k hk => absurd hk (by omega)⟩ ⟨?_, ?_⟩ (fun k hk => by rw [h60, k1 60 rfl]; rfl) (fun o q => ?_) KO.rf cf
        · rw [k2 0 rfl, k1 0 rfl]; rfl
        · rw [h13, k2 6 rfl]; exact f0
        · rw [h14, k2 6 rfl]; exact f1
        · exact K o (by simp [oRI] at q; simp [pD]; omega) (by simp [oRI] at q; simp [pMf]; omega) (by rintro rfl; cases q)
    | inr D =>
      rw [e] at mm
      have v := VD_tx n 0 D0 VD_0 (by omega) e
      intro I1 k1 f0 f1 d
      have g20 := fG hI.1
      refine ⟨rfl, br_t f0 ?_⟩
      refine j_adopt (s := nv I 1) (Q := fun I7 L8 c9 => c9 = (w, a, some 1) ∧ mQ (C_M_fete g (nI n)) (I7 16 13) I7 L8 (w, a, some 1)) v d g20.2.1 (by rw [k1 20 rfl]; exact g20.2.2) (fun I2 k2 h13 hfs => ⟨rfl, ?_⟩)
      · refine mm (by rw [k2 59 rfl, k1 59 rfl]; rfl) (by rw [k2 62 rfl, k1 62 rfl]; rfl) (fun I3 k3 a3 b3 c5 c13 c14 => ⟨h13, ?_⟩)
        have K : ∀ o, pD o = true → pMf o = true → (o < 16 ∨ 22 < o) → o ≠ 0 → I3 o = I o := fun o q1 q2 q4 q3 => by
          rw [k3 o q2, k2 o (by simp; exact q4), k1 o q1, gm_u_ne _ _ _ q3]
        refine hI.setF (hfs I3 (fun o q1 q2 => k3 o (by simp [pMf]; omega)) a3) ⟨0, by omega, ?_, c5, fun k hk => absurd hk (by omega)⟩ ⟨?_, ?_⟩ (fun k hk => by rw [b3 k hk, k2 60 rfl, k1 60 rfl]; rfl) (fun o q => ?_) KO.rf cf
        · rw [k3 0 rfl, k2 0 rfl, k1 0 rfl]; rfl
        · rw [c13, k3 6 rfl, k2 6 rfl]; exact f0
        · rw [c14, k3 6 rfl, k2 6 rfl]; exact f1
        · exact K o (by simp [oRI] at q; simp [pD]; omega) (by simp [oRI] at q; simp [pMf]; omega) (by simp [oRI] at q; omega) (by rintro rfl; cases q)
  · refine e_J_fete ?_
    rw [t1]
    have go : mQ (C_M_fete g x) (-3) I L (w, a, t) := by
      refine e_M_fete ?_
      rw [t2]
      refine m_wf (a := 0) (b := T) rfl (by rw [Int32.toInt_toInt64, nI_toInt (by omega)]) (by omega) (by omega) ?_ (bf (fin hI rfl kT))
      rcases hx with h | h
      · exact Or.inl h
      · exact Or.inr (Int32.lt_iff_toInt_lt.mpr (by have := Int32.le_iff_toInt_le.mp h; rw [nI_toInt (by omega)] at this; rw [nI_toInt (by omega)]; omega))
    rcases hx with h | h
    · exact br_t h go
    · refine br_c (fun _ => go) (fun z => br_f (fun q => ?_) go)
      have h1 := Int32.le_iff_toInt_le.mp h
      have h2 := Int32.le_iff_toInt_le.mp q
      rw [nI_toInt (by omega)] at h1
      rw [nI_toInt (by omega)] at h2
      omega
end Ft
