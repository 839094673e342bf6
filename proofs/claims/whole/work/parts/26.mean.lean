/-! means and who is nearest -/
/-- v is the answer to mean k, the list not being empty -/
def mv (I : mI) (k : Nat) (v : Int32) : Prop := match k with
  | 0 => v = mn (nu I) (nv I 1)
  | 1 => RQ (nu I) (nv I 1) ((nv I 1 - 1) / 2) v
  | 2 => v = mn (nu I) (if 9 ≤ nv I 1 then 9 else nv I 1)
  | 3 => v = nI (mi (nu I) (nv I 1 - 1))
  | _ => v = nI (ma (nu I) (nv I 1 - 1))
theorem mv_ex (I : mI) (k : Nat) : ∃ v, mv I k v := by
  match k with
  | 0 => exact ⟨_, rfl⟩
  | 1 => exact RQ_ex _ _ _
  | 2 => exact ⟨_, rfl⟩
  | 3 => exact ⟨_, rfl⟩
  | k + 4 => exact ⟨_, rfl⟩
/-- a pointer: -1 or a number up to 2000 -/
def VV (v : Int32) : Prop := v = -1 ∨ ∃ n, n ≤ 2000 ∧ v = nI n
theorem mn_VV {I : mI} (h : FS0 I) {m : Nat} (hm : m ≤ nv I 1) : VV (mn (nu I) m) := by
  unfold mn
  split
  · exact Or.inl rfl
  · refine Or.inr ⟨_, ?_, rfl⟩
    have := sN_le (f := nu I) (B := 2000) m (fun k hk => (fNu h (by omega)).1.2.1)
    exact Nat.div_le_of_le_mul this
theorem mv_VV {I : mI} (h : FS0 I) {k : Nat} (hk : k < 3) {v : Int32} (hv : mv I k v) : VV v := by
  match k, hk with
  | 0, _ => rw [show v = _ from hv]; exact mn_VV h (Nat.le_refl _)
  | 1, _ =>
    rcases (hv : RQ (nu I) (nv I 1) ((nv I 1 - 1) / 2) v) with ⟨k, a1, a2, a3, a4⟩ | ⟨a1, a2⟩
    · exact Or.inr ⟨_, (fNu h a1).1.2.1, a4⟩
    · exact Or.inl a2
  | 2, _ => rw [show v = _ from hv]; exact mn_VV h (by split <;> omega)
section M
variable {g : gm_G} {I : mI} {L : mL} {c : gm_cfg}
theorem j_least {Q : Int32 → mI → mL → gm_cfg → Prop} (h : FS0 I) (hp : 0 < nv I 1) (hq : Q (nI (mi (nu I) (nv I 1 - 1))) I L c) : C_Sh20_least g I L c Q := by
  have hG := fG h
  have hb : ∀ i, i < nv I 1 → nu I i ≤ 2000 := fun i hi => (fNu h hi).1.2.1
  refine e_Sh20_least (br_f (by rw [hG.2.2]; exact nI_nle hp (by omega)) ?_)
  have e0 : I 21 0 = nI (nu I 0) := (fNu h hp).1.2.2
  rw [e0]
  refine lp0 (P := fun i => Z_Sh20_least g Q 20 [(0, .ref 20), (1, .int (nI (mi (nu I) i))), (2, .int (nI (i + 1)))] [] I L c) (nv I 1 - 1) ?_ ?_
  · exact r_Sh20_least_20 (br_t (by rw [hG.2.2]; exact nI_le (by omega) (by omega)) hq)
  · intro i hi ih
    have e1 : I 21 (i + 1) = nI (nu I (i + 1)) := (fNu h (by omega)).1.2.2
    have b1 := hb (i + 1) (by omega)
    obtain ⟨⟨k, hk, ek⟩, -⟩ := mi_spec (nu I) i
    have b2 := hb k (by omega)
    refine r_Sh20_least_20 (br_f (by rw [hG.2.2]; exact nI_ge (by omega) (by omega)) ⟨vp_in_nI (by omega) (by omega), ?_⟩)
    rw [nI_clamp (by omega), e1, nI_1]
    simp only [mi] at ih
    have e2 : (if nI (nu I (i + 1)) < nI (mi (nu I) i) then nI (nu I (i + 1)) else nI (mi (nu I) i) : Int32) = nI (if nu I (i + 1) < mi (nu I) i then nu I (i + 1) else mi (nu I) i) := by
      by_cases q : nu I (i + 1) < mi (nu I) i
      · rw [if_pos q, if_pos (nI_lt q (by omega))]
      · rw [if_neg q, if_neg (nI_nlt (by omega) (by omega))]
    rw [e2]
    exact ih
theorem j_most {Q : Int32 → mI → mL → gm_cfg → Prop} (h : FS0 I) (hp : 0 < nv I 1) (hq : Q (nI (ma (nu I) (nv I 1 - 1))) I L c) : C_Sh20_greatest g I L c Q := by
  have hG := fG h
  have hb : ∀ i, i < nv I 1 → nu I i ≤ 2000 := fun i hi => (fNu h hi).1.2.1
  have e0 : I 21 0 = nI (nu I 0) := (fNu h hp).1.2.2
  refine e_Sh20_greatest (r_Sh20_greatest_4 (br_f (by rw [hG.2.2]; exact nI_nle hp (by omega)) ⟨vp_in_nI (n := 0) (by omega) (by omega), ?_⟩))
  rw [show Int32.toNatClampNeg 0 = 0 from rfl, e0, if_pos (by
    have b := hb 0 hp
    rw [Int32.lt_iff_toInt_lt, nI_toInt (by omega)]
    have : (-1 : Int32).toInt = -1 := rfl
    omega)]
  refine lp0 (P := fun i => Z_Sh20_greatest g Q 4 [(0, .ref 20), (1, .int (nI (ma (nu I) i))), (2, .int (nI (i + 1)))] [] I L c) (nv I 1 - 1) ?_ ?_
  · exact r_Sh20_greatest_4 (br_t (by rw [hG.2.2]; exact nI_le (by omega) (by omega)) hq)
  · intro i hi ih
    have e1 : I 21 (i + 1) = nI (nu I (i + 1)) := (fNu h (by omega)).1.2.2
    have b1 := hb (i + 1) (by omega)
    obtain ⟨⟨k, hk, ek⟩, -⟩ := ma_spec (nu I) i
    have b2 := hb k (by omega)
    refine r_Sh20_greatest_4 (br_f (by rw [hG.2.2]; exact nI_ge (by omega) (by omega)) ⟨vp_in_nI (by omega) (by omega), ?_⟩)
    rw [nI_clamp (by omega), e1, nI_1]
    simp only [ma] at ih
    have e2 : (if nI (ma (nu I) i) < nI (nu I (i + 1)) then nI (nu I (i + 1)) else nI (ma (nu I) i) : Int32) = nI (if ma (nu I) i < nu I (i + 1) then nu I (i + 1) else ma (nu I) i) := by
      by_cases q : ma (nu I) i < nu I (i + 1)
      · rw [if_pos q, if_pos (nI_lt q (by omega))]
      · rw [if_neg q, if_neg (nI_nlt (by omega) (by omega))]
    rw [e2]
    exact ih
theorem j_nine (h : FS0 I) : (if 9 < I 20 2 then 9 else I 20 2 : Int32) = nI (if 9 ≤ nv I 1 then 9 else nv I 1) := by
  have hG := fG h
  rw [hG.2.2]
  by_cases q : 9 < nv I 1
  · have q9 : (9 : Int32) < nI (nv I 1) := nI_lt (a := 9) q (by omega)
    rw [if_pos q9, if_pos (by omega)]; rfl
  · have q9 : ¬ (9 : Int32) < nI (nv I 1) := nI_nlt (a := 9) (b := nv I 1) (by omega) (by omega)
    rw [if_neg q9]
    split
    · congr 1; omega
    · rfl
theorem j_mean {Q : Int32 → mI → mL → gm_cfg → Prop} {k : Nat} {v : Int32} (h : FS0 I) (hp : 0 < nv I 1) (hk : k < 5) (hv : mv I k v) (hq : Q v I L c) : C_J_mean g (nI k) I L c Q := by
  have hG := fG h
  match k, hk with
  | 0, _ =>
    refine e_J_mean (br_t rfl ?_)
    rw [hG.2.2]
    rw [show v = _ from hv] at hq
    exact j_meanOf h (Nat.le_refl _) hq
  | 1, _ => exact e_J_mean (br_f (by decide) (br_t rfl (j_mid h hp hv hq)))
  | 2, _ =>
    refine e_J_mean (br_f (by decide) (br_f (by decide) (br_t rfl ?_)))
    rw [j_nine h]
    rw [show v = _ from hv] at hq
    exact j_meanOf h (by split <;> omega) hq
  | 3, _ =>
    rw [show v = _ from hv] at hq
    exact e_J_mean (br_f (by decide) (br_f (by decide) (br_f (by decide) (br_t rfl (j_least h hp hq)))))
  | 4, _ =>
    rw [show v = _ from hv] at hq
    exact e_J_mean (br_f (by decide) (br_f (by decide) (br_f (by decide) (br_f (by decide) (br_t rfl (j_most h hp hq))))))
theorem m_nine {Q : Int32 → mI → mL → gm_cfg → Prop} (h : FM I) (hq : Q (nI (if 9 ≤ nv I 1 then 9 else nv I 1)) I L c) : C_M_nine g I L c Q := by
  have hG := gG h
  refine e_M_nine ?_
  rw [hG.1]
  refine pk_le 9 (nv I 1) (fun z => ?_) (fun z => ?_)
  · rw [if_pos z] at hq; exact hq
  · rw [if_neg (by omega)] at hq; exact hq
theorem m_mid0 (h : FM I) (hp : 0 < nv I 1) : (I 60 1 - 1) / 2 = nI ((nv I 1 - 1) / 2) ∧ I 60 1 - 1 = nI (nv I 1 - 1) := by
  have hG := gG h
  rw [hG.1]
  obtain ⟨m, hm⟩ : ∃ m, nv I 1 = m + 1 := ⟨nv I 1 - 1, by omega⟩
  rw [hm, nI_pred]
  exact ⟨pk_div (d := 2) (by omega) (by omega) (by omega), rfl⟩
theorem P_mean {x : Int32} (hI : Inv I L c) : C_J_mean g x I L c (mQ (C_M_mean g x)) := by
  have h : FS0 I := hI.1
  have hT : FM (gm_u I 59 0 0) := FM.k (FS0.m h) (kT (L := L))
  have hG := fG h
  rcases inR x 5 (by omega) with ⟨k, hk, rfl⟩ | hx
  · rcases Nat.eq_zero_or_pos (nv I 1) with e | e
    · have M : mQ (C_M_mean g (nI k)) (-1) I L c := e_M_mean (m_0t (n := 4) rfl (by omega) (by omega) (bt (br_t (show I 60 1 = 0 by rw [hG.1, e]; rfl) (fin hI rfl kT))))
      have e20 : I 20 2 = 0 := by rw [hG.2.2, e]; rfl
      match k, hk with
      | 0, _ =>
        refine e_J_mean (br_t rfl ?_)
        rw [e20]
        exact e_Sh20_meanOf (br_t (by decide) M)
      | 1, _ =>
        refine e_J_mean (br_f (by decide) (br_t rfl (e_Sh20_middle ?_)))
        exact r_Sh20_middle_11 (br_t (by rw [e20]; decide) M)
      | 2, _ =>
        refine e_J_mean (br_f (by decide) (br_f (by decide) (br_t rfl ?_)))
        rw [e20]
        exact e_Sh20_meanOf (br_t (by decide) M)
      | 3, _ => exact e_J_mean (br_f (by decide) (br_f (by decide) (br_f (by decide) (br_t rfl (e_Sh20_least (br_t (by rw [e20]; decide) (r_Sh20_least_20 (br_t (by rw [e20]; decide) M))))))))
      | 4, _ => exact e_J_mean (br_f (by decide) (br_f (by decide) (br_f (by decide) (br_f (by decide) (br_t rfl (e_Sh20_greatest (r_Sh20_greatest_4 (br_t (by rw [e20]; decide) M))))))))
    · obtain ⟨v, hv⟩ := mv_ex I k
      refine j_mean h e hk hv (e_M_mean (m_0t (n := 4) rfl (by omega) (by omega) (bt (br_f (show ¬ I 60 1 = 0 by rw [hG.1]; exact nI_ne0 e (by omega)) ?_))))
      have e60 : (gm_u I 59 0 0) 60 1 = nI (nv I 1) := hG.1
      have m0 := m_mid0 hT e
      match k, hk with
      | 0, _ =>
        refine br_t rfl ?_
        rw [e60]
        exact m_meanOf hT (Nat.le_refl _) (fin hI hv kT)
      | 1, _ =>
        refine (br_f (by decide) (br_t rfl ?_))
        rw [m0.1]
        exact m_rank hT (by have e9 : nv (gm_u I 59 0 0) 1 = nv I 1 := rfl; omega) hv (fin hI rfl kT)
      | 2, _ => exact (br_f (by decide) (br_f (by decide) (br_t rfl (m_nine hT (m_meanOf hT (by split <;> omega) (fin hI hv kT))))))
      | 3, _ =>
        obtain ⟨n, hn⟩ : ∃ n, nv I 1 = n + 1 := ⟨nv I 1 - 1, by omega⟩
        have hv2 : v = nI (mi (nu I) (nv I 1 - 1)) := hv
        rw [hn, Nat.add_sub_cancel] at hv2
        refine (br_f (by decide) (br_f (by decide) (br_f (by decide) (br_t rfl (m_rank (r := 0) hT (by omega) (v := v) ?_ (fin hI rfl kT))))))
        rw [hv2]
        show RQ (nu I) (nv I 1) 0 _
        rw [hn]
        exact RQ_least
      | 4, _ =>
        obtain ⟨n, hn⟩ : ∃ n, nv I 1 = n + 1 := ⟨nv I 1 - 1, by omega⟩
        have hv2 : v = nI (ma (nu I) (nv I 1 - 1)) := hv
        rw [hn, Nat.add_sub_cancel] at hv2
        refine (br_f (by decide) (br_f (by decide) (br_f (by decide) (br_f (by decide) (?_)))))
        rw [m0.2]
        refine m_rank (r := nv I 1 - 1) hT (by omega) (v := v) ?_ (fin hI rfl kT)
        rw [hv2]
        show RQ (nu I) (nv I 1) (nv I 1 - 1) _
        rw [hn]
        exact RQ_most
  · have o := fun k (q : k < 5) => neo (by omega) hx k q
    exact e_J_mean (br_f (o 0 (by omega)) (br_f (o 1 (by omega)) (br_f (o 2 (by omega)) (br_f (o 3 (by omega)) (br_f (o 4 (by omega)) (e_M_mean (m_0f (n := 4) rfl (by omega) hx (bf (fin hI rfl kT)))))))))
/-- how far a pointer is off -/
theorem VV_off {v : Int32} {j : Nat} (hv : VV v) (hj : j ≤ 999) : ∃ d : Nat, d ≤ 3000 ∧ (if 0 ≤ (v - nI j) then (v - nI j) else 0 - (v - nI j) : Int32) = nI d ∧ ∀ (I : mI) (L : mL) (c : gm_cfg) (Q : Int32 → mI → mL → gm_cfg → Prop), Q (nI d) I L c → C_M_off g v (nI j) I L c Q := by
  rcases hv with rfl | ⟨n, hn, rfl⟩
  · refine ⟨j + 1, by omega, ?_, ?_⟩
    · have e1 : (-1 : Int32) - nI j = nI 0 - nI (j + 1) := by
        rw [nI_succ, nI_0, Int32.zero_sub, Int32.neg_add, Int32.sub_eq_add_neg, Int32.add_comm]
        exact (Int32.sub_eq_add_neg _ _).symm
      have e2 : ((-1 : Int32) - nI j).toInt = (0 : Nat) - ((j + 1 : Nat) : Int) := by
        rw [e1, pk_sub_toInt (by omega) (by omega)]
      rw [if_neg (by
        rw [Int32.le_iff_toInt_le, e2]
        have e0 : (0 : Int32).toInt = 0 := rfl
        omega), e1, nI_0, Int32.zero_sub, Int32.zero_sub, Int32.neg_neg]
    · intro I L c Q hq
      refine e_M_off (br_t ?_ ?_)
      · rw [Int32.le_iff_toInt_le, nI_toInt (by omega)]
        have : (-1 : Int32).toInt = -1 := rfl
        omega
      · have e : nI j - (-1) = nI (j + 1) := by rw [Int32.sub_eq_add_neg, Int32.neg_neg]; exact nI_1 j
        rw [e]; exact hq
  · exact ⟨ad n j, by unfold ad; omega, ad_abs (by omega) (by omega), fun I L c Q hq => m_off (by omega) (by omega) hq⟩
/-- the first of the least of d -/
def am (d : Nat → Nat) : Nat → Nat
  | 0 => 0
  | k + 1 => if d (k + 1) < d (am d k) then k + 1 else am d k
theorem am_le (d : Nat → Nat) : ∀ k, am d k ≤ k
  | 0 => Nat.le_refl _
  | k + 1 => by
    have := am_le d k
    unfold am
    split <;> omega
theorem P_nearest (hI : Inv I L c) : C_J_nearest g I L c (mQ (C_M_nearest g)) := by
  have h : FS0 I := hI.1
  have hT : FM (gm_u I 59 0 0) := FM.k (FS0.m h) (kT (L := L))
  have hG := fG h
  have hJ := fJr h
  have eJ : (gm_u I 59 0 0) 60 6 = nI (nv I 6) := hJ.1
  refine e_J_nearest ?_
  rw [hJ.2.2]
  refine br_c (fun z => e_M_nearest (br_t (by rw [hJ.1]; exact z) (fin hI rfl kT))) (fun z => br_c (fun z2 => ?_) (fun z2 => ?_))
  · rw [hG.2.2, ← hG.1] at z2
    exact e_M_nearest (br_f (by rw [hJ.1]; exact z) (br_t z2 (fin hI rfl kT)))
  · rw [hG.2.2, ← hG.1] at z2
    have hp : 0 < nv I 1 := by
      rcases Nat.eq_zero_or_pos (nv I 1) with e | e
      · rw [hG.1, e] at z2; exact absurd rfl z2
      · exact e
    obtain ⟨b, hb⟩ := nr_some (f := nu I) (t := nv I 6) (nv I 1) hp
    have hbl := nr_lt _ _ hb
    obtain ⟨v0, hv0⟩ := mv_ex I 0
    obtain ⟨v1, hv1⟩ := mv_ex I 1
    obtain ⟨v2, hv2⟩ := mv_ex I 2
    have V3 : VV (nI (nu I b)) := Or.inr ⟨_, (fNu h hbl).1.2.1, rfl⟩
    obtain ⟨d0, b0, j0, m0⟩ := VV_off (g := g) (mv_VV h (by omega) hv0) hJ.2.1
    obtain ⟨d1, b1, j1, m1⟩ := VV_off (g := g) (mv_VV h (by omega) hv1) hJ.2.1
    obtain ⟨d2, b2, j2, m2⟩ := VV_off (g := g) (mv_VV h (by omega) hv2) hJ.2.1
    obtain ⟨d3, b3, j3, m3⟩ := VV_off (g := g) V3 hJ.2.1
    let d : Nat → Nat := fun i => match i with | 0 => d0 | 1 => d1 | 2 => d2 | _ => d3
    have db : ∀ i, d i ≤ 3000 := by
      intro i
      match i with
      | 0 => exact b0
      | 1 => exact b1
      | 2 => exact b2
      | i + 3 => exact b3
    have JP : ∀ i, i < 4 → ∀ Q : Int32 → mI → mL → gm_cfg → Prop, Q (nI (d i)) I L c → C_J_pointer g (nI i) I L c (fun r4 I1 L2 c3 => C_J_offJar g r4 I1 L2 c3 Q) := by
      intro i hi Q hq
      match i, hi with
      | 0, _ => exact e_J_pointer (br_f (by decide) (j_mean h hp (by omega) hv0 (e_J_offJar (by rw [hJ.2.2, j0]; exact hq))))
      | 1, _ => exact e_J_pointer (br_f (by decide) (j_mean h hp (by omega) hv1 (e_J_offJar (by rw [hJ.2.2, j1]; exact hq))))
      | 2, _ => exact e_J_pointer (br_f (by decide) (j_mean h hp (by omega) hv2 (e_J_offJar (by rw [hJ.2.2, j2]; exact hq))))
      | 3, _ =>
        refine e_J_pointer (br_t (by decide) ?_)
        rw [hJ.2.2]
        refine j_near h (by omega) ?_
        rw [hb]
        refine j_shT h hbl (bt ⟨vp_in_nI (by omega) (by omega), e_J_offJar ?_⟩)
        rw [show Int32.toNatClampNeg (oI (some b)) = b from nI_clamp (by omega), (fNu h hbl).1.2.2, hJ.2.2, j3]
        exact hq
    have MP : ∀ i, i < 4 → ∀ (x1 x2 : Int32) (Q : Int32 → mI → mL → gm_cfg → Prop), (nI (d i) < x2 → Z_M_nearest g Q 37 [(0, .ref 59), (1, .int (nI i)), (2, .int (nI (d i))), (3, .int (nI (i + 1)))] [] (gm_u I 59 0 0) L c) → (¬ nI (d i) < x2 → Z_M_nearest g Q 37 [(0, .ref 59), (1, .int x1), (2, .int x2), (3, .int (nI (i + 1)))] [] (gm_u I 59 0 0) L c) → Z_M_nearest g Q 37 [(0, .ref 59), (1, .int x1), (2, .int x2), (3, .int (nI i))] [] (gm_u I 59 0 0) L c := by
      intro i hi x1 x2 Q k1 k2
      match i, hi with
      | 0, _ =>
        refine r_M_nearest_37 (br_f (by decide) (br_t rfl ?_))
        rw [show (gm_u I 59 0 0) 60 1 = nI (nv I 1) from hG.1]
        refine m_meanOf hT (Nat.le_refl _) ?_
        rw [show mn (nu (gm_u I 59 0 0)) (nv I 1) = v0 from hv0.symm, eJ]
        refine m0 _ _ _ _ (br_c (fun z => ?_) k2)
        rw [eJ]
        exact m0 _ _ _ _ (k1 z)
      | 1, _ =>
        refine r_M_nearest_37 (br_f (by decide) (br_f (by decide) (br_t rfl ?_)))
        rw [(m_mid0 hT hp).1]
        refine m_rank hT (by have := hG.2.1; show (nv I 1 - 1) / 2 < _; omega) hv1 ?_
        rw [eJ]
        refine m1 _ _ _ _ (br_c (fun z => ?_) k2)
        rw [eJ]
        exact m1 _ _ _ _ (k1 z)
      | 2, _ =>
        refine r_M_nearest_37 (br_f (by decide) (br_f (by decide) (br_f (by decide) (br_t rfl (m_nine hT (m_meanOf hT (by split <;> omega) ?_))))))
        rw [show mn (nu (gm_u I 59 0 0)) (if 9 ≤ nv (gm_u I 59 0 0) 1 then 9 else nv (gm_u I 59 0 0) 1) = v2 from hv2.symm, eJ]
        refine m2 _ _ _ _ (br_c (fun z => ?_) k2)
        rw [eJ]
        exact m2 _ _ _ _ (k1 z)
      | 3, _ =>
        refine r_M_nearest_37 (br_f (by decide) (br_f (by decide) (br_f (by decide) (br_f (by decide) (?_)))))
        rw [eJ]
        refine m_near hT (by omega) ?_
        rw [show nr (nu (gm_u I 59 0 0)) (nv I 6) (nv (gm_u I 59 0 0) 1) = some b from hb]
        refine m_numberOf hT hbl ?_
        rw [eJ]
        refine m3 _ _ _ _ (br_c (fun z => ?_) k2)
        rw [eJ]
        exact m3 _ _ _ _ (k1 z)
    have M : mQ (C_M_nearest g) (nI (am d 3)) I L c := by
      refine e_M_nearest (br_f (by rw [hJ.1]; exact z) (br_f z2 ?_))
      refine MP 0 (by omega) 0 9999 _ (fun _ => ?_) (fun q => absurd (nI_lt (a := d 0) (b := 9999) (by have := db 0; omega) (by omega)) q)
      refine lp0 (P := fun k => Z_M_nearest g _ 37 [(0, .ref 59), (1, .int (nI (am d k))), (2, .int (nI (d (am d k)))), (3, .int (nI (k + 1)))] [] (gm_u I 59 0 0) L c) 3 ?_ ?_
      · exact r_M_nearest_37 (br_t (by decide) (fin hI rfl kT))
      · intro k hk ih
        simp only [am] at ih
        refine MP (k + 1) (by omega) _ _ _ (fun q => ?_) (fun q => ?_)
        · rw [if_pos (nlt q (by have := db (k + 1); omega) (by have := db (am d k); omega))] at ih
          exact ih
        · rw [if_neg (by have := nnlt q (by have := db (am d k); omega); omega)] at ih
          exact ih
    refine lp0 (P := fun k => Z_J_nearest g (mQ (C_M_nearest g)) 29 [(0, .ref 0), (1, .int (nI (am d k))), (2, .int (nI (k + 1)))] [] I L c) 3 ?_ ?_
    · exact r_J_nearest_29 (br_t (by decide) M)
    · intro k hk ih
      have := am_le d k
      simp only [am] at ih
      refine r_J_nearest_29 (br_f (nI_nlt (a := 3) (by omega) (by omega)) (JP (k + 1) (by omega) _ (JP (am d k) (by omega) _ (br_c (fun q => ?_) (fun q => ?_)))))
      · rw [if_neg (by have := nle q (by have := db (am d k); omega) (by have := db (k + 1); omega); omega)] at ih
        rw [nI_1]; exact ih
      · rw [if_pos (nnle q (by have := db (k + 1); omega))] at ih
        rw [nI_1]; exact ih
end M
