/-! ways -/
/-- how wide the grid is -/
abbrev gw (I : mI) : Nat := nv I 3 - nv I 2 + 1
def cc (I : mI) (k : Nat) : Nat := if gl I k = nI (nu I k) then nv I (23 + wr I k) * (2 * nv I (17 + wr I k) + 1) else 0
def sc (I : mI) (k t : Nat) : Nat := if ad (nu I k) (si I (wr I k) t) ≤ nv I (17 + wr I k) then (if gl I k = -1 then 10 else 10 - nv I (23 + wr I k)) else 0
def fac (I : mI) (al : Option Nat) (k t : Nat) : Nat := if al = some k then cc I k else cc I k + sc I k t
def wy (I : mI) (al : Option Nat) (t : Nat) : Nat → Nat
  | 0 => wt I t
  | m + 1 => wy I al t m * fac I al m t
/-- the ways of the i-th number of the grid -/
def ws (I : mI) (al : Option Nat) (m i : Nat) : Nat := wy I al (nv I 2 + i) m
section E60
variable {I I' : mI}
theorem nv_60 (e : I' 60 = I 60) : nv I' = nv I := by funext k; unfold nv; rw [e]
theorem wt_60 (e : I' 60 = I 60) : wt I' = wt I := by funext t; unfold wt; rw [nv_60 e, e]
theorem gl_60 (e : I' 60 = I 60) : gl I' = gl I := by funext k; unfold gl; rw [nv_60 e, show nu I' = nu I by unfold nu; rw [nv_60 e]]
theorem cc_60 (e : I' 60 = I 60) : cc I' = cc I := by funext k; unfold cc; simp only [gl_60 e, nu, wr, nv_60 e]
theorem sc_60 (e : I' 60 = I 60) : sc I' = sc I := by funext k t; unfold sc; simp only [gl_60 e, nu, wr, si, nv_60 e]
theorem wy_60 (e : I' 60 = I 60) : wy I' = wy I := by
  funext al t m
  induction m with
  | zero => simp only [wy, wt_60 e]
  | succ m ih => simp only [wy, fac, ih, cc_60 e, sc_60 e]
theorem ws_60 (e : I' 60 = I 60) : ws I' = ws I := by funext al m i; unfold ws; rw [wy_60 e, nv_60 e]
end E60
theorem cc_b {I : mI} (h : FM I) {k : Nat} (hk : k < nv I 1) : cc I k ≤ 410 := by
  unfold cc
  split
  · have hw : wr I k < nv I 0 := (gNu h hk).2.2.1
    have q := gGs h hw
    have := Nat.mul_le_mul q.2.2.2.1 (show 2 * nv I (17 + wr I k) + 1 ≤ 41 by have := q.2.1.2.1; omega)
    exact this
  · omega
theorem sc_b {I : mI} {k t : Nat} : sc I k t ≤ 10 := by
  unfold sc
  split
  · split <;> omega
  · omega
theorem fac_b {I : mI} (h : FM I) {al : Option Nat} {k t : Nat} (hk : k < nv I 1) : fac I al k t ≤ 420 := by
  have h1 := cc_b h hk
  have h2 := sc_b (I := I) (k := k) (t := t)
  unfold fac
  split <;> omega
theorem wy_b {I : mI} (h : FM I) {al : Option Nat} {t : Nat} : ∀ m, m ≤ nv I 1 → wy I al t m ≤ 9 * 420 ^ m
  | 0, _ => by have := wt_b I t; simp only [wy]; omega
  | m + 1, hm => by
    have h1 := wy_b h (al := al) (t := t) m (by omega)
    have h2 := fac_b h (al := al) (k := m) (t := t) (by omega)
    have := Nat.mul_le_mul h1 h2
    simp only [wy]
    rw [Nat.pow_succ, ← Nat.mul_assoc]
    exact this
theorem wy_B {I : mI} (h : FM I) {al : Option Nat} {t m : Nat} (hm : m ≤ nv I 1) (h4 : m ≤ 4) : wy I al t m ≤ 2 ^ 39 := by
  have h1 := wy_b h (al := al) (t := t) m hm
  have h2 : 420 ^ m ≤ 420 ^ 4 := Nat.pow_le_pow_right (by omega) h4
  have h3 : 9 * 420 ^ m ≤ 9 * 420 ^ 4 := Nat.mul_le_mul_left _ h2
  have h4 : 9 * 420 ^ 4 ≤ 2 ^ 39 := by decide
  omega
theorem ws_S {I : mI} (h : FM I) {al : Option Nat} {m n : Nat} (hm : m ≤ nv I 1) (h4 : m ≤ 4) (hn : n ≤ 200) : sN (ws I al m) n ≤ 2 ^ 47 := by
  have := sN_le (f := ws I al m) (B := 2 ^ 39) n (fun k _ => wy_B h hm h4)
  have h2 : n * 2 ^ 39 ≤ 200 * 2 ^ 39 := Nat.mul_le_mul_right _ hn
  omega
theorem gw_b {I : mI} (h : FM I) : 1 ≤ gw I ∧ gw I ≤ 200 := by
  have h1 := gLo h
  have h2 := gHi h
  show 1 ≤ nv I 3 - nv I 2 + 1 ∧ nv I 3 - nv I 2 + 1 ≤ 200
  omega
theorem sN_mono {f : Nat → Nat} {a : Nat} : ∀ b, a ≤ b → sN f a ≤ sN f b
  | 0, h => by rw [show a = 0 by omega]; exact Nat.le_refl _
  | b + 1, h => by
    rcases Nat.lt_or_ge a (b + 1) with q | q
    · have := sN_mono (f := f) (a := a) b (by omega)
      show sN f a ≤ sN f b + f b
      omega
    · rw [show a = b + 1 by omega]; exact Nat.le_refl _
theorem oI_eq {al : Option Nat} {k : Nat} (ha : ∀ a, al = some a → a < 2 ^ 31) (hk : k < 2 ^ 31) : (nI k = oI al) ↔ al = some k := by
  cases al with
  | none => exact ⟨fun q => absurd q (nIm1 hk), fun q => by cases q⟩
  | some a =>
    have := ha a rfl
    constructor
    · intro q
      have := neq q hk this
      rw [this]
    · intro q
      cases q; rfl
section W
variable {g : gm_G} {I : mI} {L : mL} {c : gm_cfg}
theorem j_copyChance {Q : Int64 → mI → mL → gm_cfg → Prop} {k : Nat} (h : FS0 I) (hk : k < nv I 1) (hq : Q (lN (cc I k)) I L c) : C_Sr_copyChance g (nI k) I L c Q := by
  have hG := fG h
  have hn := fNu h hk
  have hN := fN h
  have hw0 : wr I k < nv I 0 := hn.2.2.1
  have hnu : nu I k ≤ 2000 := hn.1.2.1
  have enu : I 21 k = nI (nu I k) := hn.1.2.2
  obtain ⟨g1, g2, g3⟩ := fGs h hw0
  have T : Int32.toNatClampNeg (nI k) = k := nI_clamp (by omega)
  have T2 : Int32.toNatClampNeg (nI (wr I k)) = wr I k := nI_clamp (by omega)
  have ew : I 22 k = nI (wr I k) := hn.2.2.2
  have v40 : vp_in (nI k) 40 := vp_in_nI (by omega) (by omega)
  have v6 : vp_in (nI (wr I k)) 6 := vp_in_nI (by omega) (by omega)
  refine e_Sr_copyChance (j_shT h hk (bt ⟨v40, ?_⟩))
  rw [T, ew]
  refine j_hasT h hw0 (bt ⟨v40, v40, j_goalAt h (by omega) ?_⟩)
  rw [enu, ew, T2, g3.2.2, g2.2.2]
  unfold cc at hq
  refine br_c (fun z => ⟨v6, v6, ?_⟩) (fun z => ?_)
  · rw [if_pos z.symm] at hq
    rw [show (2 * nI (nv I (17 + wr I k)) + 1 : Int32) = nI (2 * nv I (17 + wr I k) + 1) by rw [show (2 * nI (nv I (17 + wr I k)) : Int32) = nI 2 * nI (nv I (17 + wr I k)) from rfl, pk_mul, nI_1], nI_l (by omega), nI_l (by omega), lN_mul]
    exact hq
  · rw [if_neg (fun q => z q.symm)] at hq
    exact hq
theorem m_byGoal {Q : Int64 → mI → mL → gm_cfg → Prop} {k : Nat} (h : FM I) (hk : k < nv I 1) (hq : Q (lN (cc I k)) I L c) : C_M_byGoal g (nI k) I L c Q := by
  have hG := gG h
  have hn := gNu h hk
  have hN := gNn h
  have hw0 : wr I k < nv I 0 := hn.2.2.1
  have hnu : nu I k ≤ 2000 := hn.1.2.1
  obtain ⟨g1, g2, g3⟩ := gGs h hw0
  have e29 : Int32.toNatClampNeg (29 + nI k) = 29 + k := ixa 29 k (by omega)
  have ew : I 60 (29 + k) = nI (wr I k) := hn.2.1
  have hw : wr I k < 6 := by omega
  have e23 : Int32.toNatClampNeg (23 + nI (wr I k)) = 23 + wr I k := ixa 23 _ (by omega)
  have e17 : Int32.toNatClampNeg (17 + nI (wr I k)) = 17 + wr I k := ixa 17 _ (by omega)
  refine e_M_byGoal ⟨via 29 k 330 (by omega) (by omega), ?_⟩
  rw [e29, ew]
  refine m_goalAt h (by omega) (m_numberOf h hk ?_)
  rw [e23, e17, g3.1, g2.1]
  unfold cc at hq
  refine br_c (fun z => ⟨via 23 _ 330 (by omega) (by omega), via 17 _ 330 (by omega) (by omega), ?_⟩) (fun z => ?_)
  · rw [if_pos z] at hq
    rw [nI_l (by omega), nI_l (by omega), show (2 * lN (nv I (17 + wr I k)) + 1 : Int64) = lN (2 * nv I (17 + wr I k) + 1) by rw [show (2 * lN (nv I (17 + wr I k)) : Int64) = lN 2 * lN (nv I (17 + wr I k)) from rfl, lN_mul, lN_1], lN_mul]
    exact hq
  · rw [if_neg z] at hq
    exact hq
theorem si_b {w t : Nat} (h : FM I) (hw : w < nv I 0) (ht : t < 2 ^ 16) : si I w t < 2 ^ 20 := by
  have g1 := (gGs h hw).1.2.1
  have : t * nv I (11 + w) ≤ 2 ^ 16 * 200 := Nat.mul_le_mul (by omega) g1
  show t * nv I (11 + w) / 100 < _
  omega
theorem j_sightChance {Q : Int64 → mI → mL → gm_cfg → Prop} {k t : Nat} (h : FS0 I) (hk : k < nv I 1) (ht : t < 2 ^ 16) (hq : Q (lN (sc I k t)) I L c) : C_Sr_sightChance g (nI k) (nI t) I L c Q := by
  have hG := fG h
  have hn := fNu h hk
  have hN := fN h
  have hw0 : wr I k < nv I 0 := hn.2.2.1
  have hnu : nu I k ≤ 2000 := hn.1.2.1
  have enu : I 21 k = nI (nu I k) := hn.1.2.2
  obtain ⟨g1, g2, g3⟩ := fGs h hw0
  have T : Int32.toNatClampNeg (nI k) = k := nI_clamp (by omega)
  have T2 : Int32.toNatClampNeg (nI (wr I k)) = wr I k := nI_clamp (by omega)
  have ew : I 22 k = nI (wr I k) := hn.2.2.2
  have v40 : vp_in (nI k) 40 := vp_in_nI (by omega) (by omega)
  have v6 : vp_in (nI (wr I k)) 6 := vp_in_nI (by omega) (by omega)
  have sb := si_b (FS0.m h) hw0 ht
  refine e_Sr_sightChance (j_shT h hk (bt ⟨v40, ?_⟩))
  rw [T, ew]
  refine j_hasT h hw0 (bt ⟨v40, v40, ?_⟩)
  rw [ew]
  refine j_sight h hw0 (by omega) ⟨v6, ?_⟩
  rw [enu, T2, g2.2.2, ad_abs (by omega) (by omega)]
  have hd : ad (nu I k) (si I (wr I k) t) < 2 ^ 31 := by
    unfold ad
    omega
  unfold sc at hq
  refine br_c (fun z => ?_) (fun z => ?_)
  · have q := nle z hd (by omega)
    rw [if_pos q] at hq
    refine j_goalAt h (by omega) (br_c (fun z2 => ?_) (fun z2 => ⟨v6, ?_⟩))
    · rw [if_pos z2] at hq
      exact hq
    · rw [if_neg z2] at hq
      have e10 : (10 - nI (nv I (23 + wr I k)) : Int32) = nI (10 - nv I (23 + wr I k)) := pk_sub (a := 10) g3.2.1
      rw [g3.2.2, e10, nI_l (by omega)]
      exact hq
  · have q := nnle z (by omega)
    rw [if_neg (by omega)] at hq
    exact hq
theorem m_isOwn {Q : Bool → mI → mL → gm_cfg → Prop} {k t : Nat} (h : FM I) (hk : k < nv I 1) (ht : t < 2 ^ 16) (k1 : ad (nu I k) (si I (wr I k) t) ≤ nv I (17 + wr I k) → Q true I L c) (k2 : ¬ ad (nu I k) (si I (wr I k) t) ≤ nv I (17 + wr I k) → Q false I L c) : C_M_isOwn g (nI k) (nI t) I L c Q := by
  have hG := gG h
  have hn := gNu h hk
  have hN := gNn h
  have hw0 : wr I k < nv I 0 := hn.2.2.1
  have hnu : nu I k ≤ 2000 := hn.1.2.1
  obtain ⟨g1, g2, g3⟩ := gGs h hw0
  have e29 : Int32.toNatClampNeg (29 + nI k) = 29 + k := ixa 29 k (by omega)
  have ew : I 60 (29 + k) = nI (wr I k) := hn.2.1
  have hw : wr I k < 6 := by omega
  have e17 : Int32.toNatClampNeg (17 + nI (wr I k)) = 17 + wr I k := ixa 17 _ (by omega)
  have sb := si_b h hw0 ht
  refine e_M_isOwn (m_numberOf h hk ⟨via 29 k 330 (by omega) (by omega), ?_⟩)
  rw [e29, ew]
  refine m_sight h hw0 (by omega) (m_off (a := nu I k) (by omega) (by omega) ⟨via 29 k 330 (by omega) (by omega), ?_, ?_⟩)
  · rw [ew]; exact via 17 _ 330 (by omega) (by omega)
  · have hd : ad (nu I k) (si I (wr I k) t) < 2 ^ 31 := by
      unfold ad
      omega
    rw [ew, e17, g2.1]
    refine br_c (fun z => k2 ?_) (fun z => k1 ?_)
    · have q := nlt z (by omega) hd
      exact Nat.not_le.mpr q
    · exact nnlt z hd
theorem m_chanceOf {Q : Int64 → mI → mL → gm_cfg → Prop} {k t : Nat} (h : FM I) (hk : k < nv I 1) (ht : t < 2 ^ 16) (hq : Q (lN (cc I k + sc I k t)) I L c) : C_M_chanceOf g (nI k) (nI t) I L c Q := by
  have hG := gG h
  have hn := gNu h hk
  have hN := gNn h
  have hw0 : wr I k < nv I 0 := hn.2.2.1
  have hnu : nu I k ≤ 2000 := hn.1.2.1
  obtain ⟨g1, g2, g3⟩ := gGs h hw0
  have e29 : Int32.toNatClampNeg (29 + nI k) = 29 + k := ixa 29 k (by omega)
  have ew : I 60 (29 + k) = nI (wr I k) := hn.2.1
  have hw : wr I k < 6 := by omega
  have e23 : Int32.toNatClampNeg (23 + nI (wr I k)) = 23 + wr I k := ixa 23 _ (by omega)
  unfold sc at hq
  refine e_M_chanceOf (m_goalAt h (by omega) (br_c (fun z => ?_) (fun z => ⟨via 29 k 330 (by omega) (by omega), ?_, ?_⟩)))
  · refine m_byGoal h hk (m_isOwn h hk ht (fun q => bt ?_) (fun q => bf ?_))
    · rw [if_pos q, if_pos z, ← lN_add] at hq
      exact hq
    · rw [if_neg q, ← lN_add] at hq
      exact hq
  · rw [e29, ew]; exact via 23 _ 330 (by omega) (by omega)
  · refine m_byGoal h hk (m_isOwn h hk ht (fun q => bt ?_) (fun q => bf ?_))
    · have e10 : (10 - nI (nv I (23 + wr I k)) : Int32) = nI (10 - nv I (23 + wr I k)) := pk_sub (a := 10) g3.2.1
      rw [e29, ew, e23, g3.1, e10, nI_l (by omega), lN_add]
      rw [if_pos q, if_neg z] at hq
      exact hq
    · rw [if_neg q, ← lN_add] at hq
      exact hq
theorem j_waysFor {Q : Int64 → mI → mL → gm_cfg → Prop} {t m : Nat} {al : Option Nat} (h : FS0 I) (ht : t < 2 ^ 16) (hm : m ≤ nv I 1) (ha : ∀ a, al = some a → a < 2 ^ 31) (hq : Q (lN (wy I al t m)) I L c) : C_Sr_waysFor g (nI t) (nI m) (oI al) I L c Q := by
  have hG := fG h
  have hw := wt_b I t
  refine e_Sr_waysFor (j_weight h ht ?_)
  rw [nI_l (by omega)]
  refine lp0 (P := fun k => Z_Sr_waysFor g Q 14 [(0, .ref 23), (1, .int (nI t)), (2, .int (nI m)), (3, .int (oI al)), (4, .long (lN (wy I al t k))), (6, .int (nI k))] [] I L c) m ?_ ?_
  · exact r_Sr_waysFor_14 (br_t (nI_le (Nat.le_refl _) (by omega)) hq)
  · intro k hk ih
    refine r_Sr_waysFor_14 (br_f (nI_ge hk (by omega)) (j_copyChance h (by omega) (br_c (fun z => ?_) (fun z => j_sightChance h (by omega) ht ?_))))
    · have q := (oI_eq ha (by omega)).mp z
      rw [lN_mul, nI_1]
      simp only [wy, fac] at ih
      rw [if_pos q] at ih
      exact ih
    · have q : ¬ al = some k := fun q => z ((oI_eq ha (by omega)).mpr q)
      rw [lN_add, lN_mul, nI_1]
      simp only [wy, fac] at ih
      rw [if_neg q] at ih
      exact ih
/-- the cells that laysWays leaves -/
def pW (o : Nat) : Bool := o != 59 && o != 65
theorem m_gridMany {Q : Int32 → mI → mL → gm_cfg → Prop} (h : FM I) (hq : Q (nI (gw I)) I L c) : C_M_gridMany g I L c Q := by
  have h1 := gLo h
  have h2 := gHi h
  refine e_M_gridMany ?_
  rw [h1.1, h2.1, pk_sub h2.2.2.1, nI_1]
  exact hq
theorem m_lays0 {Q : mI → mL → gm_cfg → Prop} {m : Nat} {al : Option Nat} (h : FM I) (hm : m ≤ nv I 1) (ha : ∀ a, al = some a → a < 2 ^ 31) (hq : ∀ L1 : mL, (∀ i, i < gw I → L1 65 i = lN (ws I al m i)) → L1 59 19 = lN (sN (ws I al m) (gw I)) → KO pW L L1 → Q I L1 c) : C_M_laysWays g (nI m) (oI al) I L c Q := by
  have h1 := gLo h
  have h2 := gHi h
  have hG := gG h
  have hb := gw_b h
  refine e_M_laysWays ?_
  have key := lp0 (P := fun i => ∀ L1 : mL, (∀ j, j < i → L1 65 j = lN (ws I al m j)) → L1 59 19 = lN (sN (ws I al m) i) → KO pW L L1 → Z_M_laysWays g Q 7 [(0, .ref 59), (1, .int (nI m)), (2, .int (oI al)), (3, .int (nI i))] [] I L1 c) (gw I) ?_ ?_
  · exact key _ (fun j hj => absurd hj (by omega)) (gm_u_eq _ _ _ _) (KO.u rfl KO.rf)
  · intro L1 a1 a2 a3
    exact r_M_laysWays_7 (m_gridMany h (br_t (nI_le (Nat.le_refl _) (by omega)) (hq L1 a1 a2 a3)))
  · intro i hi ih L1 a1 a2 a3
    have ew : nv I 2 + i < 2 ^ 16 := by show nv I 2 + i < _; omega
    refine r_M_laysWays_7 (m_gridMany h (br_f (nI_ge hi (by omega)) ?_))
    rw [h1.1, nI_add]
    have hw := wt_b I (nv I 2 + i)
    have v200 : vp_in (nI i) 200 := vp_in_nI (by omega) (by omega)
    refine m_weight h ew ⟨v200, ?_⟩
    rw [nI_clamp (by omega), nI_l (by omega)]
    have key := lp0 (P := fun k => ∀ L2 : mL, (∀ j, j < i → L2 65 j = lN (ws I al m j)) → L2 65 i = lN (wy I al (nv I 2 + i) k) → L2 59 19 = lN (sN (ws I al m) i) → KO pW L L2 → Z_M_laysWays g Q 41 [(0, .ref 59), (1, .int (nI m)), (2, .int (oI al)), (3, .int (nI i)), (4, .int (nI (nv I 2 + i))), (5, .int (nI k))] [] I L2 c) m ?_ ?_
    · refine key _ (fun j hj => ?_) (gm_u_eq _ _ _ _) ?_ (KO.u rfl a3)
      · rw [gm_u_ne2 _ _ _ _ (by omega)]; exact a1 j hj
      · exact a2
    · intro L2 b1 b2 b3 b4
      refine r_M_laysWays_41 (br_t (nI_le (Nat.le_refl _) (by omega)) ⟨v200, ?_⟩)
      rw [nI_clamp (by omega), nI_1]
      refine ih _ (fun j hj => ?_) ?_ (KO.u rfl b4)
      · show L2 65 j = _
        rcases Nat.lt_or_ge j i with q | q
        · exact b1 j q
        · rw [show j = i by omega]; exact b2
      · rw [gm_u_eq, b2, b3, lN_add]; rfl
    · intro k hk ih2 L2 b1 b2 b3 b4
      have T : Int32.toNatClampNeg (nI i) = i := nI_clamp (by omega)
      have go : ∀ v, lN (wy I al (nv I 2 + i) k) * v = lN (wy I al (nv I 2 + i) (k + 1)) → Z_M_laysWays g Q 41 [(0, .ref 59), (1, .int (nI m)), (2, .int (oI al)), (3, .int (nI i)), (4, .int (nI (nv I 2 + i))), (5, .int (nI (k + 1)))] [] I (gm_u L2 65 i (lN (wy I al (nv I 2 + i) k) * v)) c := by
        intro v e
        rw [e]
        refine ih2 _ (fun j hj => ?_) (gm_u_eq _ _ _ _) b3 (KO.u rfl b4)
        rw [gm_u_ne2 _ _ _ _ (by omega)]; exact b1 j hj
      refine r_M_laysWays_41 (br_f (nI_ge hk (by omega)) ⟨v200, ?_⟩)
      rw [T, b2, nI_1]
      refine br_c (fun z => m_byGoal h (by omega) ⟨v200, go _ ?_⟩) (fun z => m_chanceOf h (by omega) ew ⟨v200, go _ ?_⟩)
      · have q := (oI_eq ha (by omega)).mp z
        rw [lN_mul]
        simp only [wy, fac]
        rw [if_pos q]
      · have q : ¬ al = some k := fun q => z ((oI_eq ha (by omega)).mpr q)
        rw [lN_mul]
        simp only [wy, fac]
        rw [if_neg q]
theorem m_lays {I0 : mI} {Q : mI → mL → gm_cfg → Prop} {m : Nat} {al : Option Nat} (e0 : I 60 = I0 60) (h : FM I) (hm : m ≤ nv I0 1) (ha : ∀ a, al = some a → a < 2 ^ 31) (hq : ∀ L1 : mL, (∀ i, i < gw I0 → L1 65 i = lN (ws I0 al m i)) → L1 59 19 = lN (sN (ws I0 al m) (gw I0)) → KO pW L L1 → Q I L1 c) : C_M_laysWays g (nI m) (oI al) I L c Q := by
  have e1 := ws_60 e0
  have e2 := nv_60 e0
  refine m_lays0 h (by rw [e2]; exact hm) ha (fun L1 a1 a2 a3 => hq L1 (fun i hi => ?_) ?_ a3)
  · rw [← e1]; exact a1 i (by show i < nv I 3 - nv I 2 + 1; rw [e2]; exact hi)
  · rw [a2, e1]; show lN (sN (ws I0 al m) (nv I 3 - nv I 2 + 1)) = _; rw [e2]
/-- the first m guesses may be counted, or not -/
theorem inM (x : Int32) {n : Nat} (hn : n ≤ 40) : (∃ m, m ≤ 4 ∧ m ≤ n ∧ x = nI m) ∨ (x < 0 ∨ 4 < x ∨ nI n < x) := by
  rcases inAB x 0 4 (by omega) (by omega) with ⟨m, -, h2, rfl⟩ | h | h
  · rcases Nat.lt_or_ge n m with q | q
    · exact Or.inr (Or.inr (Or.inr (nI_lt q (by omega))))
    · exact Or.inl ⟨m, h2, q, rfl⟩
  · exact Or.inr (Or.inl h)
  · exact Or.inr (Or.inr (Or.inl h))
theorem j_canT {Q : Bool → mI → mL → gm_cfg → Prop} {m : Nat} (h : FS0 I) (h4 : m ≤ 4) (hm : m ≤ nv I 1) (hq : Q true I L c) : C_J_canCount g (nI m) I L c Q := by
  have hG := fG h
  exact e_J_canCount (br_f (nI_pos (by omega)) (br_f (nI_nlt (a := 4) h4 (by omega)) (br_f (by rw [hG.2.2]; exact nI_nlt hm (by omega)) hq)))
theorem j_canF {Q : Bool → mI → mL → gm_cfg → Prop} {x : Int32} (h : FS0 I) (hx : x < 0 ∨ 4 < x ∨ nI (nv I 1) < x) (hq : Q false I L c) : C_J_canCount g x I L c Q := by
  have hG := fG h
  refine e_J_canCount (br_c (fun _ => hq) (fun z => br_c (fun _ => hq) (fun z2 => br_t ?_ hq)))
  rw [hG.2.2]
  exact (hx.resolve_left z).resolve_left z2
theorem m_manyT {Q : Bool → mI → mL → gm_cfg → Prop} {m : Nat} (h : FM I) (h4 : m ≤ 4) (hm : m ≤ nv I 1) (hq : Q true I L c) : C_M_isMany g (nI m) I L c Q := by
  have hG := gG h
  exact e_M_isMany (m_0t (n := 4) rfl (by omega) h4 (bt (br_f (by rw [hG.1]; exact nI_nlt hm (by omega)) hq)))
theorem m_manyF {Q : Bool → mI → mL → gm_cfg → Prop} {x : Int32} (h : FM I) (hx : x < 0 ∨ 4 < x ∨ nI (nv I 1) < x) (hq : Q false I L c) : C_M_isMany g x I L c Q := by
  have hG := gG h
  rcases inAB x 0 4 (by omega) (by omega) with ⟨m, -, h2, rfl⟩ | hy
  · refine e_M_isMany (m_0t (n := 4) rfl (by omega) h2 (bt (br_t ?_ hq)))
    rw [hG.1]
    exact (hx.resolve_left (nI_pos (by omega))).resolve_left (nI_nlt (a := 4) h2 (by omega))
  · exact e_M_isMany (m_wf (a := 0) (b := 4) rfl rfl (by omega) (by omega) hy (bf hq))
/-- what the reference's ways leave -/
theorem Keep.w {I I' : mI} {L L' L'' : mL} (k : Keep I L I' L') (h : KO pW L' L'') : Keep I L I' L'' :=
  ⟨k.1, fun o q => (h o (by
    unfold perL at q
    split at q <;> first | rfl | cases q)).trans (k.2.1 o q), by rw [h 25 rfl]; exact k.2.2⟩
theorem P_odds {x y : Int32} (hI : Inv I L c) : C_J_odds g x y I L c (mQ (C_M_odds g x y)) := by
  have h : FS0 I := hI.1
  have hT : FM (gm_u I 59 0 0) := FM.k (FS0.m h) (kT (L := L))
  have hLo := fLo h
  have hHi := fHi h
  have hG := fG h
  rcases inAB x (nv I 2) (nv I 3) (by omega) (by omega) with ⟨t, h1, h2, rfl⟩ | hx
  · refine e_J_odds (j_spT h h1 h2 (bt ?_))
    rcases inM y hG.2.1 with ⟨m, m4, hm, rfl⟩ | hy
    · refine j_canT h m4 hm (bt (j_waysFor (al := none) h (by omega) hm (fun a q => by cases q) ?_))
      refine e_M_odds (m_grT hT h1 h2 (bt (m_manyT hT m4 hm (bt (m_lays (I0 := I) (al := none) rfl hT hm (fun a q => by cases q) (fun L1 a1 a2 a3 => ?_))))))
      rw [show (gm_u I 59 0 0) 60 2 = nI (nv I 2) from hLo.1, pk_sub h1]
      refine ⟨vp_in_nI (by omega) (by omega), ?_⟩
      rw [nI_clamp (by omega)]
      have e := a1 (t - nv I 2) (show t - nv I 2 < nv I 3 - nv I 2 + 1 by omega)
      refine fin hI ?_ (kT.w a3)
      rw [e]
      show _ = lN (wy I none (nv I 2 + (t - nv I 2)) m)
      rw [show nv I 2 + (t - nv I 2) = t by omega]
    · exact j_canF h hy (bf (e_M_odds (m_grT hT h1 h2 (bt (m_manyF hT hy (bf (fin hI rfl kT)))))))
  · exact e_J_odds (j_spF h hx (bf (e_M_odds (m_grF hT hx (bf (fin hI rfl kT))))))
/-! weigh -/
theorem j_wide (h : FS0 I) : ((if 0 < ((if (((I 16 1) - (I 16 0)) + 1) < 200 then (((I 16 1) - (I 16 0)) + 1) else 200) : Int32) then ((if (((I 16 1) - (I 16 0)) + 1) < 200 then (((I 16 1) - (I 16 0)) + 1) else 200) : Int32) else 0) : Int32) = nI (gw I) := by
  have hLo := fLo h
  have hHi := fHi h
  have hb := gw_b (FS0.m h)
  rw [hLo.2.2.2, hHi.2.2.2, pk_sub hHi.2.2.1, nI_1]
  have e : (if nI (gw I) < 200 then nI (gw I) else 200 : Int32) = nI (gw I) := by
    by_cases q : gw I < 200
    · have q2 : nI (gw I) < 200 := nI_lt (b := 200) q (by omega)
      rw [if_pos q2]
    · have q2 : ¬ nI (gw I) < 200 := nI_nlt (b := 200) (by omega) (by omega)
      rw [if_neg q2, show gw I = 200 by omega]; rfl
  rw [e]
  have q2 : 0 < nI (gw I) := nI_lt (a := 0) (by omega) (by omega)
  rw [if_pos q2]
def p25 (o : Nat) : Bool := o != 25
theorem j_weigh {Q : mI → mL → gm_cfg → Prop} {m : Nat} (h : FS0 I) (h0 : L 25 0 = 0) (hm : m ≤ nv I 1) (hq : ∀ L1 : mL, (∀ i, i ≤ gw I → L1 25 i = lN (sN (ws I none m) i)) → KO p25 L L1 → Q (gm_u I 23 7 (nI (gw I))) L1 c) : C_Sr_weigh g (nI m) I L c Q := by
  have hLo := fLo h
  have hHi := fHi h
  have hG := fG h
  have hb := gw_b (FS0.m h)
  have h' : FS0 (gm_u I 23 7 (nI (gw I))) := FS0.k h (Keep.u (L := L) rfl)
  refine e_Sr_weigh ?_
  rw [j_wide h]
  have key := lp0 (P := fun i => ∀ L1 : mL, (∀ j, j ≤ i → L1 25 j = lN (sN (ws I none m) j)) → KO p25 L L1 → Z_Sr_weigh g Q 33 [(0, .ref 23), (1, .int (nI m)), (2, .int (nI i))] [] (gm_u I 23 7 (nI (gw I))) L1 c) (gw I) ?_ ?_
  · exact key L (fun j hj => by rw [show j = 0 by omega]; exact h0) KO.rf
  · intro L1 a1 a2
    exact r_Sr_weigh_33 (br_t (nI_le (Nat.le_refl _) (by omega)) (hq L1 a1 a2))
  · intro i hi ih L1 a1 a2
    refine r_Sr_weigh_33 (br_f (nI_ge hi (by omega)) ⟨vp_in_nI (by omega) (by omega), ?_⟩)
    rw [show (gm_u I 23 7 (nI (gw I))) 16 0 = nI (nv I 2) from hLo.2.2.2, nI_add]
    refine j_waysFor (al := none) h' (by omega) hm (fun a q => by cases q) ?_
    rw [nI_1]
    refine ⟨vp_in_nI (by omega) (by omega), ?_⟩
    rw [nI_clamp (by omega), nI_clamp (by omega), a1 i (Nat.le_refl _), lN_add, wy_60 (I := I) (I' := gm_u I 23 7 (nI (gw I))) rfl]
    refine ih _ (fun j hj => ?_) (KO.u rfl a2)
    rcases Nat.lt_or_ge j (i + 1) with q | q
    · rw [gm_u_ne2 _ _ _ _ (by omega)]; exact a1 j (by omega)
    · rw [show j = i + 1 by omega, gm_u_eq]; rfl
/-- what a weighing leaves -/
theorem k25 {L1 : mL} (h0 : L 25 0 = 0) (h : FS0 I) {f : Nat → Nat} (a1 : ∀ i, i ≤ gw I → L1 25 i = lN (sN f i)) (a2 : KO p25 L L1) : Keep I L (gm_u I 23 7 (nI (gw I))) L1 :=
  Keep.l (Keep.u rfl) (fun o q => a2 o (by
    unfold perL at q
    split at q <;> first | rfl | cases q)) (by rw [a1 0 (by omega), h0]; rfl)
theorem P_out {x : Int32} (hI : Inv I L c) : C_J_out g x I L c (mQ (C_M_out g x)) := by
  have h : FS0 I := hI.1
  have h0 : L 25 0 = 0 := hI.2.2.2.2.2.2.2
  have hT : FM (gm_u I 59 0 0) := FM.k (FS0.m h) (kT (L := L))
  have hG := fG h
  have hb := gw_b (FS0.m h)
  rcases inM x hG.2.1 with ⟨m, m4, hm, rfl⟩ | hx
  · refine e_J_out (j_canT h m4 hm (bt (j_weigh h h0 hm (fun L1 a1 a2 => e_Sr_total ⟨?_, ?_⟩))))
    · exact vp_in_nI (by omega) (by omega)
    · have k1 := k25 h0 h a1 a2
      rw [show Int32.toNatClampNeg ((gm_u I 23 7 (nI (gw I))) 23 7) = gw I from nI_clamp (by omega), a1 _ (Nat.le_refl _)]
      have hT2 : FM (gm_u (gm_u I 23 7 (nI (gw I))) 59 0 0) := FM_c (I := I) (fun _ _ => rfl) (FS0.m h)
      exact e_M_out (m_manyT hT2 m4 hm (bt (m_lays (I0 := I) (al := none) rfl hT2 hm (fun a q => by cases q) (fun L2 b1 b2 b3 => fin hI b2.symm ((k1.tr kT).w b3)))))
  · exact e_J_out (j_canF h hx (bf (e_M_out (m_manyF hT hx (bf (fin hI rfl kT))))))
end W
