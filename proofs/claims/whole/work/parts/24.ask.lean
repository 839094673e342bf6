/-! the smaller public calls that only ask -/
abbrev mQ {α : Type} (F : mI → mL → gm_cfg → (α → mI → mL → gm_cfg → Prop) → Prop) (r : α) (I : mI) (L : mL) (c : gm_cfg) : Prop := F I L c (fun r' I2 L2 c2 => r = r' ∧ Inv I2 L2 c2)
theorem neo {x : Int32} {n : Nat} (hn : n < 2 ^ 31) (hx : x < 0 ∨ nI n ≤ x) (k : Nat) (hk : k < n) : ¬ x = nI k := by
  rintro rfl
  rcases hx with h | h
  · exact nI_pos (by omega) h
  · exact nI_ge hk hn h
theorem ou {x : Int32} {n : Nat} (hn : n + 1 < 2 ^ 31) (hx : x < 0 ∨ nI (n + 1) ≤ x) : x < nI 0 ∨ nI n < x := by
  rcases hx with h | h
  · exact Or.inl h
  · refine Or.inr ?_
    rw [Int32.le_iff_toInt_le, nI_toInt hn] at h
    rw [Int32.lt_iff_toInt_lt, nI_toInt (by omega)]
    omega
section A
variable {g : gm_G} {I : mI} {L : mL} {c : gm_cfg}
theorem m_0f {Q : Bool → mI → mL → gm_cfg → Prop} {x : Int32} {n : Nat} {hi : Int64} (hhi : hi.toInt = n) (hn : n + 1 < 2 ^ 31) (h : x < 0 ∨ nI (n + 1) ≤ x) (hq : Q false I L c) : C_M_within g (Int32.toInt64 x) 0 hi I L c Q :=
  m_wf (a := 0) (b := n) rfl hhi (by omega) (by omega) (ou hn h) hq
theorem m_0t {Q : Bool → mI → mL → gm_cfg → Prop} {j n : Nat} {hi : Int64} (hhi : hi.toInt = n) (hn : n < 2 ^ 31) (h : j ≤ n) (hq : Q true I L c) : C_M_within g (Int32.toInt64 (nI j)) 0 hi I L c Q :=
  m_wt (a := 0) (b := n) rfl hhi (Nat.zero_le _) h hn hq
theorem P_fault {x : Int32} (hI : Inv I L c) : C_J_fault g x I L c (mQ (C_M_fault g x)) := by
  have h3 := hI.2.2.1
  refine e_J_fault (br_c (fun z => e_M_fault (br_t z (fin hI h3.1 kT))) (fun z => br_c (fun z1 => e_M_fault (br_f z (br_t z1 (fin hI h3.2 kT)))) (fun z1 => e_M_fault (br_f z (br_f z1 (fin hI rfl kT))))))
/-! who wrote how often, and when last -/
abbrev wr (I : mI) : Nat → Nat := fun k => nv I (29 + k)
theorem wr_lt (h : FS0 I) {k : Nat} (hk : k < nv I 1) : wr I k < nv I 0 ∧ nv I 0 ≤ 6 := ⟨(fNu h hk).2.2.1, (fN h).2.1⟩
theorem wr_ltm (h : FM I) {k : Nat} (hk : k < nv I 1) : wr I k < nv I 0 ∧ nv I 0 ≤ 6 := ⟨(gNu h hk).2.2.1, (gNn h).2.1⟩
theorem j_written {Q : Int32 → mI → mL → gm_cfg → Prop} {j : Nat} (h : FS0 I) (hj : j < 6) (hq : Q (nI (ce (wr I) j (nv I 1))) I L c) : C_Sh20_writtenBy g (nI j) I L c Q := by
  have hG := fG h
  refine e_Sh20_writtenBy ?_
  refine lp0 (P := fun k => Z_Sh20_writtenBy g Q 4 [(0, .ref 20), (1, .int (nI j)), (2, .int (nI (ce (wr I) j k))), (3, .int (nI k))] [] I L c) (nv I 1) ?_ ?_
  · exact r_Sh20_writtenBy_4 (br_t (by rw [hG.2.2]; exact nI_le (Nat.le_refl _) (by omega)) hq)
  · intro k hk ih
    have hw := wr_lt h hk
    refine r_Sh20_writtenBy_4 (br_f (by rw [hG.2.2]; exact nI_ge hk (by omega)) ⟨vp_in_nI (by omega) (by omega), ?_⟩)
    have e1 : I 22 k = nI (wr I k) := (fNu h hk).2.2.2
    rw [nI_clamp (by omega), e1, nI_1, nI_1]
    simp only [ce] at ih
    refine pk_eq (wr I k) j (fun z => ?_) (fun z => ?_)
    · rw [if_pos z] at ih; exact ih
    · rw [if_neg z] at ih; exact ih
theorem m_written {Q : Int32 → mI → mL → gm_cfg → Prop} {j : Nat} (h : FM I) (hj : j < 6) (hq : Q (nI (ce (wr I) j (nv I 1))) I L c) : C_M_guessesOf g (nI j) I L c Q := by
  have hG := gG h
  refine e_M_guessesOf ?_
  refine lp0 (P := fun k => Z_M_guessesOf g Q 4 [(0, .ref 59), (1, .int (nI j)), (2, .int (nI (ce (wr I) j k))), (3, .int (nI k))] [] I L c) (nv I 1) ?_ ?_
  · exact r_M_guessesOf_4 (br_t (by rw [hG.1]; exact nI_le (Nat.le_refl _) (by omega)) hq)
  · intro k hk ih
    have hw := wr_ltm h hk
    refine r_M_guessesOf_4 (br_f (by rw [hG.1]; exact nI_ge hk (by omega)) ⟨via 29 k 330 (by omega) (by omega), ?_⟩)
    have e1 : I 60 (29 + k) = nI (wr I k) := (gNu h hk).2.1
    have e2 : Int32.toNatClampNeg (29 + nI k) = 29 + k := ixa 29 k (by omega)
    rw [e2, e1, nI_1, nI_1, Int32.add_zero]
    simp only [ce] at ih
    refine pk_eq (wr I k) j (fun z => ?_) (fun z => ?_)
    · rw [if_pos z] at ih; exact ih
    · rw [if_neg z] at ih; exact ih
/-- the last place below n with f = v -/
def la (f : Nat → Nat) (v : Nat) : Nat → Option Nat
  | 0 => none
  | n + 1 => if f n = v then some n else la f v n
theorem j_latest {Q : Int32 → mI → mL → gm_cfg → Prop} {j : Nat} (h : FS0 I) (hj : j < 6) (hq : Q (oI (la (wr I) j (nv I 1))) I L c) : C_Sh20_latestBy g (nI j) I L c Q := by
  have hG := fG h
  refine e_Sh20_latestBy ?_
  rw [hG.2.2]
  have key : ∀ k, k ≤ nv I 1 → la (wr I) j (nv I 1) = la (wr I) j k → Z_Sh20_latestBy g Q 7 [(0, .ref 20), (1, .int (nI j)), (2, .int (nI k - 1))] [] I L c := by
    intro k
    induction k with
    | zero =>
      intro _ e
      rw [e] at hq
      exact r_Sh20_latestBy_7 (br_t (by decide) hq)
    | succ k ih =>
      intro hk e
      have hw := wr_lt h (k := k) (by omega)
      rw [nI_pred]
      refine r_Sh20_latestBy_7 (br_f (nI_pos (by omega)) ⟨vp_in_nI (by omega) (by omega), ?_⟩)
      have e1 : I 22 k = nI (wr I k) := (fNu h (by omega)).2.2.2
      rw [nI_clamp (by omega), e1]
      simp only [la] at e
      refine pk_eq (wr I k) j (fun z => ?_) (fun z => ?_)
      · rw [if_pos z] at e; rw [e] at hq; exact hq
      · rw [if_neg z] at e
        have := ih (by omega) e
        rw [show nI k + (-1) = nI k - 1 by rw [Int32.sub_eq_add_neg]]
        exact this
  exact key _ (Nat.le_refl _) rfl
theorem m_latest {Q : Int32 → mI → mL → gm_cfg → Prop} {j : Nat} (h : FM I) (hj : j < 6) (hq : Q (oI (la (wr I) j (nv I 1))) I L c) : C_M_latestOf g (nI j) I L c Q := by
  have hG := gG h
  refine e_M_latestOf ?_
  rw [hG.1]
  have key : ∀ k, k ≤ nv I 1 → la (wr I) j (nv I 1) = la (wr I) j k → Z_M_latestOf g Q 9 [(0, .ref 59), (1, .int (nI j)), (2, .int (nI k - 1))] [] I L c := by
    intro k
    induction k with
    | zero =>
      intro _ e
      rw [e] at hq
      exact r_M_latestOf_9 (br_t (by decide) hq)
    | succ k ih =>
      intro hk e
      have hw := wr_ltm h (k := k) (by omega)
      rw [nI_pred]
      have e1 : I 60 (29 + k) = nI (wr I k) := (gNu h (by omega)).2.1
      have e2 : Int32.toNatClampNeg (29 + nI k) = 29 + k := ixa 29 k (by omega)
      refine r_M_latestOf_9 (br_f (nI_pos (by omega)) ⟨via 29 k 330 (by omega) (by omega), ?_⟩)
      rw [e2, e1]
      simp only [la] at e
      refine pk_eq (wr I k) j (fun z => ?_) (fun z => ?_)
      · rw [if_pos z] at e; rw [e] at hq; exact hq
      · rw [if_neg z] at e
        have := ih (by omega) e
        rw [show nI k + (-1) = nI k - 1 by rw [Int32.sub_eq_add_neg]]
        exact this
  exact key _ (Nat.le_refl _) rfl
theorem P_guesser {x y : Int32} (hI : Inv I L c) : C_J_guesser g x y I L c (mQ (C_M_guesser g x y)) := by
  have h : FS0 I := hI.1
  have hT : FM (gm_u I 59 0 0) := FM.k (FS0.m h) (kT (L := L))
  have hN := fN h
  rcases inR x (nv I 0) (by omega) with ⟨j, hj, rfl⟩ | hx
  · refine e_J_guesser (j_hasT h hj (bt ?_))
    obtain ⟨g1, g2, g3⟩ := fGs h hj
    rcases inR y 5 (by omega) with ⟨k, hk, rfl⟩ | hy
    · have M : ∀ v, (∀ Q : Int32 → mI → mL → gm_cfg → Prop, Q v (gm_u I 59 0 0) L c → ((3 ≤ nI k → ((nI k = 3 → (C_M_guessesOf g (nI j) (gm_u I 59 0 0) L c (fun r12 I9 L10 c11 => Q r12 I9 L10 c11))) ∧ (¬ nI k = 3 → (C_M_latestOf g (nI j) (gm_u I 59 0 0) L c (fun r16 I13 L14 c15 => Q r16 I13 L14 c15))))) ∧ (¬ 3 ≤ nI k → (vp_in ((11 + (6 * nI k)) + nI j) 330 ∧ Q ((gm_u I 59 0 0) 60 (Int32.toNatClampNeg ((11 + (6 * nI k)) + nI j))) (gm_u I 59 0 0) L c)))) → mQ (C_M_guesser g (nI j) (nI k)) v I L c := by
        intro v hv
        exact e_M_guesser (m_isGuesserT hT hj (bt (m_0t (n := 4) rfl (by omega) (by omega) (bt (hv _ (fin hI rfl kT))))))
      have ix : ∀ k, k < 3 → vp_in ((11 + (6 * nI k)) + nI j) 330 ∧ Int32.toNatClampNeg ((11 + (6 * nI k)) + nI j) = 11 + 6 * k + j := by
        intro k hk
        have e : (11 + 6 * nI k : Int32) + nI j = nI (11 + 6 * k + j) := by
          rw [show (11 + 6 * nI k : Int32) = nI 11 + nI 6 * nI k from rfl, pk_mul, nI_add, nI_add]
        rw [e]
        exact ⟨vp_in_nI (by omega) (by omega), nI_clamp (by omega)⟩
      match k, hk with
      | 0, _ => exact br_t rfl ⟨vp_in_nI (by omega) (by omega), by
          rw [nI_clamp (by omega), g1.2.2, ← g1.1]
          exact M _ (fun Q hq => br_f (by decide) ⟨(ix 0 (by omega)).1, by rw [(ix 0 (by omega)).2]; exact hq⟩)⟩
      | 1, _ => exact br_f (by decide) (br_t rfl ⟨vp_in_nI (by omega) (by omega), by
          rw [nI_clamp (by omega), g2.2.2, ← g2.1]
          exact M _ (fun Q hq => br_f (by decide) ⟨(ix 1 (by omega)).1, by rw [(ix 1 (by omega)).2]; exact hq⟩)⟩)
      | 2, _ => exact br_f (by decide) (br_f (by decide) (br_t rfl ⟨vp_in_nI (by omega) (by omega), by
          rw [nI_clamp (by omega), g3.2.2, ← g3.1]
          exact M _ (fun Q hq => br_f (by decide) ⟨(ix 2 (by omega)).1, by rw [(ix 2 (by omega)).2]; exact hq⟩)⟩))
      | 3, _ => exact br_f (by decide) (br_f (by decide) (br_f (by decide) (br_t rfl (j_written h (by omega) (M _ (fun Q hq => br_t (by decide) (br_t rfl (m_written hT (by omega) hq))))))))
      | 4, _ => exact br_f (by decide) (br_f (by decide) (br_f (by decide) (br_f (by decide) (br_t rfl (j_latest h (by omega) (M _ (fun Q hq => br_t (by decide) (br_f (by decide) (m_latest hT (by omega) hq)))))))))
    · exact br_f (neo (by omega) hy 0 (by omega)) (br_f (neo (by omega) hy 1 (by omega)) (br_f (neo (by omega) hy 2 (by omega)) (br_f (neo (by omega) hy 3 (by omega)) (br_f (neo (by omega) hy 4 (by omega)) (e_M_guesser (m_isGuesserT hT hj (bt (m_0f (n := 4) rfl (by omega) hy (bf (fin hI rfl kT))))))))))
  · exact e_J_guesser (j_hasF h hx (bf (e_M_guesser (m_isGuesserF hT hx (bf (fin hI rfl kT))))))
/-! sight -/
abbrev si (I : mI) (j t : Nat) : Nat := t * nv I (11 + j) / 100
theorem j_sight {Q : Int32 → mI → mL → gm_cfg → Prop} {j t : Nat} (h : FS0 I) (hj : j < nv I 0) (ht : t < 2 ^ 20) (hq : Q (nI (si I j t)) I L c) : C_Fe16_sightOf g (nI j) (nI t) I L c Q := by
  have g1 := (fGs h hj).1
  have hN := fN h
  refine e_Fe16_sightOf (j_hasT h hj (bt ⟨vp_in_nI (by omega) (by omega), ?_⟩))
  have hm : t * nv I (11 + j) ≤ 2 ^ 20 * 200 := Nat.mul_le_mul (by omega) g1.2.1
  rw [nI_clamp (by omega), g1.2.2, pk_mul]
  have e : nI (t * nv I (11 + j)) / 100 = nI (t * nv I (11 + j) / 100) := pk_div (d := 100) (by omega) (by omega) (by omega)
  rw [e]
  exact hq
theorem m_sight {Q : Int32 → mI → mL → gm_cfg → Prop} {j t : Nat} (h : FM I) (hj : j < nv I 0) (ht : t < 2 ^ 20) (hq : Q (nI (si I j t)) I L c) : C_M_sightOf g (nI j) (nI t) I L c Q := by
  have g1 := (gGs h hj).1
  have hN := gNn h
  refine e_M_sightOf ⟨via 11 j 330 (by omega) (by omega), ?_⟩
  have hm : t * nv I (11 + j) ≤ 2 ^ 20 * 200 := Nat.mul_le_mul (by omega) g1.2.1
  have e2 : Int32.toNatClampNeg (11 + nI j) = 11 + j := ixa 11 j (by omega)
  rw [e2, g1.1, pk_mul]
  have e : nI (t * nv I (11 + j)) / 100 = nI (t * nv I (11 + j) / 100) := pk_div (d := 100) (by omega) (by omega) (by omega)
  rw [e]
  exact hq
theorem P_sight {x y : Int32} (hI : Inv I L c) : C_J_sight g x y I L c (mQ (C_M_sight g x y)) := by
  have h : FS0 I := hI.1
  have hT : FM (gm_u I 59 0 0) := FM.k (FS0.m h) (kT (L := L))
  have hN := fN h
  rcases inR x (nv I 0) (by omega) with ⟨j, hj, rfl⟩ | hx
  · refine e_J_sight (j_hasT h hj (bt ?_))
    rcases inAB y 1 999 (by omega) (by omega) with ⟨t, h1, h2, rfl⟩ | hy
    · exact j_isJarT h1 h2 (bt (j_sight h hj (by omega) (e_M_sight (m_isGuesserT hT hj (bt (m_wt (a := 1) (b := 999) rfl rfl h1 h2 (by omega) (bt (m_sight hT hj (by omega) (fin hI rfl kT)))))))))
    · exact j_isJarF hy (bf (e_M_sight (m_isGuesserT hT hj (bt (m_wf (a := 1) (b := 999) rfl rfl (by omega) (by omega) hy (bf (fin hI rfl kT)))))))
  · exact e_J_sight (j_hasF h hx (bf (e_M_sight (m_isGuesserF hT hx (bf (fin hI rfl kT))))))
/-! weight -/
def wt (I : mI) (t : Nat) : Nat := if I 60 10 = -1 then 1 else 9 - nv I 10 * ad t (nv I 9) + (1 - (9 - nv I 10 * ad t (nv I 9)))
theorem wt_b (I : mI) (t : Nat) : 1 ≤ wt I t ∧ wt I t ≤ 9 := by
  unfold wt
  split <;> omega
theorem nine_sub {p : Nat} (hp : p < 2 ^ 20) : (9 - nI p : Int32) = (if p ≤ 9 then nI (9 - p) else nI 9 - nI p) := by
  split
  · rename_i q; exact pk_sub (a := 9) q
  · rfl
theorem nine_neg {p : Nat} (hp : p < 2 ^ 20) (h : 9 < p) : (9 - nI p : Int32) < 0 := pk_sneg (a := 9) (by omega) h
theorem n_lt0 {x : Int32} (h : x < 0) : ¬ 1 < x ∧ ¬ 1 ≤ x := by
  rw [Int32.lt_iff_toInt_lt] at h
  have e0 : (0 : Int32).toInt = 0 := rfl
  have e1 : (1 : Int32).toInt = 1 := rfl
  constructor
  · intro q; rw [Int32.lt_iff_toInt_lt] at q; omega
  · intro q; rw [Int32.le_iff_toInt_le] at q; omega
theorem j_weight {Q : Int32 → mI → mL → gm_cfg → Prop} {t : Nat} (h : FS0 I) (ht : t < 2 ^ 16) (hq : Q (nI (wt I t)) I L c) : C_Fe16_weightOf g (nI t) I L c Q := by
  unfold wt at hq
  rcases fPri h with ⟨a1, a2⟩ | ⟨a1, a2, a3, a4, a5, a6, a7⟩
  · rw [if_pos a2] at hq
    exact e_Fe16_weightOf (br_t a1 hq)
  · rw [if_neg (by rw [a5]; exact nIm1 (by omega))] at hq
    refine e_Fe16_weightOf (br_f (by rw [a1]; decide) ?_)
    rw [a4, a7, ad_abs (by omega) (by omega), pk_mul]
    have hb : nv I 10 * ad t (nv I 9) ≤ 8 * 2 ^ 16 := Nat.mul_le_mul a6 (by unfold ad; omega)
    generalize nv I 10 * ad t (nv I 9) = p at hq hb
    rcases Nat.lt_or_ge 9 p with z | z
    · rw [if_neg (n_lt0 (nine_neg (by omega) z)).1]
      rw [show 9 - p + (1 - (9 - p)) = 1 by omega] at hq
      exact hq
    · rw [show (9 - nI p : Int32) = nI (9 - p) from pk_sub (a := 9) z]
      split
      · rename_i z2
        have := nlt (a := 1) z2 (by omega) (by omega)
        rw [show 9 - p + (1 - (9 - p)) = 9 - p by omega] at hq
        exact hq
      · rename_i z2
        have := nnlt (a := 1) z2 (by omega)
        rw [show 9 - p + (1 - (9 - p)) = 1 by omega] at hq
        exact hq
theorem m_weight {Q : Int32 → mI → mL → gm_cfg → Prop} {t : Nat} (h : FM I) (ht : t < 2 ^ 16) (hq : Q (nI (wt I t)) I L c) : C_M_weightOf g (nI t) I L c Q := by
  unfold wt at hq
  rcases gPri h with ⟨a1, a2⟩ | ⟨a1, a2, a3, a4, a5, a6, a7⟩
  · rw [if_pos a2] at hq
    exact e_M_weightOf (br_t a2 hq)
  · have ne : ¬ I 60 10 = -1 := by rw [a5]; exact nIm1 (by omega)
    rw [if_neg ne] at hq
    refine e_M_weightOf (br_f ne ?_)
    rw [a2, a5]
    refine m_off (by omega) (by omega) ?_
    rw [pk_mul]
    have hb : nv I 10 * ad t (nv I 9) ≤ 8 * 2 ^ 16 := Nat.mul_le_mul a6 (by unfold ad; omega)
    generalize nv I 10 * ad t (nv I 9) = p at hq hb
    rcases Nat.lt_or_ge 9 p with z | z
    · refine br_f (n_lt0 (nine_neg (by omega) z)).2 ?_
      rw [show 9 - p + (1 - (9 - p)) = 1 by omega] at hq
      exact hq
    · rw [show (9 - nI p : Int32) = nI (9 - p) from pk_sub (a := 9) z]
      refine br_c (fun z2 => ?_) (fun z2 => ?_)
      · have := nle (a := 1) z2 (by omega) (by omega)
        rw [show 9 - p + (1 - (9 - p)) = 9 - p by omega] at hq
        exact hq
      · have := nnle (a := 1) z2 (by omega)
        rw [show 9 - p + (1 - (9 - p)) = 1 by omega] at hq
        exact hq
theorem P_weight {x : Int32} (hI : Inv I L c) : C_J_weight g x I L c (mQ (C_M_weight g x)) := by
  have h : FS0 I := hI.1
  have hT : FM (gm_u I 59 0 0) := FM.k (FS0.m h) (kT (L := L))
  have hLo := fLo h
  have hHi := fHi h
  rcases inAB x (nv I 2) (nv I 3) (by omega) (by omega) with ⟨t, h1, h2, rfl⟩ | hx
  · exact e_J_weight (j_spT h h1 h2 (bt (j_weight h (by omega) (e_M_weight (m_grT hT h1 h2 (bt (m_weight hT (by omega) (fin hI rfl kT))))))))
  · exact e_J_weight (j_spF h hx (bf (e_M_weight (m_grF hT hx (bf (fin hI rfl kT))))))
theorem P_leader {x : Int32} (hI : Inv I L c) : C_J_leader g x I L c (mQ (C_M_leader g x)) := by
  have h : FS0 I := hI.1
  have hT : FM (gm_u I 59 0 0) := FM.k (FS0.m h) (kT (L := L))
  rcases inAB x 1 999 (by omega) (by omega) with ⟨t, h1, h2, rfl⟩ | hx
  · exact e_J_leader (j_isJarT h1 h2 (bt (j_near h (by omega) (e_M_leader (m_wt (a := 1) (b := 999) rfl rfl h1 h2 (by omega) (bt (m_near hT (by omega) (fin hI rfl kT))))))))
  · exact e_J_leader (j_isJarF hx (bf (e_M_leader (m_wf (a := 1) (b := 999) rfl rfl (by omega) (by omega) hx (bf (fin hI rfl kT))))))
theorem P_winner (hI : Inv I L c) : C_J_winner g I L c (mQ (C_M_winner g)) := by
  have h : FS0 I := hI.1
  have hT : FM (gm_u I 59 0 0) := FM.k (FS0.m h) (kT (L := L))
  have hJ := fJr h
  refine e_J_winner ?_
  rw [hJ.2.2]
  refine br_c (fun z => e_M_winner (br_t (by rw [hJ.1]; exact z) (fin hI rfl kT))) (fun z => j_near h (by omega) (e_M_winner (br_f (by rw [hJ.1]; exact z) ?_)))
  rw [hJ.1]
  exact m_near hT (by omega) (fin hI rfl kT)
end A
