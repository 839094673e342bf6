/-! the list: sums, means, goals, who is nearest, ranks -/
/-- the k-th number of the list -/
abbrev nu (I : mI) : Nat → Nat := fun k => nv I (69 + k)
theorem sN_le {f : Nat → Nat} {B : Nat} : ∀ n, (∀ k, k < n → f k ≤ B) → sN f n ≤ n * B
  | 0, _ => by simp [sN]
  | n + 1, h => by
    have h1 := sN_le n (fun k hk => h k (by omega))
    have h2 := h n (by omega)
    show sN f n + f n ≤ (n + 1) * B
    rw [Nat.add_mul]
    omega
theorem sN_nu {I : mI} (h : FM I) {m : Nat} (hm : m ≤ nv I 1) : sN (nu I) m ≤ 80000 := by
  have h1 := (gG h).2.1
  have h2 := sN_le (f := nu I) (B := 2000) m (fun k hk => (gNu h (by omega)).1.2.1)
  have h3 : m * 2000 ≤ 40 * 2000 := Nat.mul_le_mul_right _ (by omega)
  omega
/-- the mean of the first m, cut; -1: none -/
def mn (f : Nat → Nat) (m : Nat) : Int32 := if m = 0 then -1 else nI (sN f m / m)
def gl (I : mI) (k : Nat) : Int32 := if nv I 7 = 1 then -1 else mn (nu I) k
def oI : Option Nat → Int32
  | none => -1
  | some n => nI n
def nr (f : Nat → Nat) (t : Nat) : Nat → Option Nat
  | 0 => none
  | n + 1 => match nr f t n with
    | none => some n
    | some b => if ad (f n) t < ad (f b) t then some n else some b
theorem nr_lt {f : Nat → Nat} {t : Nat} : ∀ n b, nr f t n = some b → b < n
  | 0, b, h => by cases h
  | n + 1, b, h => by
    unfold nr at h
    cases hq : nr f t n with
    | none => rw [hq] at h; cases h; omega
    | some d =>
      rw [hq] at h
      have := nr_lt n d hq
      simp only at h
      split at h
      · cases h; omega
      · cases h; omega
theorem nr_some {f : Nat → Nat} {t : Nat} : ∀ n, 0 < n → ∃ b, nr f t n = some b
  | 0, h => by omega
  | n + 1, _ => by
    unfold nr
    cases nr f t n with
    | none => exact ⟨n, rfl⟩
    | some d =>
      simp only
      split
      · exact ⟨_, rfl⟩
      · exact ⟨_, rfl⟩
theorem nIm1 {n : Nat} (h : n < 2 ^ 31) : ¬ nI n = -1 := by
  intro q
  have h1 := congrArg Int32.toInt q
  rw [nI_toInt h] at h1
  have h2 : (-1 : Int32).toInt = -1 := rfl
  omega
section L
variable {g : gm_G} {I : mI} {L : mL} {c : gm_cfg}
theorem j_sumOf {Q : Int32 → mI → mL → gm_cfg → Prop} {m : Nat} (h : FS0 I) (hm : m ≤ nv I 1) (hq : Q (nI (sN (nu I) m)) I L c) : C_Sh20_sumOf g (nI m) I L c Q := by
  have hG := fG h
  refine e_Sh20_sumOf ?_
  refine lp0 (P := fun k => Z_Sh20_sumOf g Q 4 [(0, .ref 20), (1, .int (nI m)), (2, .int (nI (sN (nu I) k))), (3, .int (nI k))] [] I L c) m ?_ ?_
  · exact r_Sh20_sumOf_4 (br_t (nI_le (Nat.le_refl _) (by omega)) hq)
  · intro k hk ih
    refine r_Sh20_sumOf_4 (br_f (nI_ge hk (by omega)) (br_f ?_ ⟨vp_in_nI (by omega) (by omega), ?_⟩))
    · rw [hG.2.2]; exact nI_ge (by omega) (by omega)
    · rw [nI_clamp (by omega), (fNu h (by omega)).1.2.2, nI_add, nI_1]
      exact ih
theorem m_meanOf {Q : Int32 → mI → mL → gm_cfg → Prop} {m : Nat} (h : FM I) (hm : m ≤ nv I 1) (hq : Q (mn (nu I) m) I L c) : C_M_meanOf g (nI m) I L c Q := by
  have hG := gG h
  refine e_M_meanOf ?_
  refine lp0 (P := fun k => Z_M_meanOf g Q 4 [(0, .ref 59), (1, .int (nI m)), (2, .int (nI (sN (nu I) k))), (3, .int (nI k))] [] I L c) m ?_ ?_
  · refine r_M_meanOf_4 (br_t (nI_le (Nat.le_refl _) (by omega)) ?_)
    rcases Nat.eq_zero_or_pos m with e | e
    · subst e
      exact br_t rfl hq
    · refine br_f (nI_ne0 e (by omega)) ⟨nI_ne0 e (by omega), ?_⟩
      have := sN_nu h hm
      rw [pk_div (by omega) e (by omega)]
      unfold mn at hq
      rw [if_neg (by omega)] at hq
      exact hq
  · intro k hk ih
    refine r_M_meanOf_4 (br_f (nI_ge hk (by omega)) (m_numberOf h (by omega) ?_))
    rw [nI_add, nI_1]
    exact ih
theorem j_meanOf {Q : Int32 → mI → mL → gm_cfg → Prop} {m : Nat} (h : FS0 I) (hm : m ≤ nv I 1) (hq : Q (mn (nu I) m) I L c) : C_Sh20_meanOf g (nI m) I L c Q := by
  have hG := fG h
  unfold mn at hq
  rcases Nat.eq_zero_or_pos m with e | e
  · subst e
    exact e_Sh20_meanOf (br_t (by decide) hq)
  · rw [if_neg (by omega)] at hq
    refine e_Sh20_meanOf (br_f (nI_nle e (by omega)) (j_sumOf h hm ⟨nI_ne0 e (by omega), ?_⟩))
    have := sN_nu (FS0.m h) hm
    rw [pk_div (by omega) e (by omega)]
    exact hq
theorem j_goalAt {Q : Int32 → mI → mL → gm_cfg → Prop} {k : Nat} (h : FS0 I) (hk : k ≤ nv I 1) (hq : Q (gl I k) I L c) : C_Sh20_goalAt g (nI k) (I 16 9) I L c Q := by
  have hG := fG h
  have hh := fHd h
  unfold gl mn at hq
  refine e_Sh20_goalAt (br_c (fun z => ?_) (fun z => ?_))
  · rw [hh.2.2] at z
    have z0 := neq (b := 0) z (by omega) (by omega)
    rw [if_neg (by omega)] at hq
    rcases Nat.eq_zero_or_pos k with e | e
    · subst e
      exact br_f (by decide) hq
    · rw [if_neg (by omega)] at hq
      refine br_t ?_ (j_sumOf h hk ⟨nI_ne0 e (by omega), ?_⟩)
      · exact nI_lt (a := 0) e (by omega)
      · have := sN_nu (FS0.m h) hk
        rw [pk_div (by omega) e (by omega)]
        exact hq
  · rw [hh.2.2] at z
    have z1 : nv I 7 = 1 := by
      rcases Nat.eq_zero_or_pos (nv I 7) with e | e
      · rw [e] at z; exact absurd rfl z
      · omega
    rw [if_pos z1] at hq
    exact hq
theorem m_goalAt {Q : Int32 → mI → mL → gm_cfg → Prop} {k : Nat} (h : FM I) (hk : k ≤ nv I 1) (hq : Q (gl I k) I L c) : C_M_goalAt g (nI k) I L c Q := by
  have hh := gHd h
  unfold gl at hq
  refine e_M_goalAt (br_c (fun z => ?_) (fun z => ?_))
  · rw [hh.1] at z
    have z0 := neq (b := 1) z (by omega) (by omega)
    rw [if_pos z0] at hq
    exact hq
  · rw [hh.1] at z
    rw [if_neg (fun q => z (by rw [q]; rfl))] at hq
    exact m_meanOf h hk hq
theorem j_near {Q : Int32 → mI → mL → gm_cfg → Prop} {t : Nat} (h : FS0 I) (ht : t < 2 ^ 20) (hq : Q (oI (nr (nu I) t (nv I 1))) I L c) : C_Sh20_nearestTo g (nI t) I L c Q := by
  have hG := fG h
  refine e_Sh20_nearestTo ?_
  refine lp0 (P := fun k => Z_Sh20_nearestTo g Q 7 [(0, .ref 20), (1, .int (nI t)), (2, .int (oI (nr (nu I) t k))), (3, .int (match nr (nu I) t k with | none => 0 | some b => nI (ad (nu I b) t))), (4, .int (nI k))] [] I L c) (nv I 1) ?_ ?_
  · exact r_Sh20_nearestTo_7 (br_t (by rw [hG.2.2]; exact nI_le (Nat.le_refl _) (by omega)) hq)
  · intro k hk ih
    have hn := fNu h hk
    have e1 : (if 0 ≤ (nI (nu I k) - nI t) then (nI (nu I k) - nI t) else 0 - (nI (nu I k) - nI t) : Int32) = nI (ad (nu I k) t) := ad_abs (by show nv I (69 + k) < _; omega) (by omega)
    refine r_Sh20_nearestTo_7 (br_f (by rw [hG.2.2]; exact nI_ge hk (by omega)) ⟨vp_in_nI (by omega) (by omega), ?_⟩)
    rw [nI_clamp (by omega), hn.1.2.2, e1, nI_1]
    have hd1 : ad (nu I k) t < 2 ^ 30 := by unfold ad; show (nv I (69 + k) - t) + (t - nv I (69 + k)) < _; omega
    show _ ∧ _
    simp only [nr] at ih
    cases hb : nr (nu I) t k with
    | none =>
      rw [hb] at ih
      exact br_t rfl ih
    | some b =>
      rw [hb] at ih
      have hbk := nr_lt _ _ hb
      have hnb := fNu h (k := b) (by omega)
      have hd2 : ad (nu I b) t < 2 ^ 30 := by unfold ad; show (nv I (69 + b) - t) + (t - nv I (69 + b)) < _; omega
      refine br_f (nIm1 (by omega)) (br_c (fun z => ?_) (fun z => ?_))
      · have := nle z (by omega) (by omega)
        simp only [if_neg (Nat.not_lt.mpr this)] at ih
        exact ih
      · have := nnle z (by omega)
        simp only [if_pos this] at ih
        exact ih
theorem m_near {Q : Int32 → mI → mL → gm_cfg → Prop} {t : Nat} (h : FM I) (ht : t < 2 ^ 20) (hq : Q (oI (nr (nu I) t (nv I 1))) I L c) : C_M_leaderFor g (nI t) I L c Q := by
  have hG := gG h
  refine e_M_leaderFor ?_
  refine lp0 (P := fun k => Z_M_leaderFor g Q 4 [(0, .ref 59), (1, .int (nI t)), (2, .int (oI (nr (nu I) t k))), (3, .int (nI k))] [] I L c) (nv I 1) ?_ ?_
  · exact r_M_leaderFor_4 (br_t (by rw [hG.1]; exact nI_le (Nat.le_refl _) (by omega)) hq)
  · intro k hk ih
    have hn := gNu h hk
    have hd1 : ad (nu I k) t < 2 ^ 30 := by unfold ad; show (nv I (69 + k) - t) + (t - nv I (69 + k)) < _; omega
    refine r_M_leaderFor_4 (br_f (by rw [hG.1]; exact nI_ge hk (by omega)) ?_)
    rw [nI_1]
    simp only [nr] at ih
    cases hb : nr (nu I) t k with
    | none =>
      rw [hb] at ih
      exact br_t rfl ih
    | some b =>
      rw [hb] at ih
      have hbk := nr_lt _ _ hb
      have hnb := gNu h (k := b) (by omega)
      have hd2 : ad (nu I b) t < 2 ^ 30 := by unfold ad; show (nv I (69 + b) - t) + (t - nv I (69 + b)) < _; omega
      refine br_f (nIm1 (by omega)) (m_numberOf h hk (m_off (by omega) (by omega) (m_numberOf h (by omega) (m_off (by omega) (by omega) (br_c (fun z => ?_) (fun z => ?_))))))
      · have := nle (a := ad (nu I b) t) (b := ad (nu I k) t) z (by omega) (by omega)
        simp only [if_neg (Nat.not_lt.mpr this)] at ih
        exact ih
      · have := nnle (a := ad (nu I b) t) (b := ad (nu I k) t) z (by omega)
        simp only [if_pos this] at ih
        exact ih
end L
