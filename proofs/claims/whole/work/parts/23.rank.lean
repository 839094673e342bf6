/-! counts and ranks -/
def cl (f : Nat → Nat) (v : Nat) : Nat → Nat
  | 0 => 0
  | n + 1 => cl f v n + (if f n < v then 1 else 0)
def ce (f : Nat → Nat) (v : Nat) : Nat → Nat
  | 0 => 0
  | n + 1 => ce f v n + (if f n = v then 1 else 0)
theorem cl_le (f : Nat → Nat) (v : Nat) : ∀ n, cl f v n + ce f v n ≤ n
  | 0 => by simp [cl, ce]
  | n + 1 => by
    have := cl_le f v n
    show cl f v n + _ + (ce f v n + _) ≤ n + 1
    split <;> split <;> omega
theorem cl_0 {f : Nat → Nat} {v : Nat} : ∀ n, (cl f v n = 0 ↔ ∀ j, j < n → v ≤ f j)
  | 0 => ⟨fun _ j hj => by omega, fun _ => rfl⟩
  | n + 1 => by
    have ih := cl_0 (f := f) (v := v) n
    constructor
    · intro h j hj
      have h1 : cl f v n + (if f n < v then 1 else 0) = 0 := h
      rcases Nat.lt_or_ge j n with q | q
      · exact (ih.mp (by omega)) j q
      · have : j = n := by omega
        subst this
        split at h1 <;> omega
    · intro h
      show cl f v n + (if f n < v then 1 else 0) = 0
      have h1 := ih.mpr (fun j hj => h j (by omega))
      have h2 := h n (by omega)
      rw [h1, if_neg (by omega)]
theorem cl_full {f : Nat → Nat} {v : Nat} : ∀ n, (cl f v n + ce f v n = n ↔ ∀ j, j < n → f j ≤ v)
  | 0 => ⟨fun _ j hj => by omega, fun _ => rfl⟩
  | n + 1 => by
    have ih := cl_full (f := f) (v := v) n
    have hle := cl_le f v n
    constructor
    · intro h j hj
      have h1 : cl f v n + (if f n < v then 1 else 0) + (ce f v n + (if f n = v then 1 else 0)) = n + 1 := h
      rcases Nat.lt_or_ge j n with q | q
      · refine (ih.mp ?_) j q
        split at h1 <;> split at h1 <;> omega
      · have : j = n := by omega
        subst this
        split at h1 <;> split at h1 <;> omega
    · intro h
      show cl f v n + (if f n < v then 1 else 0) + (ce f v n + (if f n = v then 1 else 0)) = n + 1
      have h1 := ih.mpr (fun j hj => h j (by omega))
      have h2 := h n (by omega)
      rcases Nat.lt_or_ge (f n) v with q | q
      · rw [if_pos q, if_neg (by omega)]; omega
      · rw [if_neg (by omega), if_pos (by omega)]; omega
theorem ce_pos {f : Nat → Nat} {v : Nat} : ∀ n k, k < n → f k = v → 0 < ce f v n
  | 0, k, h, _ => by omega
  | n + 1, k, h, e => by
    show 0 < ce f v n + _
    rcases Nat.lt_or_ge k n with q | q
    · have := ce_pos n k q e; omega
    · have : k = n := by omega
      subst this
      rw [if_pos e]; omega
/-- the k-th number has the rank r among n -/
def RK (f : Nat → Nat) (n r k : Nat) : Prop := cl f (f k) n ≤ r ∧ r < cl f (f k) n + ce f (f k) n
/-- the first place of a rank: found, or there is none -/
def RQ (f : Nat → Nat) (n r : Nat) (v : Int32) : Prop := (∃ k, k < n ∧ RK f n r k ∧ (∀ j, j < k → ¬ RK f n r j) ∧ v = nI (f k)) ∨ ((∀ j, j < n → ¬ RK f n r j) ∧ v = -1)
theorem RQ_ex (f : Nat → Nat) (n r : Nat) : ∃ v, RQ f n r v := by
  by_cases h : ∃ k, k < n ∧ RK f n r k
  · obtain ⟨k, ⟨h1, h2⟩, h3⟩ := pk_least (fun k => k < n ∧ RK f n r k) h
    exact ⟨_, Or.inl ⟨k, h1, h2, fun j hj q => h3 j hj ⟨by omega, q⟩, rfl⟩⟩
  · exact ⟨-1, Or.inr ⟨fun j hj q => h ⟨j, hj, q⟩, rfl⟩⟩
section K
variable {g : gm_G} {I : mI} {L : mL} {c : gm_cfg}
theorem j_mid1 {Q : Int32 → mI → mL → gm_cfg → Prop} {r k : Nat} (h : FS0 I) (hk : k < nv I 1) (hr : r < 2 ^ 20) (k1 : RK (nu I) (nv I 1) r k → Q (nI (nu I k)) I L c) (k2 : ¬ RK (nu I) (nv I 1) r k → Z_Sh20_middle g Q 11 [(0, .ref 20), (1, .int (nI r)), (2, .int (nI (k + 1)))] [] I L c) : Z_Sh20_middle g Q 27 [(0, .ref 20), (1, .int (nI r)), (2, .int (nI k)), (3, .int 0), (4, .int 0), (5, .int 0)] [] I L c := by
  have hG := fG h
  refine lp0 (P := fun i => Z_Sh20_middle g Q 27 [(0, .ref 20), (1, .int (nI r)), (2, .int (nI k)), (3, .int (nI (cl (nu I) (nu I k) i))), (4, .int (nI (ce (nu I) (nu I k) i))), (5, .int (nI i))] [] I L c) (nv I 1) ?_ ?_
  · have hle := cl_le (nu I) (nu I k) (nv I 1)
    refine r_Sh20_middle_27 (br_t (by rw [hG.2.2]; exact nI_le (Nat.le_refl _) (by omega)) ?_)
    rw [nI_1]
    refine br_c (fun z => k2 ?_) (fun z => br_c (fun z2 => k2 ?_) (fun z2 => ⟨vp_in_nI (by omega) (by omega), ?_⟩))
    · have := nlt z (by omega) (by omega)
      intro q; unfold RK at q; omega
    · rw [nI_add] at z2
      have := nle z2 (by omega) (by omega)
      intro q; unfold RK at q; omega
    · rw [nI_add] at z2
      have q1 := nnlt z (by omega)
      have q2 := nnle z2 (by omega)
      rw [nI_clamp (by omega), (fNu h hk).1.2.2]
      exact k1 ⟨q1, q2⟩
  · intro i hi ih
    have hn := fNu h hi
    have hnk := fNu h hk
    have b1 : nu I i < 2 ^ 31 := by show nv I (69 + i) < _; omega
    have b2 : nu I k < 2 ^ 31 := by show nv I (69 + k) < _; omega
    have E1 : I 21 i = nI (nu I i) := hn.1.2.2
    have E2 : I 21 k = nI (nu I k) := hnk.1.2.2
    refine r_Sh20_middle_27 (br_f (by rw [hG.2.2]; exact nI_ge hi (by omega)) ⟨vp_in_nI (by omega) (by omega), vp_in_nI (by omega) (by omega), ?_⟩)
    rw [nI_clamp (by omega), nI_clamp (by omega), E1, E2, nI_1, nI_1, nI_1]
    simp only [cl, ce] at ih
    refine br_c (fun z => ⟨vp_in_nI (by omega) (by omega), vp_in_nI (by omega) (by omega), br_c (fun z2 => ?_) (fun z2 => ?_)⟩) (fun z => ?_)
    · have q := neq z2 b1 b2
      rw [if_neg (by omega), if_pos q] at ih
      exact ih
    · have q1 := nle z b2 b1
      have q2 : ¬ nu I i = nu I k := fun e => z2 (by rw [e])
      rw [if_neg (by omega), if_neg q2] at ih
      exact ih
    · have q := nnle z b1
      rw [if_pos q, if_neg (by omega)] at ih
      exact ih
theorem j_mid {Q : Int32 → mI → mL → gm_cfg → Prop} {v : Int32} (h : FS0 I) (hp : 0 < nv I 1) (hv : RQ (nu I) (nv I 1) ((nv I 1 - 1) / 2) v) (hq : Q v I L c) : C_Sh20_middle g I L c Q := by
  have hG := fG h
  refine e_Sh20_middle ?_
  have e0 : (I 20 2 - 1) / 2 = nI ((nv I 1 - 1) / 2) := by
    rw [hG.2.2]
    obtain ⟨m, hm⟩ : ∃ m, nv I 1 = m + 1 := ⟨nv I 1 - 1, by omega⟩
    rw [hm, nI_pred]
    exact pk_div (d := 2) (by omega) (by omega) (by omega)
  rw [e0]
  have key : ∀ m, (∀ j, j < m → ¬ RK (nu I) (nv I 1) ((nv I 1 - 1) / 2) j) → (∃ k, m ≤ k ∧ k < nv I 1 ∧ RK (nu I) (nv I 1) ((nv I 1 - 1) / 2) k ∧ (∀ j, j < k → ¬ RK (nu I) (nv I 1) ((nv I 1 - 1) / 2) j) ∧ v = nI (nu I k)) ∨ (m ≤ nv I 1 ∧ (∀ j, j < nv I 1 → ¬ RK (nu I) (nv I 1) ((nv I 1 - 1) / 2) j) ∧ v = -1) → Z_Sh20_middle g Q 11 [(0, .ref 20), (1, .int (nI ((nv I 1 - 1) / 2))), (2, .int (nI m))] [] I L c := by
    intro m hm
    generalize hd : nv I 1 - m = d
    induction d generalizing m with
    | zero =>
      intro hh
      rcases hh with ⟨k, a1, a2, a3, a4, a5⟩ | ⟨a1, a2, a3⟩
      · omega
      · refine r_Sh20_middle_11 (br_t (by rw [hG.2.2]; exact nI_le (by omega) (by omega)) ?_)
        rw [← a3]; exact hq
    | succ d ih =>
      have e9 : nv I 1 - (m + 1) = d := by omega
      intro hh
      refine r_Sh20_middle_11 (br_f (by rw [hG.2.2]; exact nI_ge (by omega) (by omega)) (j_mid1 h (by omega) (by omega) (fun q => ?_) (fun q => ?_)))
      · rcases hh with ⟨k, a1, a2, a3, a4, a5⟩ | ⟨a1, a2, a3⟩
        · have e : k = m := by
            rcases Nat.lt_or_ge m k with z | z
            · exact absurd q (a4 m z)
            · omega
          subst e
          rw [← a5]; exact hq
        · exact absurd q (a2 m (by omega))
      · refine ih (m + 1) (fun j hj => ?_) e9 ?_
        · rcases Nat.lt_or_ge j m with z | z
          · exact hm j z
          · have : j = m := by omega
            subst this; exact q
        · rcases hh with ⟨k, a1, a2, a3, a4, a5⟩ | ⟨a1, a2, a3⟩
          · refine Or.inl ⟨k, ?_, a2, a3, a4, a5⟩
            rcases Nat.eq_or_lt_of_le a1 with z | z
            · subst z; exact absurd a3 q
            · exact z
          · exact Or.inr ⟨by omega, a2, a3⟩
  refine key 0 (fun j hj => by omega) ?_
  rcases hv with ⟨k, a1, a2, a3, a4⟩ | ⟨a1, a2⟩
  · exact Or.inl ⟨k, Nat.zero_le _, a1, a2, a3, a4⟩
  · exact Or.inr ⟨Nat.zero_le _, a1, a2⟩
theorem m_rk1 {Q : Int32 → mI → mL → gm_cfg → Prop} {r k : Nat} (h : FM I) (hk : k < nv I 1) (hr : r < 2 ^ 20) (k1 : RK (nu I) (nv I 1) r k → Q (nI (nu I k)) I L c) (k2 : ¬ RK (nu I) (nv I 1) r k → Z_M_ranked g Q 2 [(0, .ref 59), (1, .int (nI r)), (2, .int (nI (k + 1)))] [] I L c) : Z_M_ranked g Q 20 [(0, .ref 59), (1, .int (nI r)), (2, .int (nI k)), (3, .int 0), (4, .int 0), (5, .int 0)] [] I L c := by
  have hG := gG h
  refine lp0 (P := fun i => Z_M_ranked g Q 20 [(0, .ref 59), (1, .int (nI r)), (2, .int (nI k)), (3, .int (nI (cl (nu I) (nu I k) i))), (4, .int (nI (ce (nu I) (nu I k) i))), (5, .int (nI i))] [] I L c) (nv I 1) ?_ ?_
  · have hle := cl_le (nu I) (nu I k) (nv I 1)
    refine r_M_ranked_20 (br_t (by rw [hG.1]; exact nI_le (Nat.le_refl _) (by omega)) ?_)
    rw [nI_1]
    refine br_c (fun z => k2 ?_) (fun z => br_c (fun z2 => k2 ?_) (fun z2 => m_numberOf h hk ?_))
    · have := nlt z (by omega) (by omega)
      intro q; unfold RK at q; omega
    · rw [nI_add] at z2
      have := nle z2 (by omega) (by omega)
      intro q; unfold RK at q; omega
    · rw [nI_add] at z2
      have q1 := nnlt z (by omega)
      have q2 := nnle z2 (by omega)
      exact k1 ⟨q1, q2⟩
  · intro i hi ih
    have hn := gNu h hi
    have hnk := gNu h hk
    have b1 : nu I i < 2 ^ 31 := by show nv I (69 + i) < _; omega
    have b2 : nu I k < 2 ^ 31 := by show nv I (69 + k) < _; omega
    refine r_M_ranked_20 (br_f (by rw [hG.1]; exact nI_ge hi (by omega)) (m_numberOf h hi (m_numberOf h hk ?_)))
    have e0 : ∀ x : Int32, x + 0 = x := fun x => Int32.add_zero x
    simp only [cl, ce] at ih
    refine br_c (fun z => m_numberOf h hi (m_numberOf h hk (br_c (fun z2 => ?_) (fun z2 => ?_)))) (fun z => m_numberOf h hi (m_numberOf h hk (br_c (fun z2 => ?_) (fun z2 => ?_))))
    · have q := neq (a := nu I i) (b := nu I k) z2 b1 b2
      rw [if_neg (by omega), if_pos q] at ih
      rw [e0, nI_1, nI_1]
      exact ih
    · have q1 := nle (a := nu I k) (b := nu I i) z b2 b1
      have q2 : ¬ nu I i = nu I k := fun e => z2 (by show nI (nu I i) = nI (nu I k); rw [e])
      rw [if_neg (by omega), if_neg q2] at ih
      rw [e0, e0, nI_1]
      exact ih
    · have q := neq (a := nu I i) (b := nu I k) z2 b1 b2
      have q1 := nnle (a := nu I k) (b := nu I i) z b1
      omega
    · have q := nnle (a := nu I k) (b := nu I i) z b1
      rw [if_pos q, if_neg (by omega)] at ih
      rw [e0, nI_1, nI_1]
      exact ih
theorem m_rank {Q : Int32 → mI → mL → gm_cfg → Prop} {v : Int32} {r : Nat} (h : FM I) (hr : r < 2 ^ 20) (hv : RQ (nu I) (nv I 1) r v) (hq : Q v I L c) : C_M_ranked g (nI r) I L c Q := by
  have hG := gG h
  refine e_M_ranked ?_
  have key : ∀ m, (∀ j, j < m → ¬ RK (nu I) (nv I 1) r j) → (∃ k, m ≤ k ∧ k < nv I 1 ∧ RK (nu I) (nv I 1) r k ∧ (∀ j, j < k → ¬ RK (nu I) (nv I 1) r j) ∧ v = nI (nu I k)) ∨ (m ≤ nv I 1 ∧ (∀ j, j < nv I 1 → ¬ RK (nu I) (nv I 1) r j) ∧ v = -1) → Z_M_ranked g Q 2 [(0, .ref 59), (1, .int (nI r)), (2, .int (nI m))] [] I L c := by
    intro m hm
    generalize hd : nv I 1 - m = d
    induction d generalizing m with
    | zero =>
      intro hh
      rcases hh with ⟨k, a1, a2, a3, a4, a5⟩ | ⟨a1, a2, a3⟩
      · omega
      · refine r_M_ranked_2 (br_t (by rw [hG.1]; exact nI_le (by omega) (by omega)) ?_)
        rw [← a3]; exact hq
    | succ d ih =>
      have e9 : nv I 1 - (m + 1) = d := by omega
      intro hh
      refine r_M_ranked_2 (br_f (by rw [hG.1]; exact nI_ge (by omega) (by omega)) (m_rk1 h (by omega) hr (fun q => ?_) (fun q => ?_)))
      · rcases hh with ⟨k, a1, a2, a3, a4, a5⟩ | ⟨a1, a2, a3⟩
        · have e : k = m := by
            rcases Nat.lt_or_ge m k with z | z
            · exact absurd q (a4 m z)
            · omega
          subst e
          rw [← a5]; exact hq
        · exact absurd q (a2 m (by omega))
      · refine ih (m + 1) (fun j hj => ?_) e9 ?_
        · rcases Nat.lt_or_ge j m with z | z
          · exact hm j z
          · have : j = m := by omega
            subst this; exact q
        · rcases hh with ⟨k, a1, a2, a3, a4, a5⟩ | ⟨a1, a2, a3⟩
          · refine Or.inl ⟨k, ?_, a2, a3, a4, a5⟩
            rcases Nat.eq_or_lt_of_le a1 with z | z
            · subst z; exact absurd a3 q
            · exact z
          · exact Or.inr ⟨by omega, a2, a3⟩
  refine key 0 (fun j hj => by omega) ?_
  rcases hv with ⟨k, a1, a2, a3, a4⟩ | ⟨a1, a2⟩
  · exact Or.inl ⟨k, Nat.zero_le _, a1, a2, a3, a4⟩
  · exact Or.inr ⟨Nat.zero_le _, a1, a2⟩
/-- the least and the greatest -/
def mi (f : Nat → Nat) : Nat → Nat
  | 0 => f 0
  | n + 1 => if f (n + 1) < mi f n then f (n + 1) else mi f n
def ma (f : Nat → Nat) : Nat → Nat
  | 0 => f 0
  | n + 1 => if ma f n < f (n + 1) then f (n + 1) else ma f n
end K
theorem mi_spec (f : Nat → Nat) : ∀ n, (∃ k, k ≤ n ∧ mi f n = f k) ∧ ∀ j, j ≤ n → mi f n ≤ f j
  | 0 => ⟨⟨0, by omega, rfl⟩, fun j hj => by have : j = 0 := by omega
                                             subst this; exact Nat.le_refl _⟩
  | n + 1 => by
    obtain ⟨⟨k, hk, e⟩, h2⟩ := mi_spec f n
    unfold mi
    split
    · rename_i q
      refine ⟨⟨n + 1, by omega, rfl⟩, fun j hj => ?_⟩
      rcases Nat.lt_or_ge j (n + 1) with z | z
      · have := h2 j (by omega); omega
      · have : j = n + 1 := by omega
        subst this; exact Nat.le_refl _
    · rename_i q
      refine ⟨⟨k, by omega, e⟩, fun j hj => ?_⟩
      rcases Nat.lt_or_ge j (n + 1) with z | z
      · exact h2 j (by omega)
      · have : j = n + 1 := by omega
        subst this; omega
theorem ma_spec (f : Nat → Nat) : ∀ n, (∃ k, k ≤ n ∧ ma f n = f k) ∧ ∀ j, j ≤ n → f j ≤ ma f n
  | 0 => ⟨⟨0, by omega, rfl⟩, fun j hj => by have : j = 0 := by omega
                                             subst this; exact Nat.le_refl _⟩
  | n + 1 => by
    obtain ⟨⟨k, hk, e⟩, h2⟩ := ma_spec f n
    unfold ma
    split
    · rename_i q
      refine ⟨⟨n + 1, by omega, rfl⟩, fun j hj => ?_⟩
      rcases Nat.lt_or_ge j (n + 1) with z | z
      · have := h2 j (by omega); omega
      · have : j = n + 1 := by omega
        subst this; exact Nat.le_refl _
    · rename_i q
      refine ⟨⟨k, by omega, e⟩, fun j hj => ?_⟩
      rcases Nat.lt_or_ge j (n + 1) with z | z
      · exact h2 j (by omega)
      · have : j = n + 1 := by omega
        subst this; omega
theorem RQ_least {f : Nat → Nat} {n : Nat} : RQ f (n + 1) 0 (nI (mi f n)) := by
  obtain ⟨⟨k, hk, e⟩, h2⟩ := mi_spec f n
  have key : ∀ j, j < n + 1 → (RK f (n + 1) 0 j ↔ f j = mi f n) := by
    intro j hj
    unfold RK
    constructor
    · intro ⟨q1, q2⟩
      have h3 := (cl_0 (n + 1)).mp (by omega : cl f (f j) (n + 1) = 0) k (by omega)
      have h4 := h2 j (by omega)
      omega
    · intro q
      have h3 : cl f (f j) (n + 1) = 0 := (cl_0 (n + 1)).mpr (fun i hi => by rw [q]; exact h2 i (by omega))
      have h4 := ce_pos (f := f) (n + 1) j hj rfl
      omega
  obtain ⟨k0, ⟨a1, a2⟩, a3⟩ := pk_least (fun i => i < n + 1 ∧ RK f (n + 1) 0 i) ⟨k, by omega, (key k (by omega)).mpr e.symm⟩
  exact Or.inl ⟨k0, a1, a2, fun j hj q => a3 j hj ⟨by omega, q⟩, by rw [(key k0 a1).mp a2]⟩
theorem RQ_most {f : Nat → Nat} {n : Nat} : RQ f (n + 1) n (nI (ma f n)) := by
  obtain ⟨⟨k, hk, e⟩, h2⟩ := ma_spec f n
  have key : ∀ j, j < n + 1 → (RK f (n + 1) n j ↔ f j = ma f n) := by
    intro j hj
    unfold RK
    have hle := cl_le f (f j) (n + 1)
    constructor
    · intro ⟨q1, q2⟩
      have h3 := (cl_full (f := f) (v := f j) (n + 1)).mp (by omega) k (by omega)
      have h4 := h2 j (by omega)
      omega
    · intro q
      have h3 : cl f (f j) (n + 1) + ce f (f j) (n + 1) = n + 1 := (cl_full (n + 1)).mpr (fun i hi => by rw [q]; exact h2 i (by omega))
      have h4 := ce_pos (f := f) (n + 1) j hj rfl
      omega
  obtain ⟨k0, ⟨a1, a2⟩, a3⟩ := pk_least (fun i => i < n + 1 ∧ RK f (n + 1) n i) ⟨k, by omega, (key k (by omega)).mpr e.symm⟩
  exact Or.inl ⟨k0, a1, a2, fun j hj q => a3 j hj ⟨by omega, q⟩, by rw [(key k0 a1).mp a2]⟩
