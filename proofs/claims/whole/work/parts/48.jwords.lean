/-! words and numbers, one at a time -/
theorem kd : ∀ i, i < 8 → ∀ j, j < 8 → i ≠ j → kl i = kl j → ∃ k, k < 7 ∧ k < kl i ∧ ¬ gm_ch i k = gm_ch j k := by decide
theorem kl_pos : ∀ i, i < 8 → 1 ≤ kl i ∧ kl i ≤ 7 := by decide
theorem kx_iff {F : Nat → Nat} {b e i : Nat} (hi : i < 8) : kx F b e 8 = i ↔ kw F b e i = true := by
  have u : ∀ j, j < 8 → kw F b e i = true → kw F b e j = true → i = j := by
    intro j hj h1 h2
    by_cases q : i = j
    · exact q
    · unfold kw at h1 h2
      rw [Bool.and_eq_true, decide_eq_true_iff, decide_eq_true_iff] at h1 h2
      obtain ⟨k, k1, k2, k3⟩ := kd i hi j hj q (by omega)
      exact absurd ((h1.2 k k2).symm.trans (h2.2 k (by omega))) k3
  have a : ∀ r, r ≤ 8 → (kx F b e r = i → kw F b e i = true) ∧ (kw F b e i = true → 7 - i < r → kx F b e r = i) := by
    intro r
    induction r with
    | zero => intro _; exact ⟨fun q => by have : (8 : Nat) = i := q; omega, fun _ q => by omega⟩
    | succ r ih =>
      intro hr
      obtain ⟨h1, h2⟩ := ih (by omega)
      have st : kx F b e (r + 1) = if kw F b e (7 - r) = true then 7 - r else kx F b e r := rfl
      rw [st]
      by_cases q : kw F b e (7 - r) = true
      · rw [if_pos q]
        exact ⟨fun z => by rw [← z]; exact q, fun z _ => (u (7 - r) (by omega) z q).symm⟩
      · rw [if_neg q]
        refine ⟨h1, fun z y => ?_⟩
        by_cases w : 7 - i < r
        · exact h2 z w
        · have : 7 - r = i := by omega
          rw [this] at q
          exact absurd z q
  exact ⟨(a 8 (Nat.le_refl _)).1, fun h => (a 8 (Nat.le_refl _)).2 h (by omega)⟩
/-- a word's bytes are letters, in the text -/
theorem xk_word {F : Nat → Nat} {n p : Nat} (h : xk F n p ≤ 8) : xb F n p < n ∧ xk F n p = kx F (xb F n p) (xe F n p) 8 ∧ xe F n p ≤ n ∧ xb F n p ≤ xe F n p ∧ ∀ k, xb F n p ≤ k → k < xe F n p → k < n ∧ 97 ≤ F k ∧ F k ≤ 122 := by
  rcases Nat.lt_or_ge (xb F n p) n with z | z
  · cases hL : isL (F (xb F n p)) with
    | true =>
      have ke : xe F n p = ru F n isL (xb F n p) := by unfold xe; rw [if_neg (by omega), if_pos hL]
      have kk : xk F n p = kx F (xb F n p) (xe F n p) 8 := by unfold xk; rw [if_neg (by omega), if_pos hL]
      obtain ⟨s1, s2, s3, s4⟩ := ru_spec F n isL (xb F n p)
      refine ⟨z, kk, by rw [ke]; exact s2 (by omega), by rw [ke]; exact s1, fun k k1 k2 => ?_⟩
      rw [ke] at k2
      obtain ⟨a1, a2⟩ := s3 k k1 k2
      simp [isL] at a2
      exact ⟨a1, a2⟩
    | false =>
      exfalso
      unfold xk at h
      rw [if_neg (by omega), if_neg (by rw [hL]; decide)] at h
      split at h
      · split at h <;> omega
      · split at h <;> omega
  · exfalso
    unfold xk at h
    rw [if_pos z] at h
    omega
theorem jc_0 {k : Nat} : jc k = 0 ↔ k ≤ 8 := by
  unfold jc
  split
  · exact ⟨fun _ => by omega, fun _ => rfl⟩
  · split
    · exact ⟨fun q => by omega, fun q => by omega⟩
    · split
      · exact ⟨fun q => by omega, fun q => by omega⟩
      · split
        · exact ⟨fun q => by omega, fun q => by omega⟩
        · exact ⟨fun q => by omega, fun q => by omega⟩
theorem jc_b (k : Nat) : jc k ≤ 4 := by
  unfold jc
  split
  · omega
  · split
    · omega
    · split
      · omega
      · split <;> omega
theorem xe_le {F : Nat → Nat} {n p : Nat} (hp : p ≤ n) : xe F n p ≤ n ∧ xb F n p ≤ xe F n p ∧ p ≤ xb F n p ∧ (xb F n p < n → xb F n p < xe F n p) := by
  obtain ⟨s1, s2, s3, s4⟩ := ru_spec F n isB p
  have s2' := s2 hp
  have eb : xb F n p = ru F n isB p := rfl
  rw [← eb] at s1 s2'
  unfold xe
  split
  · exact ⟨s2', Nat.le_refl _, s1, fun q => by omega⟩
  · rename_i z
    split
    · rename_i hL
      obtain ⟨a1, a2, a3, a4⟩ := ru_spec F n isL (xb F n p)
      refine ⟨a2 (by omega), a1, s1, fun q => ?_⟩
      rcases Nat.lt_or_ge (xb F n p) (ru F n isL (xb F n p)) with y | y
      · exact y
      · have : ru F n isL (xb F n p) = xb F n p := by omega
        rw [this] at a4
        exact absurd hL (a4 q)
    · split
      · rename_i hD
        obtain ⟨a1, a2, a3, a4⟩ := ru_spec F n isD (xb F n p)
        refine ⟨a2 (by omega), a1, s1, fun q => ?_⟩
        rcases Nat.lt_or_ge (xb F n p) (ru F n isD (xb F n p)) with y | y
        · exact y
        · have : ru F n isD (xb F n p) = xb F n p := by omega
          rw [this] at a4
          exact absurd hD (a4 q)
      · exact ⟨by omega, by omega, s1, fun _ => by omega⟩
section Jw
variable {g : gm_G} {I : mI} {L : mL} {w a : Option Nat}
theorem j_isW0 {Q : Bool → mI → mL → gm_cfg → Prop} {n p : Nat} {F : Nat → Nat} (e : TX I n F) (hp : p ≤ n) (h : NJ I n F p) (k1 : xk F n p = 0 → Q true I L (w, a, some 1)) (k2 : ¬ xk F n p = 0 → Q false I L (w, a, some 1)) : C_Rd_isWord_1000 g I L (w, a, some 1) Q := by
  obtain ⟨h4, h5, h6, h7⟩ := h
  have hn := e.1
  have hjb := jc_b (xk F n p)
  obtain ⟨l1, l2, l3, -⟩ := xe_le (F := F) hp
  refine e_Rd_isWord_1000 ?_
  rw [h4, h5, h6, pk_sub l2]
  refine pk_eq (jc (xk F n p)) 0 (fun z => ?_) (fun z => k2 (fun q => z (jc_0.mpr (by omega))))
  obtain ⟨b1, b2, b3, b4, b5⟩ := xk_word (jc_0.mp z)
  have iff := kx_iff (F := F) (b := xb F n p) (e := xe F n p) (i := 0) (by omega)
  rw [← b2] at iff
  have kwi : kw F (xb F n p) (xe F n p) 0 = true ↔ (xe F n p - xb F n p = 4 ∧ ∀ k, k < 4 → nI (F (xb F n p + k)) = gm_ch 0 k) := by
    unfold kw
    rw [Bool.and_eq_true, decide_eq_true_iff, decide_eq_true_iff]
    exact Iff.rfl
  refine pk_eq (xe F n p - xb F n p) 4 (fun z2 => ?_) (fun z2 => k2 (fun q => z2 (kwi.mp (iff.mp q)).1))
  obtain ⟨m, m1, m2, m3⟩ := SR_ex (fun k => ¬ nI (F (xb F n p + k)) = gm_ch 0 k) 4
  have m2' : ∀ k, k < m → nI (F (xb F n p + k)) = gm_ch 0 k := fun k hk => Classical.not_not.mp (m2 k hk)
  have jbk : ∀ k, k < 4 → jb (F (xb F n p + k)) = nI (F (xb F n p + k)) := fun k hk => by
    have := b5 (xb F n p + k) (by omega) (by omega)
    exact (jb_eq (by omega) (by omega)).mpr rfl
  refine lp0 (P := fun k => Z_Rd_isWord_1000 g Q 27 [(0, .ref 6), (1, .ref 1000), (2, .int (nI k))] [] I L (w, a, some 1)) m ?_ ?_
  · rcases Nat.lt_or_ge m 4 with q | q
    · refine r_Rd_isWord_1000_27 (br_f (nI_ge (b := 4) q (by omega)) ?_)
      rw [h5, nI_add]
      refine j_byte e (by have := b5 (xb F n p + m) (by omega) (by omega); omega) ⟨rfl, vp_in_nI q (by omega), ?_⟩
      rw [nI_clamp (by omega), jbk m q]
      exact br_f (m3 q) (k2 (fun u => m3 q ((kwi.mp (iff.mp u)).2 m q)))
    · exact r_Rd_isWord_1000_27 (br_t (nI_le (a := 4) (by omega) (by omega)) (k1 (iff.mpr (kwi.mpr ⟨z2, fun k hk => m2' k (by omega)⟩))))
  · intro k hk ih
    refine r_Rd_isWord_1000_27 (br_f (nI_ge (b := 4) (by omega) (by omega)) ?_)
    rw [h5, nI_add]
    refine j_byte e (by have := b5 (xb F n p + k) (by omega) (by omega); omega) ⟨rfl, vp_in_nI (by omega) (by omega), ?_⟩
    rw [nI_clamp (by omega), jbk k (by omega), nI_1]
    exact br_t (m2' k hk) ih
theorem j_takeW0 {Q : Bool → mI → mL → gm_cfg → Prop} {n p : Nat} {F : Nat → Nat} (e : TX I n F) (hp : p ≤ n) (h : NJ I n F p) (k1 : xk F n p = 0 → ∀ I', FR I I' → NJ I' n F (xe F n p) → Q true I' L (w, a, some 1)) (k2 : ¬ xk F n p = 0 → Q false I L (w, a, some 1)) : C_Rd_takeWord_1000 g I L (w, a, some 1) Q :=
  e_Rd_takeWord_1000 (j_isW0 e hp h (fun q => ⟨rfl, bt (j_nextTok e (xe_le hp).1 h.2.2.1 (fun I' f1 f2 => ⟨rfl, k1 q I' f1 f2⟩))⟩) (fun q => ⟨rfl, bf (k2 q)⟩))
theorem j_isW1 {Q : Bool → mI → mL → gm_cfg → Prop} {n p : Nat} {F : Nat → Nat} (e : TX I n F) (hp : p ≤ n) (h : NJ I n F p) (k1 : xk F n p = 1 → Q true I L (w, a, some 1)) (k2 : ¬ xk F n p = 1 → Q false I L (w, a, some 1)) : C_Rd_isWord_1001 g I L (w, a, some 1) Q := by
  obtain ⟨h4, h5, h6, h7⟩ := h
  have hn := e.1
  have hjb := jc_b (xk F n p)
  obtain ⟨l1, l2, l3, -⟩ := xe_le (F := F) hp
  refine e_Rd_isWord_1001 ?_
  rw [h4, h5, h6, pk_sub l2]
  refine pk_eq (jc (xk F n p)) 0 (fun z => ?_) (fun z => k2 (fun q => z (jc_0.mpr (by omega))))
  obtain ⟨b1, b2, b3, b4, b5⟩ := xk_word (jc_0.mp z)
  have iff := kx_iff (F := F) (b := xb F n p) (e := xe F n p) (i := 1) (by omega)
  rw [← b2] at iff
  have kwi : kw F (xb F n p) (xe F n p) 1 = true ↔ (xe F n p - xb F n p = 5 ∧ ∀ k, k < 5 → nI (F (xb F n p + k)) = gm_ch 1 k) := by
    unfold kw
    rw [Bool.and_eq_true, decide_eq_true_iff, decide_eq_true_iff]
    exact Iff.rfl
  refine pk_eq (xe F n p - xb F n p) 5 (fun z2 => ?_) (fun z2 => k2 (fun q => z2 (kwi.mp (iff.mp q)).1))
  obtain ⟨m, m1, m2, m3⟩ := SR_ex (fun k => ¬ nI (F (xb F n p + k)) = gm_ch 1 k) 5
  have m2' : ∀ k, k < m → nI (F (xb F n p + k)) = gm_ch 1 k := fun k hk => Classical.not_not.mp (m2 k hk)
  have jbk : ∀ k, k < 5 → jb (F (xb F n p + k)) = nI (F (xb F n p + k)) := fun k hk => by
    have := b5 (xb F n p + k) (by omega) (by omega)
    exact (jb_eq (by omega) (by omega)).mpr rfl
  refine lp0 (P := fun k => Z_Rd_isWord_1001 g Q 27 [(0, .ref 6), (1, .ref 1001), (2, .int (nI k))] [] I L (w, a, some 1)) m ?_ ?_
  · rcases Nat.lt_or_ge m 5 with q | q
    · refine r_Rd_isWord_1001_27 (br_f (nI_ge (b := 5) q (by omega)) ?_)
      rw [h5, nI_add]
      refine j_byte e (by have := b5 (xb F n p + m) (by omega) (by omega); omega) ⟨rfl, vp_in_nI q (by omega), ?_⟩
      rw [nI_clamp (by omega), jbk m q]
      exact br_f (m3 q) (k2 (fun u => m3 q ((kwi.mp (iff.mp u)).2 m q)))
    · exact r_Rd_isWord_1001_27 (br_t (nI_le (a := 5) (by omega) (by omega)) (k1 (iff.mpr (kwi.mpr ⟨z2, fun k hk => m2' k (by omega)⟩))))
  · intro k hk ih
    refine r_Rd_isWord_1001_27 (br_f (nI_ge (b := 5) (by omega) (by omega)) ?_)
    rw [h5, nI_add]
    refine j_byte e (by have := b5 (xb F n p + k) (by omega) (by omega); omega) ⟨rfl, vp_in_nI (by omega) (by omega), ?_⟩
    rw [nI_clamp (by omega), jbk k (by omega), nI_1]
    exact br_t (m2' k hk) ih
theorem j_takeW1 {Q : Bool → mI → mL → gm_cfg → Prop} {n p : Nat} {F : Nat → Nat} (e : TX I n F) (hp : p ≤ n) (h : NJ I n F p) (k1 : xk F n p = 1 → ∀ I', FR I I' → NJ I' n F (xe F n p) → Q true I' L (w, a, some 1)) (k2 : ¬ xk F n p = 1 → Q false I L (w, a, some 1)) : C_Rd_takeWord_1001 g I L (w, a, some 1) Q :=
  e_Rd_takeWord_1001 (j_isW1 e hp h (fun q => ⟨rfl, bt (j_nextTok e (xe_le hp).1 h.2.2.1 (fun I' f1 f2 => ⟨rfl, k1 q I' f1 f2⟩))⟩) (fun q => ⟨rfl, bf (k2 q)⟩))
theorem j_isW2 {Q : Bool → mI → mL → gm_cfg → Prop} {n p : Nat} {F : Nat → Nat} (e : TX I n F) (hp : p ≤ n) (h : NJ I n F p) (k1 : xk F n p = 2 → Q true I L (w, a, some 1)) (k2 : ¬ xk F n p = 2 → Q false I L (w, a, some 1)) : C_Rd_isWord_1002 g I L (w, a, some 1) Q := by
  obtain ⟨h4, h5, h6, h7⟩ := h
  have hn := e.1
  have hjb := jc_b (xk F n p)
  obtain ⟨l1, l2, l3, -⟩ := xe_le (F := F) hp
  refine e_Rd_isWord_1002 ?_
  rw [h4, h5, h6, pk_sub l2]
  refine pk_eq (jc (xk F n p)) 0 (fun z => ?_) (fun z => k2 (fun q => z (jc_0.mpr (by omega))))
  obtain ⟨b1, b2, b3, b4, b5⟩ := xk_word (jc_0.mp z)
  have iff := kx_iff (F := F) (b := xb F n p) (e := xe F n p) (i := 2) (by omega)
  rw [← b2] at iff
  have kwi : kw F (xb F n p) (xe F n p) 2 = true ↔ (xe F n p - xb F n p = 7 ∧ ∀ k, k < 7 → nI (F (xb F n p + k)) = gm_ch 2 k) := by
    unfold kw
    rw [Bool.and_eq_true, decide_eq_true_iff, decide_eq_true_iff]
    exact Iff.rfl
  refine pk_eq (xe F n p - xb F n p) 7 (fun z2 => ?_) (fun z2 => k2 (fun q => z2 (kwi.mp (iff.mp q)).1))
  obtain ⟨m, m1, m2, m3⟩ := SR_ex (fun k => ¬ nI (F (xb F n p + k)) = gm_ch 2 k) 7
  have m2' : ∀ k, k < m → nI (F (xb F n p + k)) = gm_ch 2 k := fun k hk => Classical.not_not.mp (m2 k hk)
  have jbk : ∀ k, k < 7 → jb (F (xb F n p + k)) = nI (F (xb F n p + k)) := fun k hk => by
    have := b5 (xb F n p + k) (by omega) (by omega)
    exact (jb_eq (by omega) (by omega)).mpr rfl
  refine lp0 (P := fun k => Z_Rd_isWord_1002 g Q 27 [(0, .ref 6), (1, .ref 1002), (2, .int (nI k))] [] I L (w, a, some 1)) m ?_ ?_
  · rcases Nat.lt_or_ge m 7 with q | q
    · refine r_Rd_isWord_1002_27 (br_f (nI_ge (b := 7) q (by omega)) ?_)
      rw [h5, nI_add]
      refine j_byte e (by have := b5 (xb F n p + m) (by omega) (by omega); omega) ⟨rfl, vp_in_nI q (by omega), ?_⟩
      rw [nI_clamp (by omega), jbk m q]
      exact br_f (m3 q) (k2 (fun u => m3 q ((kwi.mp (iff.mp u)).2 m q)))
    · exact r_Rd_isWord_1002_27 (br_t (nI_le (a := 7) (by omega) (by omega)) (k1 (iff.mpr (kwi.mpr ⟨z2, fun k hk => m2' k (by omega)⟩))))
  · intro k hk ih
    refine r_Rd_isWord_1002_27 (br_f (nI_ge (b := 7) (by omega) (by omega)) ?_)
    rw [h5, nI_add]
    refine j_byte e (by have := b5 (xb F n p + k) (by omega) (by omega); omega) ⟨rfl, vp_in_nI (by omega) (by omega), ?_⟩
    rw [nI_clamp (by omega), jbk k (by omega), nI_1]
    exact br_t (m2' k hk) ih
theorem j_isW3 {Q : Bool → mI → mL → gm_cfg → Prop} {n p : Nat} {F : Nat → Nat} (e : TX I n F) (hp : p ≤ n) (h : NJ I n F p) (k1 : xk F n p = 3 → Q true I L (w, a, some 1)) (k2 : ¬ xk F n p = 3 → Q false I L (w, a, some 1)) : C_Rd_isWord_1003 g I L (w, a, some 1) Q := by
  obtain ⟨h4, h5, h6, h7⟩ := h
  have hn := e.1
  have hjb := jc_b (xk F n p)
  obtain ⟨l1, l2, l3, -⟩ := xe_le (F := F) hp
  refine e_Rd_isWord_1003 ?_
  rw [h4, h5, h6, pk_sub l2]
  refine pk_eq (jc (xk F n p)) 0 (fun z => ?_) (fun z => k2 (fun q => z (jc_0.mpr (by omega))))
  obtain ⟨b1, b2, b3, b4, b5⟩ := xk_word (jc_0.mp z)
  have iff := kx_iff (F := F) (b := xb F n p) (e := xe F n p) (i := 3) (by omega)
  rw [← b2] at iff
  have kwi : kw F (xb F n p) (xe F n p) 3 = true ↔ (xe F n p - xb F n p = 4 ∧ ∀ k, k < 4 → nI (F (xb F n p + k)) = gm_ch 3 k) := by
    unfold kw
    rw [Bool.and_eq_true, decide_eq_true_iff, decide_eq_true_iff]
    exact Iff.rfl
  refine pk_eq (xe F n p - xb F n p) 4 (fun z2 => ?_) (fun z2 => k2 (fun q => z2 (kwi.mp (iff.mp q)).1))
  obtain ⟨m, m1, m2, m3⟩ := SR_ex (fun k => ¬ nI (F (xb F n p + k)) = gm_ch 3 k) 4
  have m2' : ∀ k, k < m → nI (F (xb F n p + k)) = gm_ch 3 k := fun k hk => Classical.not_not.mp (m2 k hk)
  have jbk : ∀ k, k < 4 → jb (F (xb F n p + k)) = nI (F (xb F n p + k)) := fun k hk => by
    have := b5 (xb F n p + k) (by omega) (by omega)
    exact (jb_eq (by omega) (by omega)).mpr rfl
  refine lp0 (P := fun k => Z_Rd_isWord_1003 g Q 27 [(0, .ref 6), (1, .ref 1003), (2, .int (nI k))] [] I L (w, a, some 1)) m ?_ ?_
  · rcases Nat.lt_or_ge m 4 with q | q
    · refine r_Rd_isWord_1003_27 (br_f (nI_ge (b := 4) q (by omega)) ?_)
      rw [h5, nI_add]
      refine j_byte e (by have := b5 (xb F n p + m) (by omega) (by omega); omega) ⟨rfl, vp_in_nI q (by omega), ?_⟩
      rw [nI_clamp (by omega), jbk m q]
      exact br_f (m3 q) (k2 (fun u => m3 q ((kwi.mp (iff.mp u)).2 m q)))
    · exact r_Rd_isWord_1003_27 (br_t (nI_le (a := 4) (by omega) (by omega)) (k1 (iff.mpr (kwi.mpr ⟨z2, fun k hk => m2' k (by omega)⟩))))
  · intro k hk ih
    refine r_Rd_isWord_1003_27 (br_f (nI_ge (b := 4) (by omega) (by omega)) ?_)
    rw [h5, nI_add]
    refine j_byte e (by have := b5 (xb F n p + k) (by omega) (by omega); omega) ⟨rfl, vp_in_nI (by omega) (by omega), ?_⟩
    rw [nI_clamp (by omega), jbk k (by omega), nI_1]
    exact br_t (m2' k hk) ih
theorem j_takeW3 {Q : Bool → mI → mL → gm_cfg → Prop} {n p : Nat} {F : Nat → Nat} (e : TX I n F) (hp : p ≤ n) (h : NJ I n F p) (k1 : xk F n p = 3 → ∀ I', FR I I' → NJ I' n F (xe F n p) → Q true I' L (w, a, some 1)) (k2 : ¬ xk F n p = 3 → Q false I L (w, a, some 1)) : C_Rd_takeWord_1003 g I L (w, a, some 1) Q :=
  e_Rd_takeWord_1003 (j_isW3 e hp h (fun q => ⟨rfl, bt (j_nextTok e (xe_le hp).1 h.2.2.1 (fun I' f1 f2 => ⟨rfl, k1 q I' f1 f2⟩))⟩) (fun q => ⟨rfl, bf (k2 q)⟩))
theorem j_isW4 {Q : Bool → mI → mL → gm_cfg → Prop} {n p : Nat} {F : Nat → Nat} (e : TX I n F) (hp : p ≤ n) (h : NJ I n F p) (k1 : xk F n p = 4 → Q true I L (w, a, some 1)) (k2 : ¬ xk F n p = 4 → Q false I L (w, a, some 1)) : C_Rd_isWord_1004 g I L (w, a, some 1) Q := by
  obtain ⟨h4, h5, h6, h7⟩ := h
  have hn := e.1
  have hjb := jc_b (xk F n p)
  obtain ⟨l1, l2, l3, -⟩ := xe_le (F := F) hp
  refine e_Rd_isWord_1004 ?_
  rw [h4, h5, h6, pk_sub l2]
  refine pk_eq (jc (xk F n p)) 0 (fun z => ?_) (fun z => k2 (fun q => z (jc_0.mpr (by omega))))
  obtain ⟨b1, b2, b3, b4, b5⟩ := xk_word (jc_0.mp z)
  have iff := kx_iff (F := F) (b := xb F n p) (e := xe F n p) (i := 4) (by omega)
  rw [← b2] at iff
  have kwi : kw F (xb F n p) (xe F n p) 4 = true ↔ (xe F n p - xb F n p = 6 ∧ ∀ k, k < 6 → nI (F (xb F n p + k)) = gm_ch 4 k) := by
    unfold kw
    rw [Bool.and_eq_true, decide_eq_true_iff, decide_eq_true_iff]
    exact Iff.rfl
  refine pk_eq (xe F n p - xb F n p) 6 (fun z2 => ?_) (fun z2 => k2 (fun q => z2 (kwi.mp (iff.mp q)).1))
  obtain ⟨m, m1, m2, m3⟩ := SR_ex (fun k => ¬ nI (F (xb F n p + k)) = gm_ch 4 k) 6
  have m2' : ∀ k, k < m → nI (F (xb F n p + k)) = gm_ch 4 k := fun k hk => Classical.not_not.mp (m2 k hk)
  have jbk : ∀ k, k < 6 → jb (F (xb F n p + k)) = nI (F (xb F n p + k)) := fun k hk => by
    have := b5 (xb F n p + k) (by omega) (by omega)
    exact (jb_eq (by omega) (by omega)).mpr rfl
  refine lp0 (P := fun k => Z_Rd_isWord_1004 g Q 27 [(0, .ref 6), (1, .ref 1004), (2, .int (nI k))] [] I L (w, a, some 1)) m ?_ ?_
  · rcases Nat.lt_or_ge m 6 with q | q
    · refine r_Rd_isWord_1004_27 (br_f (nI_ge (b := 6) q (by omega)) ?_)
      rw [h5, nI_add]
      refine j_byte e (by have := b5 (xb F n p + m) (by omega) (by omega); omega) ⟨rfl, vp_in_nI q (by omega), ?_⟩
      rw [nI_clamp (by omega), jbk m q]
      exact br_f (m3 q) (k2 (fun u => m3 q ((kwi.mp (iff.mp u)).2 m q)))
    · exact r_Rd_isWord_1004_27 (br_t (nI_le (a := 6) (by omega) (by omega)) (k1 (iff.mpr (kwi.mpr ⟨z2, fun k hk => m2' k (by omega)⟩))))
  · intro k hk ih
    refine r_Rd_isWord_1004_27 (br_f (nI_ge (b := 6) (by omega) (by omega)) ?_)
    rw [h5, nI_add]
    refine j_byte e (by have := b5 (xb F n p + k) (by omega) (by omega); omega) ⟨rfl, vp_in_nI (by omega) (by omega), ?_⟩
    rw [nI_clamp (by omega), jbk k (by omega), nI_1]
    exact br_t (m2' k hk) ih
theorem j_takeW4 {Q : Bool → mI → mL → gm_cfg → Prop} {n p : Nat} {F : Nat → Nat} (e : TX I n F) (hp : p ≤ n) (h : NJ I n F p) (k1 : xk F n p = 4 → ∀ I', FR I I' → NJ I' n F (xe F n p) → Q true I' L (w, a, some 1)) (k2 : ¬ xk F n p = 4 → Q false I L (w, a, some 1)) : C_Rd_takeWord_1004 g I L (w, a, some 1) Q :=
  e_Rd_takeWord_1004 (j_isW4 e hp h (fun q => ⟨rfl, bt (j_nextTok e (xe_le hp).1 h.2.2.1 (fun I' f1 f2 => ⟨rfl, k1 q I' f1 f2⟩))⟩) (fun q => ⟨rfl, bf (k2 q)⟩))
theorem j_isW5 {Q : Bool → mI → mL → gm_cfg → Prop} {n p : Nat} {F : Nat → Nat} (e : TX I n F) (hp : p ≤ n) (h : NJ I n F p) (k1 : xk F n p = 5 → Q true I L (w, a, some 1)) (k2 : ¬ xk F n p = 5 → Q false I L (w, a, some 1)) : C_Rd_isWord_1005 g I L (w, a, some 1) Q := by
  obtain ⟨h4, h5, h6, h7⟩ := h
  have hn := e.1
  have hjb := jc_b (xk F n p)
  obtain ⟨l1, l2, l3, -⟩ := xe_le (F := F) hp
  refine e_Rd_isWord_1005 ?_
  rw [h4, h5, h6, pk_sub l2]
  refine pk_eq (jc (xk F n p)) 0 (fun z => ?_) (fun z => k2 (fun q => z (jc_0.mpr (by omega))))
  obtain ⟨b1, b2, b3, b4, b5⟩ := xk_word (jc_0.mp z)
  have iff := kx_iff (F := F) (b := xb F n p) (e := xe F n p) (i := 5) (by omega)
  rw [← b2] at iff
  have kwi : kw F (xb F n p) (xe F n p) 5 = true ↔ (xe F n p - xb F n p = 5 ∧ ∀ k, k < 5 → nI (F (xb F n p + k)) = gm_ch 5 k) := by
    unfold kw
    rw [Bool.and_eq_true, decide_eq_true_iff, decide_eq_true_iff]
    exact Iff.rfl
  refine pk_eq (xe F n p - xb F n p) 5 (fun z2 => ?_) (fun z2 => k2 (fun q => z2 (kwi.mp (iff.mp q)).1))
  obtain ⟨m, m1, m2, m3⟩ := SR_ex (fun k => ¬ nI (F (xb F n p + k)) = gm_ch 5 k) 5
  have m2' : ∀ k, k < m → nI (F (xb F n p + k)) = gm_ch 5 k := fun k hk => Classical.not_not.mp (m2 k hk)
  have jbk : ∀ k, k < 5 → jb (F (xb F n p + k)) = nI (F (xb F n p + k)) := fun k hk => by
    have := b5 (xb F n p + k) (by omega) (by omega)
    exact (jb_eq (by omega) (by omega)).mpr rfl
  refine lp0 (P := fun k => Z_Rd_isWord_1005 g Q 27 [(0, .ref 6), (1, .ref 1005), (2, .int (nI k))] [] I L (w, a, some 1)) m ?_ ?_
  · rcases Nat.lt_or_ge m 5 with q | q
    · refine r_Rd_isWord_1005_27 (br_f (nI_ge (b := 5) q (by omega)) ?_)
      rw [h5, nI_add]
      refine j_byte e (by have := b5 (xb F n p + m) (by omega) (by omega); omega) ⟨rfl, vp_in_nI q (by omega), ?_⟩
      rw [nI_clamp (by omega), jbk m q]
      exact br_f (m3 q) (k2 (fun u => m3 q ((kwi.mp (iff.mp u)).2 m q)))
    · exact r_Rd_isWord_1005_27 (br_t (nI_le (a := 5) (by omega) (by omega)) (k1 (iff.mpr (kwi.mpr ⟨z2, fun k hk => m2' k (by omega)⟩))))
  · intro k hk ih
    refine r_Rd_isWord_1005_27 (br_f (nI_ge (b := 5) (by omega) (by omega)) ?_)
    rw [h5, nI_add]
    refine j_byte e (by have := b5 (xb F n p + k) (by omega) (by omega); omega) ⟨rfl, vp_in_nI (by omega) (by omega), ?_⟩
    rw [nI_clamp (by omega), jbk k (by omega), nI_1]
    exact br_t (m2' k hk) ih
theorem j_takeW5 {Q : Bool → mI → mL → gm_cfg → Prop} {n p : Nat} {F : Nat → Nat} (e : TX I n F) (hp : p ≤ n) (h : NJ I n F p) (k1 : xk F n p = 5 → ∀ I', FR I I' → NJ I' n F (xe F n p) → Q true I' L (w, a, some 1)) (k2 : ¬ xk F n p = 5 → Q false I L (w, a, some 1)) : C_Rd_takeWord_1005 g I L (w, a, some 1) Q :=
  e_Rd_takeWord_1005 (j_isW5 e hp h (fun q => ⟨rfl, bt (j_nextTok e (xe_le hp).1 h.2.2.1 (fun I' f1 f2 => ⟨rfl, k1 q I' f1 f2⟩))⟩) (fun q => ⟨rfl, bf (k2 q)⟩))
theorem j_isW6 {Q : Bool → mI → mL → gm_cfg → Prop} {n p : Nat} {F : Nat → Nat} (e : TX I n F) (hp : p ≤ n) (h : NJ I n F p) (k1 : xk F n p = 6 → Q true I L (w, a, some 1)) (k2 : ¬ xk F n p = 6 → Q false I L (w, a, some 1)) : C_Rd_isWord_1006 g I L (w, a, some 1) Q := by
  obtain ⟨h4, h5, h6, h7⟩ := h
  have hn := e.1
  have hjb := jc_b (xk F n p)
  obtain ⟨l1, l2, l3, -⟩ := xe_le (F := F) hp
  refine e_Rd_isWord_1006 ?_
  rw [h4, h5, h6, pk_sub l2]
  refine pk_eq (jc (xk F n p)) 0 (fun z => ?_) (fun z => k2 (fun q => z (jc_0.mpr (by omega))))
  obtain ⟨b1, b2, b3, b4, b5⟩ := xk_word (jc_0.mp z)
  have iff := kx_iff (F := F) (b := xb F n p) (e := xe F n p) (i := 6) (by omega)
  rw [← b2] at iff
  have kwi : kw F (xb F n p) (xe F n p) 6 = true ↔ (xe F n p - xb F n p = 5 ∧ ∀ k, k < 5 → nI (F (xb F n p + k)) = gm_ch 6 k) := by
    unfold kw
    rw [Bool.and_eq_true, decide_eq_true_iff, decide_eq_true_iff]
    exact Iff.rfl
  refine pk_eq (xe F n p - xb F n p) 5 (fun z2 => ?_) (fun z2 => k2 (fun q => z2 (kwi.mp (iff.mp q)).1))
  obtain ⟨m, m1, m2, m3⟩ := SR_ex (fun k => ¬ nI (F (xb F n p + k)) = gm_ch 6 k) 5
  have m2' : ∀ k, k < m → nI (F (xb F n p + k)) = gm_ch 6 k := fun k hk => Classical.not_not.mp (m2 k hk)
  have jbk : ∀ k, k < 5 → jb (F (xb F n p + k)) = nI (F (xb F n p + k)) := fun k hk => by
    have := b5 (xb F n p + k) (by omega) (by omega)
    exact (jb_eq (by omega) (by omega)).mpr rfl
  refine lp0 (P := fun k => Z_Rd_isWord_1006 g Q 27 [(0, .ref 6), (1, .ref 1006), (2, .int (nI k))] [] I L (w, a, some 1)) m ?_ ?_
  · rcases Nat.lt_or_ge m 5 with q | q
    · refine r_Rd_isWord_1006_27 (br_f (nI_ge (b := 5) q (by omega)) ?_)
      rw [h5, nI_add]
      refine j_byte e (by have := b5 (xb F n p + m) (by omega) (by omega); omega) ⟨rfl, vp_in_nI q (by omega), ?_⟩
      rw [nI_clamp (by omega), jbk m q]
      exact br_f (m3 q) (k2 (fun u => m3 q ((kwi.mp (iff.mp u)).2 m q)))
    · exact r_Rd_isWord_1006_27 (br_t (nI_le (a := 5) (by omega) (by omega)) (k1 (iff.mpr (kwi.mpr ⟨z2, fun k hk => m2' k (by omega)⟩))))
  · intro k hk ih
    refine r_Rd_isWord_1006_27 (br_f (nI_ge (b := 5) (by omega) (by omega)) ?_)
    rw [h5, nI_add]
    refine j_byte e (by have := b5 (xb F n p + k) (by omega) (by omega); omega) ⟨rfl, vp_in_nI (by omega) (by omega), ?_⟩
    rw [nI_clamp (by omega), jbk k (by omega), nI_1]
    exact br_t (m2' k hk) ih
theorem j_takeW6 {Q : Bool → mI → mL → gm_cfg → Prop} {n p : Nat} {F : Nat → Nat} (e : TX I n F) (hp : p ≤ n) (h : NJ I n F p) (k1 : xk F n p = 6 → ∀ I', FR I I' → NJ I' n F (xe F n p) → Q true I' L (w, a, some 1)) (k2 : ¬ xk F n p = 6 → Q false I L (w, a, some 1)) : C_Rd_takeWord_1006 g I L (w, a, some 1) Q :=
  e_Rd_takeWord_1006 (j_isW6 e hp h (fun q => ⟨rfl, bt (j_nextTok e (xe_le hp).1 h.2.2.1 (fun I' f1 f2 => ⟨rfl, k1 q I' f1 f2⟩))⟩) (fun q => ⟨rfl, bf (k2 q)⟩))
theorem j_isW7 {Q : Bool → mI → mL → gm_cfg → Prop} {n p : Nat} {F : Nat → Nat} (e : TX I n F) (hp : p ≤ n) (h : NJ I n F p) (k1 : xk F n p = 7 → Q true I L (w, a, some 1)) (k2 : ¬ xk F n p = 7 → Q false I L (w, a, some 1)) : C_Rd_isWord_1007 g I L (w, a, some 1) Q := by
  obtain ⟨h4, h5, h6, h7⟩ := h
  have hn := e.1
  have hjb := jc_b (xk F n p)
  obtain ⟨l1, l2, l3, -⟩ := xe_le (F := F) hp
  refine e_Rd_isWord_1007 ?_
  rw [h4, h5, h6, pk_sub l2]
  refine pk_eq (jc (xk F n p)) 0 (fun z => ?_) (fun z => k2 (fun q => z (jc_0.mpr (by omega))))
  obtain ⟨b1, b2, b3, b4, b5⟩ := xk_word (jc_0.mp z)
  have iff := kx_iff (F := F) (b := xb F n p) (e := xe F n p) (i := 7) (by omega)
  rw [← b2] at iff
  have kwi : kw F (xb F n p) (xe F n p) 7 = true ↔ (xe F n p - xb F n p = 3 ∧ ∀ k, k < 3 → nI (F (xb F n p + k)) = gm_ch 7 k) := by
    unfold kw
    rw [Bool.and_eq_true, decide_eq_true_iff, decide_eq_true_iff]
    exact Iff.rfl
  refine pk_eq (xe F n p - xb F n p) 3 (fun z2 => ?_) (fun z2 => k2 (fun q => z2 (kwi.mp (iff.mp q)).1))
  obtain ⟨m, m1, m2, m3⟩ := SR_ex (fun k => ¬ nI (F (xb F n p + k)) = gm_ch 7 k) 3
  have m2' : ∀ k, k < m → nI (F (xb F n p + k)) = gm_ch 7 k := fun k hk => Classical.not_not.mp (m2 k hk)
  have jbk : ∀ k, k < 3 → jb (F (xb F n p + k)) = nI (F (xb F n p + k)) := fun k hk => by
    have := b5 (xb F n p + k) (by omega) (by omega)
    exact (jb_eq (by omega) (by omega)).mpr rfl
  refine lp0 (P := fun k => Z_Rd_isWord_1007 g Q 27 [(0, .ref 6), (1, .ref 1007), (2, .int (nI k))] [] I L (w, a, some 1)) m ?_ ?_
  · rcases Nat.lt_or_ge m 3 with q | q
    · refine r_Rd_isWord_1007_27 (br_f (nI_ge (b := 3) q (by omega)) ?_)
      rw [h5, nI_add]
      refine j_byte e (by have := b5 (xb F n p + m) (by omega) (by omega); omega) ⟨rfl, vp_in_nI q (by omega), ?_⟩
      rw [nI_clamp (by omega), jbk m q]
      exact br_f (m3 q) (k2 (fun u => m3 q ((kwi.mp (iff.mp u)).2 m q)))
    · exact r_Rd_isWord_1007_27 (br_t (nI_le (a := 3) (by omega) (by omega)) (k1 (iff.mpr (kwi.mpr ⟨z2, fun k hk => m2' k (by omega)⟩))))
  · intro k hk ih
    refine r_Rd_isWord_1007_27 (br_f (nI_ge (b := 3) (by omega) (by omega)) ?_)
    rw [h5, nI_add]
    refine j_byte e (by have := b5 (xb F n p + k) (by omega) (by omega); omega) ⟨rfl, vp_in_nI (by omega) (by omega), ?_⟩
    rw [nI_clamp (by omega), jbk k (by omega), nI_1]
    exact br_t (m2' k hk) ih
theorem j_takeW7 {Q : Bool → mI → mL → gm_cfg → Prop} {n p : Nat} {F : Nat → Nat} (e : TX I n F) (hp : p ≤ n) (h : NJ I n F p) (k1 : xk F n p = 7 → ∀ I', FR I I' → NJ I' n F (xe F n p) → Q true I' L (w, a, some 1)) (k2 : ¬ xk F n p = 7 → Q false I L (w, a, some 1)) : C_Rd_takeWord_1007 g I L (w, a, some 1) Q :=
  e_Rd_takeWord_1007 (j_isW7 e hp h (fun q => ⟨rfl, bt (j_nextTok e (xe_le hp).1 h.2.2.1 (fun I' f1 f2 => ⟨rfl, k1 q I' f1 f2⟩))⟩) (fun q => ⟨rfl, bf (k2 q)⟩))
end Jw
