/-! a row that a text may tell -/
def VD (D : Nat → Int32) : Prop := (∃ m : Nat, m ≤ 6 ∧ D 0 = nI m ∧ ∀ j, j < m → (∃ a : Nat, 1 ≤ a ∧ a ≤ 200 ∧ D (11 + j) = nI a) ∧ (∃ a : Nat, a ≤ 20 ∧ D (17 + j) = nI a) ∧ (∃ a : Nat, a ≤ 10 ∧ D (23 + j) = nI a)) ∧ D 1 = 0 ∧ (∃ a b : Nat, 1 ≤ a ∧ a ≤ 999 ∧ a ≤ b ∧ b ≤ a + 199 ∧ D 2 = nI a ∧ D 3 = nI b) ∧ (∃ a : Nat, a ≤ 99 ∧ D 4 = nI a) ∧ (∃ a : Nat, a ≤ 9999 ∧ D 5 = nI a) ∧ (∃ a : Nat, a ≤ 999 ∧ D 6 = nI a) ∧ (∃ a : Nat, a ≤ 1 ∧ D 7 = nI a) ∧ (D 10 = -1 ∨ ∃ a b : Nat, a ≤ 999 ∧ b ≤ 8 ∧ D 9 = nI a ∧ D 10 = nI b)
theorem VD_1 {D : Nat → Int32} {k : Nat} {v : Int32} (h : VD D) (hv : (k = 4 ∧ ∃ a : Nat, a ≤ 99 ∧ v = nI a) ∨ (k = 5 ∧ ∃ a : Nat, a ≤ 9999 ∧ v = nI a) ∨ (k = 6 ∧ ∃ a : Nat, a ≤ 999 ∧ v = nI a) ∨ (k = 7 ∧ ∃ a : Nat, a ≤ 1 ∧ v = nI a) ∨ k = 8) : VD (us D k v) := by
  obtain ⟨⟨m, h6, h0, hj⟩, h1, ⟨a, b, ha⟩, p4, p5, p6, p7, p10⟩ := h
  have hk : 4 ≤ k ∧ k ≤ 8 := by omega
  have U : ∀ j, j ≠ k → us D k v j = D j := fun j q => us_ne q
  have U' : us D k v k = v := us_eq
  refine ⟨⟨m, h6, by rw [U 0 (by omega)]; exact h0, fun j q => by rw [U (11 + j) (by omega), U (17 + j) (by omega), U (23 + j) (by omega)]; exact hj j q⟩, by rw [U 1 (by omega)]; exact h1, ⟨a, b, by rw [U 2 (by omega), U 3 (by omega)]; exact ha⟩, ?_, ?_, ?_, ?_, by rw [U 9 (by omega), U 10 (by omega)]; exact p10⟩
  · rcases hv with ⟨rfl, x⟩ | ⟨rfl, x⟩ | ⟨rfl, x⟩ | ⟨rfl, x⟩ | rfl
    · rw [U']; exact x
    all_goals (rw [U 4 (by omega)]; exact p4)
  · rcases hv with ⟨rfl, x⟩ | ⟨rfl, x⟩ | ⟨rfl, x⟩ | ⟨rfl, x⟩ | rfl
    rotate_left
    · rw [U']; exact x
    all_goals (rw [U 5 (by omega)]; exact p5)
  · rcases hv with ⟨rfl, x⟩ | ⟨rfl, x⟩ | ⟨rfl, x⟩ | ⟨rfl, x⟩ | rfl
    rotate_left 2
    · rw [U']; exact x
    all_goals (rw [U 6 (by omega)]; exact p6)
  · rcases hv with ⟨rfl, x⟩ | ⟨rfl, x⟩ | ⟨rfl, x⟩ | ⟨rfl, x⟩ | rfl
    rotate_left 3
    · rw [U']; exact x
    all_goals (rw [U 7 (by omega)]; exact p7)
theorem VD_2 {D : Nat → Int32} {v v2 : Nat} (h : VD D) (a1 : 1 ≤ v) (a2 : v ≤ 999) (a3 : v ≤ v2) (a4 : v2 ≤ v + 199) : VD (us (us D 2 (nI v)) 3 (nI v2)) := by
  obtain ⟨⟨m, h6, h0, hj⟩, h1, -, p⟩ := h
  have U : ∀ j, j ≠ 2 → j ≠ 3 → us (us D 2 (nI v)) 3 (nI v2) j = D j := fun j q q2 => by rw [us_ne q2, us_ne q]
  refine ⟨⟨m, h6, by rw [U 0 (by omega) (by omega)]; exact h0, fun j q => by rw [U (11 + j) (by omega) (by omega), U (17 + j) (by omega) (by omega), U (23 + j) (by omega) (by omega)]; exact hj j q⟩, by rw [U 1 (by omega) (by omega)]; exact h1, ⟨v, v2, a1, a2, a3, a4, by rw [us_ne (by omega), us_eq], us_eq⟩, ?_⟩
  rw [U 4 (by omega) (by omega), U 5 (by omega) (by omega), U 6 (by omega) (by omega), U 7 (by omega) (by omega), U 9 (by omega) (by omega), U 10 (by omega) (by omega)]
  exact p
theorem VD_9 {D : Nat → Int32} {v v2 : Nat} (h : VD D) (a1 : v ≤ 999) (a2 : v2 ≤ 8) : VD (us (us D 9 (nI v)) 10 (nI v2)) := by
  obtain ⟨⟨m, h6, h0, hj⟩, h1, p2, p4, p5, p6, p7, -⟩ := h
  have U : ∀ j, j ≠ 9 → j ≠ 10 → us (us D 9 (nI v)) 10 (nI v2) j = D j := fun j q q2 => by rw [us_ne q2, us_ne q]
  refine ⟨⟨m, h6, by rw [U 0 (by omega) (by omega)]; exact h0, fun j q => by rw [U (11 + j) (by omega) (by omega), U (17 + j) (by omega) (by omega), U (23 + j) (by omega) (by omega)]; exact hj j q⟩, by rw [U 1 (by omega) (by omega)]; exact h1, ?_, ?_, ?_, ?_, ?_, Or.inr ⟨v, v2, a1, a2, by rw [us_ne (by omega), us_eq], us_eq⟩⟩
  · rw [U 2 (by omega) (by omega), U 3 (by omega) (by omega)]; exact p2
  · rw [U 4 (by omega) (by omega)]; exact p4
  · rw [U 5 (by omega) (by omega)]; exact p5
  · rw [U 6 (by omega) (by omega)]; exact p6
  · rw [U 7 (by omega) (by omega)]; exact p7
theorem VD_g {D : Nat → Int32} {l s k : Nat} (h : VD D) (n6' : ¬ D 0 = 6) (a1 : 1 ≤ l) (a2 : l ≤ 200) (a3 : s ≤ 20) (a4 : k ≤ 10) : VD (gs1 D l s k) := by
  obtain ⟨⟨m, h6, h0, hj⟩, h1, p⟩ := h
  have m5 : m < 6 := by
    rcases Nat.lt_or_ge m 6 with q | q
    · exact q
    · exact absurd (by rw [h0, show m = 6 by omega]; rfl) n6'
  have c0 : (D 0).toNatClampNeg = m := by rw [h0, nI_clamp (by omega)]
  have U : ∀ j, j ≠ 0 → j ≠ 11 + m → j ≠ 17 + m → j ≠ 23 + m → gs1 D l s k j = D j := fun j q0 q1 q2 q3 => by
    unfold gs1; rw [c0, us_ne q0, us_ne q3, us_ne q2, us_ne q1]
  have U0 : gs1 D l s k 0 = nI (m + 1) := by unfold gs1; rw [us_eq, h0, nI_1]
  have U1 : gs1 D l s k (11 + m) = nI l := by unfold gs1; rw [c0, us_ne (by omega), us_ne (by omega), us_ne (by omega), us_eq]
  have U2 : gs1 D l s k (17 + m) = nI s := by unfold gs1; rw [c0, us_ne (by omega), us_ne (by omega), us_eq]
  have U3 : gs1 D l s k (23 + m) = nI k := by unfold gs1; rw [c0, us_ne (by omega), us_eq]
  refine ⟨⟨m + 1, by omega, U0, fun j q => ?_⟩, by rw [U 1 (by omega) (by omega) (by omega) (by omega)]; exact h1, ?_⟩
  · rcases Nat.lt_or_ge j m with q1 | q1
    · rw [U (11 + j) (by omega) (by omega) (by omega) (by omega), U (17 + j) (by omega) (by omega) (by omega) (by omega), U (23 + j) (by omega) (by omega) (by omega) (by omega)]
      exact hj j q1
    · rw [show j = m by omega, U1, U2, U3]
      exact ⟨⟨l, a1, a2, rfl⟩, ⟨s, a3, rfl⟩, ⟨k, a4, rfl⟩⟩
  · rw [U 2 (by omega) (by omega) (by omega) (by omega), U 3 (by omega) (by omega) (by omega) (by omega), U 4 (by omega) (by omega) (by omega) (by omega), U 5 (by omega) (by omega) (by omega) (by omega), U 6 (by omega) (by omega) (by omega) (by omega), U 7 (by omega) (by omega) (by omega) (by omega), U 9 (by omega) (by omega) (by omega) (by omega), U 10 (by omega) (by omega) (by omega) (by omega)]
    exact p
theorem VD_0 : VD D0 := ⟨⟨0, by omega, rfl, fun j hj => absurd hj (by omega)⟩, rfl, ⟨1, 100, by omega, by omega, by omega, by omega, rfl, rfl⟩, ⟨10, by omega, rfl⟩, ⟨100, by omega, rfl⟩, ⟨0, by omega, rfl⟩, ⟨0, by omega, rfl⟩, Or.inl rfl⟩
theorem VD_ln {F : Nat → Nat} {n p q : Nat} {D D' : Nat → Int32} (h : VD D) (e : ln F n D p = Sum.inr (D', q)) (hp : p ≤ n) : VD D' :=
  ln_ind (P := fun x => VD x.1) e hp (fun _ _ _ a b c d _ _ => VD_2 h a b c d) (fun _ _ _ a b _ _ => VD_9 h a b) (fun _ _ _ _ a b c d e _ _ => VD_g h a b c d e) (fun _ _ _ => VD_1 h (Or.inr (Or.inr (Or.inr (Or.inl ⟨rfl, 1, by omega, rfl⟩))))) (fun v _ a _ _ => VD_1 h (Or.inl ⟨rfl, v, a, rfl⟩)) (fun v _ a _ _ => VD_1 h (Or.inr (Or.inl ⟨rfl, v, a, rfl⟩))) (fun v _ a _ _ => VD_1 h (Or.inr (Or.inr (Or.inl ⟨rfl, v, a, rfl⟩))))
theorem VD_ll {F : Nat → Nat} {n p q : Nat} {D D' : Nat → Int32} (h : VD D) (e : ll F n D p = Sum.inr (D', q)) (hp : p ≤ n) : VD D' := by
  cases el : ln F n D p with
  | inl x => rw [ll_l el] at e; cases e
  | inr x =>
    obtain ⟨D1, q1⟩ := x
    rw [ll_r el] at e
    have v := VD_ln h el hp
    unfold lt at e
    split at e
    · cases e
      exact VD_1 v (Or.inr (Or.inr (Or.inr (Or.inr rfl))))
    · cases e
/-- a fault's kind -/
theorem nu1_indl {F : Nat → Nat} {n p lo hi : Nat} {K : Nat → Nat → Sum (Nat × Nat) ((Nat → Int32) × Nat)} {x : Nat × Nat} (h : nu1 F n p lo hi K = Sum.inl x) (k : ∀ v q, K v q = Sum.inl x → 1 ≤ x.1 ∧ x.1 ≤ 4) : 1 ≤ x.1 ∧ x.1 ≤ 4 := by
  by_cases z : nf F n p lo hi = 0
  · rw [nu1_t z] at h
    exact k _ _ h
  · rw [nu1_f z] at h
    have := nf_3 (F := F) (n := n) (p := p) (lo := lo) (hi := hi)
    cases h
    constructor
    · show 1 ≤ nf F n p lo hi
      omega
    · show nf F n p lo hi ≤ 4
      omega
theorem ln_f {F : Nat → Nat} {n p : Nat} {D : Nat → Int32} {x : Nat × Nat} (h : ln F n D p = Sum.inl x) : 1 ≤ x.1 ∧ x.1 ≤ 4 := by
  unfold ln at h
  split at h
  · exact nu1_indl h (fun v q h => nu1_indl h (fun v2 q2 h => by cases h))
  split at h
  · exact nu1_indl h (fun v q h => nu1_indl h (fun v2 q2 h => by cases h))
  split at h
  · split at h
    · cases h
      exact ⟨by show 1 ≤ 4; omega, by show 4 ≤ 4; omega⟩
    · refine nu1_indl h (fun v q h => nu1_indl h (fun v2 q2 h => ?_))
      split at h
      · exact nu1_indl h (fun v3 q3 h => by cases h)
      · cases h
  split at h
  · cases h
  split at h
  · exact nu1_indl h (fun v q h => by cases h)
  split at h
  · exact nu1_indl h (fun v q h => by cases h)
  split at h
  · exact nu1_indl h (fun v q h => by cases h)
  · cases h
    exact ⟨fq_ne (by omega), fq_le (by omega)⟩
theorem tx_f {F : Nat → Nat} {n : Nat} {x : Nat × Nat} : ∀ f p D, tx F n f D p = Sum.inl x → 1 ≤ x.1 ∧ x.1 ≤ 4
  | 0, p, D, h => by unfold tx at h; cases h
  | f + 1, p, D, h => by
    unfold tx at h
    split at h
    · cases h
    · cases el : ln F n D p with
      | inl y => 
        rw [ll_l el] at h
        simp only [] at h
        cases h
        exact ln_f el
      | inr y =>
        obtain ⟨D1, q1⟩ := y
        rw [ll_r el] at h
        unfold lt at h
        by_cases z : xk F n q1 = 10
        · rw [if_pos z] at h
          exact tx_f f _ _ h
        · rw [if_neg z] at h
          simp only [] at h
          cases h
          exact ⟨fq_ne (by omega), fq_le (by omega)⟩
theorem VD_tx {F : Nat → Nat} {n : Nat} {D' : Nat → Int32} : ∀ f p D, VD D → p ≤ n → tx F n f D p = Sum.inr D' → VD D'
  | 0, p, D, v, _, h => by unfold tx at h; cases h; exact v
  | f + 1, p, D, v, hp, h => by
    unfold tx at h
    split at h
    · cases h; exact v
    · cases el : ll F n D p with
      | inl y => rw [el] at h; cases h
      | inr y =>
        obtain ⟨D1, q1⟩ := y
        rw [el] at h
        exact VD_tx f _ _ (VD_ll v el hp) (ll_q el hp).2 h
theorem iN {I : mI} {k m a : Nat} (h : I 60 k = nI a) (ha : a ≤ m) (hm : m < 2 ^ 31) : isN I k m ∧ nv I k = a := by
  have e : nv I k = a := by unfold nv; rw [h, nI_clamp (by omega)]
  exact ⟨⟨by rw [e]; exact h, by omega⟩, e⟩
theorem FS0_D {I : mI} {D : Nat → Int32} (v : VD D) (h60 : ∀ k, k < 110 → I 60 k = D k) (e5 : I 16 5 = D 0) (e0 : I 16 0 = D 2) (e1 : I 16 1 = D 3) (e10 : I 16 10 = D 4) (e11 : I 16 11 = D 5) (e12 : I 16 12 = D 6) (e9 : I 16 9 = D 7) (e13 : I 16 13 = D 8) (ep : (I 16 2 = 0 ∧ D 10 = -1) ∨ (I 16 2 = 1 ∧ I 16 3 = D 9 ∧ I 16 4 = D 10 ∧ ¬ D 10 = -1)) (eg : ∀ j, j < 6 → D 0 = nI ((D 0).toNatClampNeg) → j < (D 0).toNatClampNeg → I 17 j = D (11 + j) ∧ I 18 j = D (17 + j) ∧ I 19 j = D (23 + j)) (es : I 20 2 = 0) : FS0 I := by
  obtain ⟨⟨m, h6, h0, hj⟩, h1, ⟨a, b, a1, a2, a3, a4, a5, a6⟩, ⟨p4, q4, r4⟩, ⟨p5, q5, r5⟩, ⟨p6, q6, r6⟩, ⟨p7, q7, r7⟩, p10⟩ := v
  have c0 : (D 0).toNatClampNeg = m := by rw [h0, nI_clamp (by omega)]
  have i0 := iN (I := I) (k := 0) (m := 6) ((h60 0 (by omega)).trans h0) h6 (by omega)
  have i1 := iN (I := I) (k := 1) (m := 40) (a := 0) ((h60 1 (by omega)).trans h1) (by omega) (by omega)
  have i2 := iN (I := I) (k := 2) (m := 999) ((h60 2 (by omega)).trans a5) a2 (by omega)
  have i3 := iN (I := I) (k := 3) (m := a + 199) ((h60 3 (by omega)).trans a6) a4 (by omega)
  have i4 := iN (I := I) (k := 4) (m := 99) ((h60 4 (by omega)).trans r4) q4 (by omega)
  have i5 := iN (I := I) (k := 5) (m := 9999) ((h60 5 (by omega)).trans r5) q5 (by omega)
  have i6 := iN (I := I) (k := 6) (m := 999) ((h60 6 (by omega)).trans r6) q6 (by omega)
  have i7 := iN (I := I) (k := 7) (m := 1) ((h60 7 (by omega)).trans r7) q7 (by omega)
  unfold FS0 FS
  simp only [Nat.zero_add]
  rw [i0.2, i1.2, i2.2, i3.2]
  refine ⟨⟨i0.1, by rw [h60 0 (by omega)]; exact e5⟩, ⟨i1.1, by rw [es, h60 1 (by omega), h1]⟩, ⟨i2.1, a1, by rw [h60 2 (by omega)]; exact e0⟩, ⟨i3.1, a3, by rw [h60 3 (by omega)]; exact e1⟩, ⟨i4.1, by rw [h60 4 (by omega)]; exact e10⟩, ⟨i5.1, by rw [h60 5 (by omega)]; exact e11⟩, ⟨i6.1, by rw [h60 6 (by omega)]; exact e12⟩, ⟨i7.1, by rw [h60 7 (by omega)]; exact e9⟩, by rw [h60 8 (by omega)]; exact e13, ?_, fun j q => ?_, fun k q => absurd q (by omega)⟩
  · rcases ep with ⟨x1, x2⟩ | ⟨x1, x2, x3, x4⟩
    · exact Or.inl ⟨x1, by rw [h60 10 (by omega)]; exact x2⟩
    · rcases p10 with y | ⟨y1, y2, y3, y4, y5, y6⟩
      · exact absurd y x4
      · exact Or.inr ⟨x1, (iN ((h60 9 (by omega)).trans y5) y3 (by omega)).1, by rw [h60 9 (by omega)]; exact x2, (iN ((h60 10 (by omega)).trans y6) y4 (by omega)).1, by rw [h60 10 (by omega)]; exact x3⟩
  · obtain ⟨⟨y1, y2, y3, y4⟩, ⟨y5, y6, y7⟩, ⟨y8, y9, y10⟩⟩ := hj j q
    obtain ⟨g1, g2, g3⟩ := eg j (by omega) (by rw [c0]; exact h0) (by rw [c0]; exact q)
    have k1 := iN (I := I) (k := 11 + j) (m := 200) ((h60 _ (by omega)).trans y4) y3 (by omega)
    exact ⟨⟨k1.1, by rw [k1.2]; exact y2, by rw [h60 _ (by omega)]; exact g1⟩, ⟨(iN ((h60 _ (by omega)).trans y7) y6 (by omega)).1, by rw [h60 _ (by omega)]; exact g2⟩, ⟨(iN ((h60 _ (by omega)).trans y10) y9 (by omega)).1, by rw [h60 _ (by omega)]; exact g3⟩⟩
