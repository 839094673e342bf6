/-! those who write choose -/
/-- the best so far -/
def MX (F : Nat → Nat) (j : Nat) (x : Int64) : Prop := (j = 0 ∧ x = -1) ∨ (∃ i, j = i + 1 ∧ x = lN (F (ag F i)))
theorem lm1 {w : Nat} (h : w < 2 ^ 63) : ¬ lN w ≤ -1 := by
  intro q
  rw [Int64.le_iff_toInt_le, pk_lT h] at q
  have : (-1 : Int64).toInt = -1 := rfl
  omega
theorem MX_no {F : Nat → Nat} {j w : Nat} {x : Int64} (h : MX F j x) (hF : ∀ i, F i < 2 ^ 62) (hw : w < 2 ^ 62) (q : lN w ≤ x) (hle : F j ≤ w) : MX F (j + 1) x ∧ 1 ≤ j ∧ ag F j = ag F (j - 1) := by
  rcases h with ⟨rfl, rfl⟩ | ⟨i, rfl, rfl⟩
  · exact absurd q (lm1 (by omega))
  · have b := hF (ag F i)
    have q2 := (pk_lLE (by omega) (by omega)).mp q
    have e : ag F (i + 1) = ag F i := by
      show (if F (ag F i) < F (i + 1) then i + 1 else ag F i) = ag F i
      rw [if_neg (by omega)]
    exact ⟨Or.inr ⟨i + 1, rfl, by rw [e]⟩, by omega, e⟩
theorem MX_yes {F : Nat → Nat} {j : Nat} {x : Int64} (h : MX F j x) (hF : ∀ i, F i < 2 ^ 62) (q : ¬ lN (F j) ≤ x) : MX F (j + 1) (lN (F j)) ∧ ag F j = j := by
  rcases h with ⟨rfl, rfl⟩ | ⟨i, rfl, rfl⟩
  · exact ⟨Or.inr ⟨0, rfl, rfl⟩, rfl⟩
  · have b := hF (ag F i)
    have b2 := hF (i + 1)
    have q2 : ¬ F (i + 1) ≤ F (ag F i) := fun z => q ((pk_lLE (by omega) (by omega)).mpr z)
    have e : ag F (i + 1) = i + 1 := by
      show (if F (ag F i) < F (i + 1) then i + 1 else ag F i) = i + 1
      rw [if_pos (by omega)]
    exact ⟨Or.inr ⟨i + 1, rfl, by rw [e]⟩, e⟩
theorem Fr_b {I0 : mI} {f : Nat → Nat} {many r : Nat} {A : List Nat} (hf : sN f (gw I0) < 2 ^ 62) (i : Nat) : Fr I0 f many r A i < 2 ^ 62 := by
  have : Fr I0 f many r A i ≤ sN f (gw I0) := shr_b
  omega
section Ch
variable {g : gm_G} {I : mI} {L : mL} {c : gm_cfg}
theorem j_choose_0_1 {I0 : mI} {f : Nat → Nat} {many : Nat} {A : List Nat} {Q : mI → mL → gm_cfg → Prop} (hl : LD I L I0 f many) (h0 : FM I0) (hf : sN f (gw I0) < 2 ^ 62) (hA : A.length = 0) (hAb : ∀ k, k < A.length → A.getD k 0 ≤ 2000) (hp : PK I A) (hq : ∀ I' : mI, KO pC I I' → (∀ o, 32 ≤ o → o < 32 → I' o = I o) → PK I' (A ++ pl I0 f many 1 A) → Q I' L c) : C_Wr_choose_29_0_1 g I L c Q := by
  have hLo := gLo h0
  have hHi := gHi h0
  have hb := gw_b h0
  have eW : nv I0 2 + gw I0 = nv I0 3 + 1 := by show nv I0 2 + (nv I0 3 - nv I0 2 + 1) = _; omega
  refine e_Wr_choose_29_0_1 ?_
  have FB := Fr_b (I0 := I0) (f := f) (many := many) (r := 0) (A := A) hf
  have key := lp0 (P := fun j => ∀ (I' : mI) (x : Int64), KO pC I I' → (∀ o, 32 ≤ o → o < 32 → I' o = I o) → PK I' A → MX (Fr I0 f many 0 A) j x → (1 ≤ j → ∀ k, k < 1 → I' 32 (0 + k) = nI (((nv I0 2 + ag (Fr I0 f many 0 A) (j - 1)) :: pl I0 f many 0 (A ++ [nv I0 2 + ag (Fr I0 f many 0 A) (j - 1)])).getD k 0)) → Z_Wr_choose_29_0_1 g Q 22 [(0, .ref 29), (1, .int 0), (2, .int 1), (3, .long x), (5, .int (nI j))] [] I' L c) (gw I0) ?_ ?_
  · exact key I (-1) KO.rf (fun _ _ _ => rfl) hp (Or.inl ⟨rfl, rfl⟩) (fun q => absurd q (by omega))
  · intro I' x k1 kl pk mx kp
    have e23 : I' 23 7 = nI (gw I0) := by rw [k1 23 rfl]; exact hl.2.2.1
    refine r_Wr_choose_29_0_1_22 (br_t (by rw [e23]; exact nI_le (Nat.le_refl _) (by omega)) (hq _ (KO.up rfl k1) (fun o o1 o2 => ?_) (fun k hk => ?_)))
    · show (if o = 30 then _ else I' o) = _
      rw [if_neg (by omega)]
      exact kl o o1 o2
    · rw [List.length_append, pl_len, hA] at hk
      show va_cpy (I' 32) (I' 30) 0 0 1 k = _
      rcases Nat.lt_or_ge k 0 with z | z
      · rw [pk_cpy_out (by omega), pk k (by omega), gD_l (by omega)]
      · rw [pk_cpy_in z (by omega), show 0 + (k - 0) = 0 + (k - A.length) by omega, kp (by omega) (k - A.length) (by omega), show (A ++ pl I0 f many 1 A).getD k 0 = (pl I0 f many 1 A).getD (k - A.length) 0 by
          have := gD_r (A := A) (B := pl I0 f many 1 A) (k := k - A.length)
          rw [show A.length + (k - A.length) = k by omega] at this
          exact this]
        rfl
  · intro j hj ih I' x k1 kl pk mx kp
    have e23 : I' 23 7 = nI (gw I0) := by rw [k1 23 rfl]; exact hl.2.2.1
    have l1 := hl.ko k1
    have n1 : nv I' = nv I0 := nv_60 l1.2.1
    have e16 : I' 16 0 = nI (nv I0 2) := by rw [← n1]; exact (fLo l1.1).2.2.2
    refine r_Wr_choose_29_0_1_22 (br_f (by rw [e23]; exact nI_ge hj (by omega)) (e_Sr_low ?_))
    rw [e16, nI_add, nI_1]
    have k2 : KO pC I (gm_u I' 30 0 (nI (nv I0 2 + j))) := KO.u rfl k1
    have p2 : PK (gm_u I' 30 0 (nI (nv I0 2 + j))) (A ++ (nv I0 2 + j) :: pl I0 f many 0 (A ++ [nv I0 2 + j])) := by
      intro k hk
      rw [List.length_append, List.length_cons, pl_len, hA] at hk
      rcases Nat.lt_or_ge k A.length with z | z
      · rw [gm_u_ne2 _ _ _ _ (by omega), pk k z, gD_l z]
      · have ek : k = A.length + 0 := by omega
        have ek2 : k = 0 := by omega
        rw [show (A ++ (nv I0 2 + j) :: pl I0 f many 0 (A ++ [nv I0 2 + j])).getD k 0 = nv I0 2 + j by rw [ek, gD_r]; rfl, ek2, gm_u_eq]
    have whB : shr I0 f many (nv I0 2 + j) [] [] < 2 ^ 62 := by have : shr I0 f many (nv I0 2 + j) [] [] ≤ sN f (gw I0) := shr_b; omega
    have e4 : ∀ (Q' : Int64 → mI → mL → gm_cfg → Prop), (∀ I4 : mI, KO pC I I4 → (∀ o, 32 ≤ o → o < 32 → I4 o = I o) → I4 32 = I' 32 → PK I4 (A ++ (nv I0 2 + j) :: pl I0 f many 0 (A ++ [nv I0 2 + j])) → Q' (lN (Fr I0 f many 0 A j)) I4 L c) → C_Wr_shareOf g 0 1 (gm_u I' 30 0 (nI (nv I0 2 + j))) L c Q' := by
      intro Q' hq'
      refine j_share (i := 0) (n := 1) (A := A) (B := pl I0 f many 0 (A ++ [nv I0 2 + j])) (hl.ko k2) h0 hA (by rw [pl_len]) (by omega) p2 (by omega) hAb (fun k hk => absurd hk (by rw [pl_len]; omega)) (fun I4 z1 => hq' I4 (k2.tr (pC24 z1)) (fun o o1 o2 => ?_) ?_ ?_)
      · have := z1 o (by simp [p24]; omega)
        rw [this, gm_u_ne _ _ _ (by omega)]
        exact kl o o1 o2
      · rw [z1 32 rfl]; rfl
      · intro k hk
        rw [z1 30 rfl]; exact p2 k hk
    refine j_whole l1 h0 hj (br_c (fun z => ?_) (fun z => e4 _ (fun I4 w1 w2 w3 w4 => ?_)))
    · obtain ⟨m1, m2, m3⟩ := MX_no mx FB whB z shr_le
      refine ih I' x k1 kl pk m1 (fun _ => ?_)
      rw [Nat.add_sub_cancel, m3]
      exact kp m2
    · have pk4 : PK I4 A := fun k hk => by
        rw [w4 k (by rw [List.length_append]; omega), gD_l hk]
      refine br_c (fun z2 => ?_) (fun z2 => ?_)
      · obtain ⟨m1, m2, m3⟩ := MX_no mx FB (FB j) z2 (Nat.le_refl _)
        refine ih I4 x w1 w2 pk4 m1 (fun _ => ?_)
        rw [Nat.add_sub_cancel, m3, w3]
        exact kp m2
      · obtain ⟨m1, m2⟩ := MX_yes mx FB z2
        refine ih _ _ (KO.up rfl w1) (fun o o1 o2 => ?_) (fun k hk => ?_) m1 (fun _ k hk => ?_)
        · show (if o = 32 then _ else I4 o) = _
          rw [if_neg (by omega)]
          exact w2 o o1 o2
        · exact pk4 k hk
        · rw [Nat.add_sub_cancel, m2]
          show va_cpy (I4 30) (I4 32) 0 0 1 (0 + k) = _
          rw [pk_cpy_in (by omega) (by omega), show 0 + (0 + k - 0) = A.length + k by omega, w4 _ (by rw [List.length_append, List.length_cons, pl_len]; omega), gD_r]
theorem j_choose_1_2 {I0 : mI} {f : Nat → Nat} {many : Nat} {A : List Nat} {Q : mI → mL → gm_cfg → Prop} (hl : LD I L I0 f many) (h0 : FM I0) (hf : sN f (gw I0) < 2 ^ 62) (hA : A.length = 1) (hAb : ∀ k, k < A.length → A.getD k 0 ≤ 2000) (hp : PK I A) (hq : ∀ I' : mI, KO pC I I' → (∀ o, 32 ≤ o → o < 33 → I' o = I o) → PK I' (A ++ pl I0 f many 1 A) → Q I' L c) : C_Wr_choose_29_1_2 g I L c Q := by
  have hLo := gLo h0
  have hHi := gHi h0
  have hb := gw_b h0
  have eW : nv I0 2 + gw I0 = nv I0 3 + 1 := by show nv I0 2 + (nv I0 3 - nv I0 2 + 1) = _; omega
  refine e_Wr_choose_29_1_2 ?_
  have FB := Fr_b (I0 := I0) (f := f) (many := many) (r := 0) (A := A) hf
  have key := lp0 (P := fun j => ∀ (I' : mI) (x : Int64), KO pC I I' → (∀ o, 32 ≤ o → o < 33 → I' o = I o) → PK I' A → MX (Fr I0 f many 0 A) j x → (1 ≤ j → ∀ k, k < 1 → I' 33 (1 + k) = nI (((nv I0 2 + ag (Fr I0 f many 0 A) (j - 1)) :: pl I0 f many 0 (A ++ [nv I0 2 + ag (Fr I0 f many 0 A) (j - 1)])).getD k 0)) → Z_Wr_choose_29_1_2 g Q 22 [(0, .ref 29), (1, .int 1), (2, .int 2), (3, .long x), (5, .int (nI j))] [] I' L c) (gw I0) ?_ ?_
  · exact key I (-1) KO.rf (fun _ _ _ => rfl) hp (Or.inl ⟨rfl, rfl⟩) (fun q => absurd q (by omega))
  · intro I' x k1 kl pk mx kp
    have e23 : I' 23 7 = nI (gw I0) := by rw [k1 23 rfl]; exact hl.2.2.1
    refine r_Wr_choose_29_1_2_22 (br_t (by rw [e23]; exact nI_le (Nat.le_refl _) (by omega)) (hq _ (KO.up rfl k1) (fun o o1 o2 => ?_) (fun k hk => ?_)))
    · show (if o = 30 then _ else I' o) = _
      rw [if_neg (by omega)]
      exact kl o o1 o2
    · rw [List.length_append, pl_len, hA] at hk
      show va_cpy (I' 33) (I' 30) 1 1 1 k = _
      rcases Nat.lt_or_ge k 1 with z | z
      · rw [pk_cpy_out (by omega), pk k (by omega), gD_l (by omega)]
      · rw [pk_cpy_in z (by omega), show 1 + (k - 1) = 1 + (k - A.length) by omega, kp (by omega) (k - A.length) (by omega), show (A ++ pl I0 f many 1 A).getD k 0 = (pl I0 f many 1 A).getD (k - A.length) 0 by
          have := gD_r (A := A) (B := pl I0 f many 1 A) (k := k - A.length)
          rw [show A.length + (k - A.length) = k by omega] at this
          exact this]
        rfl
  · intro j hj ih I' x k1 kl pk mx kp
    have e23 : I' 23 7 = nI (gw I0) := by rw [k1 23 rfl]; exact hl.2.2.1
    have l1 := hl.ko k1
    have n1 : nv I' = nv I0 := nv_60 l1.2.1
    have e16 : I' 16 0 = nI (nv I0 2) := by rw [← n1]; exact (fLo l1.1).2.2.2
    refine r_Wr_choose_29_1_2_22 (br_f (by rw [e23]; exact nI_ge hj (by omega)) (e_Sr_low ?_))
    rw [e16, nI_add, nI_1]
    have k2 : KO pC I (gm_u I' 30 1 (nI (nv I0 2 + j))) := KO.u rfl k1
    have p2 : PK (gm_u I' 30 1 (nI (nv I0 2 + j))) (A ++ (nv I0 2 + j) :: pl I0 f many 0 (A ++ [nv I0 2 + j])) := by
      intro k hk
      rw [List.length_append, List.length_cons, pl_len, hA] at hk
      rcases Nat.lt_or_ge k A.length with z | z
      · rw [gm_u_ne2 _ _ _ _ (by omega), pk k z, gD_l z]
      · have ek : k = A.length + 0 := by omega
        have ek2 : k = 1 := by omega
        rw [show (A ++ (nv I0 2 + j) :: pl I0 f many 0 (A ++ [nv I0 2 + j])).getD k 0 = nv I0 2 + j by rw [ek, gD_r]; rfl, ek2, gm_u_eq]
    have whB : shr I0 f many (nv I0 2 + j) [] [] < 2 ^ 62 := by have : shr I0 f many (nv I0 2 + j) [] [] ≤ sN f (gw I0) := shr_b; omega
    have e4 : ∀ (Q' : Int64 → mI → mL → gm_cfg → Prop), (∀ I4 : mI, KO pC I I4 → (∀ o, 32 ≤ o → o < 33 → I4 o = I o) → I4 33 = I' 33 → PK I4 (A ++ (nv I0 2 + j) :: pl I0 f many 0 (A ++ [nv I0 2 + j])) → Q' (lN (Fr I0 f many 0 A j)) I4 L c) → C_Wr_shareOf g 1 2 (gm_u I' 30 1 (nI (nv I0 2 + j))) L c Q' := by
      intro Q' hq'
      refine j_share (i := 1) (n := 2) (A := A) (B := pl I0 f many 0 (A ++ [nv I0 2 + j])) (hl.ko k2) h0 hA (by rw [pl_len]) (by omega) p2 (by omega) hAb (fun k hk => absurd hk (by rw [pl_len]; omega)) (fun I4 z1 => hq' I4 (k2.tr (pC24 z1)) (fun o o1 o2 => ?_) ?_ ?_)
      · have := z1 o (by simp [p24]; omega)
        rw [this, gm_u_ne _ _ _ (by omega)]
        exact kl o o1 o2
      · rw [z1 33 rfl]; rfl
      · intro k hk
        rw [z1 30 rfl]; exact p2 k hk
    refine j_whole l1 h0 hj (br_c (fun z => ?_) (fun z => e4 _ (fun I4 w1 w2 w3 w4 => ?_)))
    · obtain ⟨m1, m2, m3⟩ := MX_no mx FB whB z shr_le
      refine ih I' x k1 kl pk m1 (fun _ => ?_)
      rw [Nat.add_sub_cancel, m3]
      exact kp m2
    · have pk4 : PK I4 A := fun k hk => by
        rw [w4 k (by rw [List.length_append]; omega), gD_l hk]
      refine br_c (fun z2 => ?_) (fun z2 => ?_)
      · obtain ⟨m1, m2, m3⟩ := MX_no mx FB (FB j) z2 (Nat.le_refl _)
        refine ih I4 x w1 w2 pk4 m1 (fun _ => ?_)
        rw [Nat.add_sub_cancel, m3, w3]
        exact kp m2
      · obtain ⟨m1, m2⟩ := MX_yes mx FB z2
        refine ih _ _ (KO.up rfl w1) (fun o o1 o2 => ?_) (fun k hk => ?_) m1 (fun _ k hk => ?_)
        · show (if o = 33 then _ else I4 o) = _
          rw [if_neg (by omega)]
          exact w2 o o1 o2
        · exact pk4 k hk
        · rw [Nat.add_sub_cancel, m2]
          show va_cpy (I4 30) (I4 33) 1 1 1 (1 + k) = _
          rw [pk_cpy_in (by omega) (by omega), show 1 + (1 + k - 1) = A.length + k by omega, w4 _ (by rw [List.length_append, List.length_cons, pl_len]; omega), gD_r]
theorem j_choose_2_3 {I0 : mI} {f : Nat → Nat} {many : Nat} {A : List Nat} {Q : mI → mL → gm_cfg → Prop} (hl : LD I L I0 f many) (h0 : FM I0) (hf : sN f (gw I0) < 2 ^ 62) (hA : A.length = 2) (hAb : ∀ k, k < A.length → A.getD k 0 ≤ 2000) (hp : PK I A) (hq : ∀ I' : mI, KO pC I I' → (∀ o, 32 ≤ o → o < 34 → I' o = I o) → PK I' (A ++ pl I0 f many 1 A) → Q I' L c) : C_Wr_choose_29_2_3 g I L c Q := by
  have hLo := gLo h0
  have hHi := gHi h0
  have hb := gw_b h0
  have eW : nv I0 2 + gw I0 = nv I0 3 + 1 := by show nv I0 2 + (nv I0 3 - nv I0 2 + 1) = _; omega
  refine e_Wr_choose_29_2_3 ?_
  have FB := Fr_b (I0 := I0) (f := f) (many := many) (r := 0) (A := A) hf
  have key := lp0 (P := fun j => ∀ (I' : mI) (x : Int64), KO pC I I' → (∀ o, 32 ≤ o → o < 34 → I' o = I o) → PK I' A → MX (Fr I0 f many 0 A) j x → (1 ≤ j → ∀ k, k < 1 → I' 34 (2 + k) = nI (((nv I0 2 + ag (Fr I0 f many 0 A) (j - 1)) :: pl I0 f many 0 (A ++ [nv I0 2 + ag (Fr I0 f many 0 A) (j - 1)])).getD k 0)) → Z_Wr_choose_29_2_3 g Q 22 [(0, .ref 29), (1, .int 2), (2, .int 3), (3, .long x), (5, .int (nI j))] [] I' L c) (gw I0) ?_ ?_
  · exact key I (-1) KO.rf (fun _ _ _ => rfl) hp (Or.inl ⟨rfl, rfl⟩) (fun q => absurd q (by omega))
  · intro I' x k1 kl pk mx kp
    have e23 : I' 23 7 = nI (gw I0) := by rw [k1 23 rfl]; exact hl.2.2.1
    refine r_Wr_choose_29_2_3_22 (br_t (by rw [e23]; exact nI_le (Nat.le_refl _) (by omega)) (hq _ (KO.up rfl k1) (fun o o1 o2 => ?_) (fun k hk => ?_)))
    · show (if o = 30 then _ else I' o) = _
      rw [if_neg (by omega)]
      exact kl o o1 o2
    · rw [List.length_append, pl_len, hA] at hk
      show va_cpy (I' 34) (I' 30) 2 2 1 k = _
      rcases Nat.lt_or_ge k 2 with z | z
      · rw [pk_cpy_out (by omega), pk k (by omega), gD_l (by omega)]
      · rw [pk_cpy_in z (by omega), show 2 + (k - 2) = 2 + (k - A.length) by omega, kp (by omega) (k - A.length) (by omega), show (A ++ pl I0 f many 1 A).getD k 0 = (pl I0 f many 1 A).getD (k - A.length) 0 by
          have := gD_r (A := A) (B := pl I0 f many 1 A) (k := k - A.length)
          rw [show A.length + (k - A.length) = k by omega] at this
          exact this]
        rfl
  · intro j hj ih I' x k1 kl pk mx kp
    have e23 : I' 23 7 = nI (gw I0) := by rw [k1 23 rfl]; exact hl.2.2.1
    have l1 := hl.ko k1
    have n1 : nv I' = nv I0 := nv_60 l1.2.1
    have e16 : I' 16 0 = nI (nv I0 2) := by rw [← n1]; exact (fLo l1.1).2.2.2
    refine r_Wr_choose_29_2_3_22 (br_f (by rw [e23]; exact nI_ge hj (by omega)) (e_Sr_low ?_))
    rw [e16, nI_add, nI_1]
    have k2 : KO pC I (gm_u I' 30 2 (nI (nv I0 2 + j))) := KO.u rfl k1
    have p2 : PK (gm_u I' 30 2 (nI (nv I0 2 + j))) (A ++ (nv I0 2 + j) :: pl I0 f many 0 (A ++ [nv I0 2 + j])) := by
      intro k hk
      rw [List.length_append, List.length_cons, pl_len, hA] at hk
      rcases Nat.lt_or_ge k A.length with z | z
      · rw [gm_u_ne2 _ _ _ _ (by omega), pk k z, gD_l z]
      · have ek : k = A.length + 0 := by omega
        have ek2 : k = 2 := by omega
        rw [show (A ++ (nv I0 2 + j) :: pl I0 f many 0 (A ++ [nv I0 2 + j])).getD k 0 = nv I0 2 + j by rw [ek, gD_r]; rfl, ek2, gm_u_eq]
    have whB : shr I0 f many (nv I0 2 + j) [] [] < 2 ^ 62 := by have : shr I0 f many (nv I0 2 + j) [] [] ≤ sN f (gw I0) := shr_b; omega
    have e4 : ∀ (Q' : Int64 → mI → mL → gm_cfg → Prop), (∀ I4 : mI, KO pC I I4 → (∀ o, 32 ≤ o → o < 34 → I4 o = I o) → I4 34 = I' 34 → PK I4 (A ++ (nv I0 2 + j) :: pl I0 f many 0 (A ++ [nv I0 2 + j])) → Q' (lN (Fr I0 f many 0 A j)) I4 L c) → C_Wr_shareOf g 2 3 (gm_u I' 30 2 (nI (nv I0 2 + j))) L c Q' := by
      intro Q' hq'
      refine j_share (i := 2) (n := 3) (A := A) (B := pl I0 f many 0 (A ++ [nv I0 2 + j])) (hl.ko k2) h0 hA (by rw [pl_len]) (by omega) p2 (by omega) hAb (fun k hk => absurd hk (by rw [pl_len]; omega)) (fun I4 z1 => hq' I4 (k2.tr (pC24 z1)) (fun o o1 o2 => ?_) ?_ ?_)
      · have := z1 o (by simp [p24]; omega)
        rw [this, gm_u_ne _ _ _ (by omega)]
        exact kl o o1 o2
      · rw [z1 34 rfl]; rfl
      · intro k hk
        rw [z1 30 rfl]; exact p2 k hk
    refine j_whole l1 h0 hj (br_c (fun z => ?_) (fun z => e4 _ (fun I4 w1 w2 w3 w4 => ?_)))
    · obtain ⟨m1, m2, m3⟩ := MX_no mx FB whB z shr_le
      refine ih I' x k1 kl pk m1 (fun _ => ?_)
      rw [Nat.add_sub_cancel, m3]
      exact kp m2
    · have pk4 : PK I4 A := fun k hk => by
        rw [w4 k (by rw [List.length_append]; omega), gD_l hk]
      refine br_c (fun z2 => ?_) (fun z2 => ?_)
      · obtain ⟨m1, m2, m3⟩ := MX_no mx FB (FB j) z2 (Nat.le_refl _)
        refine ih I4 x w1 w2 pk4 m1 (fun _ => ?_)
        rw [Nat.add_sub_cancel, m3, w3]
        exact kp m2
      · obtain ⟨m1, m2⟩ := MX_yes mx FB z2
        refine ih _ _ (KO.up rfl w1) (fun o o1 o2 => ?_) (fun k hk => ?_) m1 (fun _ k hk => ?_)
        · show (if o = 34 then _ else I4 o) = _
          rw [if_neg (by omega)]
          exact w2 o o1 o2
        · exact pk4 k hk
        · rw [Nat.add_sub_cancel, m2]
          show va_cpy (I4 30) (I4 34) 2 2 1 (2 + k) = _
          rw [pk_cpy_in (by omega) (by omega), show 2 + (2 + k - 2) = A.length + k by omega, w4 _ (by rw [List.length_append, List.length_cons, pl_len]; omega), gD_r]
theorem j_choose_0_2 {I0 : mI} {f : Nat → Nat} {many : Nat} {A : List Nat} {Q : mI → mL → gm_cfg → Prop} (hl : LD I L I0 f many) (h0 : FM I0) (hf : sN f (gw I0) < 2 ^ 62) (hA : A.length = 0) (hAb : ∀ k, k < A.length → A.getD k 0 ≤ 2000) (hp : PK I A) (hq : ∀ I' : mI, KO pC I I' → (∀ o, 32 ≤ o → o < 32 → I' o = I o) → PK I' (A ++ pl I0 f many 2 A) → Q I' L c) : C_Wr_choose_29_0_2 g I L c Q := by
  have hLo := gLo h0
  have hHi := gHi h0
  have hb := gw_b h0
  have eW : nv I0 2 + gw I0 = nv I0 3 + 1 := by show nv I0 2 + (nv I0 3 - nv I0 2 + 1) = _; omega
  refine e_Wr_choose_29_0_2 ?_
  have FB := Fr_b (I0 := I0) (f := f) (many := many) (r := 1) (A := A) hf
  have key := lp0 (P := fun j => ∀ (I' : mI) (x : Int64), KO pC I I' → (∀ o, 32 ≤ o → o < 32 → I' o = I o) → PK I' A → MX (Fr I0 f many 1 A) j x → (1 ≤ j → ∀ k, k < 2 → I' 32 (0 + k) = nI (((nv I0 2 + ag (Fr I0 f many 1 A) (j - 1)) :: pl I0 f many 1 (A ++ [nv I0 2 + ag (Fr I0 f many 1 A) (j - 1)])).getD k 0)) → Z_Wr_choose_29_0_2 g Q 22 [(0, .ref 29), (1, .int 0), (2, .int 2), (3, .long x), (5, .int (nI j))] [] I' L c) (gw I0) ?_ ?_
  · exact key I (-1) KO.rf (fun _ _ _ => rfl) hp (Or.inl ⟨rfl, rfl⟩) (fun q => absurd q (by omega))
  · intro I' x k1 kl pk mx kp
    have e23 : I' 23 7 = nI (gw I0) := by rw [k1 23 rfl]; exact hl.2.2.1
    refine r_Wr_choose_29_0_2_22 (br_t (by rw [e23]; exact nI_le (Nat.le_refl _) (by omega)) (hq _ (KO.up rfl k1) (fun o o1 o2 => ?_) (fun k hk => ?_)))
    · show (if o = 30 then _ else I' o) = _
      rw [if_neg (by omega)]
      exact kl o o1 o2
    · rw [List.length_append, pl_len, hA] at hk
      show va_cpy (I' 32) (I' 30) 0 0 2 k = _
      rcases Nat.lt_or_ge k 0 with z | z
      · rw [pk_cpy_out (by omega), pk k (by omega), gD_l (by omega)]
      · rw [pk_cpy_in z (by omega), show 0 + (k - 0) = 0 + (k - A.length) by omega, kp (by omega) (k - A.length) (by omega), show (A ++ pl I0 f many 2 A).getD k 0 = (pl I0 f many 2 A).getD (k - A.length) 0 by
          have := gD_r (A := A) (B := pl I0 f many 2 A) (k := k - A.length)
          rw [show A.length + (k - A.length) = k by omega] at this
          exact this]
        rfl
  · intro j hj ih I' x k1 kl pk mx kp
    have e23 : I' 23 7 = nI (gw I0) := by rw [k1 23 rfl]; exact hl.2.2.1
    have l1 := hl.ko k1
    have n1 : nv I' = nv I0 := nv_60 l1.2.1
    have e16 : I' 16 0 = nI (nv I0 2) := by rw [← n1]; exact (fLo l1.1).2.2.2
    refine r_Wr_choose_29_0_2_22 (br_f (by rw [e23]; exact nI_ge hj (by omega)) (e_Sr_low ?_))
    rw [e16, nI_add, nI_1]
    have k2 : KO pC I (gm_u I' 30 0 (nI (nv I0 2 + j))) := KO.u rfl k1
    have p2 : ∀ k, k < 1 → (gm_u I' 30 0 (nI (nv I0 2 + j))) 30 k = nI ((A ++ (nv I0 2 + j) :: pl I0 f many 1 (A ++ [nv I0 2 + j])).getD k 0) := by
      intro k hk
      skip
      rcases Nat.lt_or_ge k A.length with z | z
      · rw [gm_u_ne2 _ _ _ _ (by omega), pk k z, gD_l z]
      · have ek : k = A.length + 0 := by omega
        have ek2 : k = 0 := by omega
        rw [show (A ++ (nv I0 2 + j) :: pl I0 f many 1 (A ++ [nv I0 2 + j])).getD k 0 = nv I0 2 + j by rw [ek, gD_r]; rfl, ek2, gm_u_eq]
    have whB : shr I0 f many (nv I0 2 + j) [] [] < 2 ^ 62 := by have : shr I0 f many (nv I0 2 + j) [] [] ≤ sN f (gw I0) := shr_b; omega
    have e4 : ∀ (Q' : Int64 → mI → mL → gm_cfg → Prop), (∀ I4 : mI, KO pC I I4 → (∀ o, 32 ≤ o → o < 32 → I4 o = I o) → I4 32 = I' 32 → PK I4 (A ++ (nv I0 2 + j) :: pl I0 f many 1 (A ++ [nv I0 2 + j])) → Q' (lN (Fr I0 f many 1 A j)) I4 L c) → C_Wr_choose_29_1_2 g (gm_u I' 30 0 (nI (nv I0 2 + j))) L c (fun I9 L10 c11 => C_Wr_shareOf g 0 2 I9 L10 c11 Q') := by
      intro Q' hq'
      have lA : (A ++ [nv I0 2 + j]).length = 1 := by rw [List.length_append, hA]; rfl
      refine j_choose_1_2 (A := A ++ [nv I0 2 + j]) (hl.ko k2) h0 hf lA ?_ ?_ (fun I3 y1 y2 y3 => ?_)
      · intro k hk
        rcases Nat.lt_or_ge k A.length with z | z
        · rw [gD_l z]; exact hAb k z
        · rw [lA] at hk
          rw [show k = A.length + 0 by omega, gD_r]
          show nv I0 2 + j ≤ 2000
          omega
      · intro k hk
        rw [lA] at hk
        have := p2 k hk
        rw [this]
        rcases Nat.lt_or_ge k A.length with z | z
        · rw [gD_l z, gD_l z]
        · rw [show k = A.length + 0 by omega, gD_r, gD_r]; rfl
      · have y4 : PK I3 (A ++ (nv I0 2 + j) :: pl I0 f many 1 (A ++ [nv I0 2 + j])) := by
          rw [List.append_assoc] at y3
          exact y3
        refine j_share (i := 0) (n := 2) (A := A) (B := pl I0 f many 1 (A ++ [nv I0 2 + j])) ((hl.ko k2).ko y1) h0 hA (by rw [pl_len]) (by omega) y4 (by omega) hAb (fun k hk => ?_) (fun I4 z1 => hq' I4 ((k2.tr y1).tr (pC24 z1)) (fun o o1 o2 => ?_) ?_ ?_)
        · have := (pl_b h0 (f := f) (many := many) 1 (A ++ [nv I0 2 + j]) k (by rw [pl_len] at hk; exact hk)).2
          omega
        · have := z1 o (by simp [p24]; omega)
          rw [this, y2 o o1 (by omega), gm_u_ne _ _ _ (by omega)]
          exact kl o o1 o2
        · rw [z1 32 rfl, y2 32 (by omega) (by omega)]; rfl
        · intro k hk
          rw [z1 30 rfl]; exact y4 k hk
    refine j_whole l1 h0 hj (br_c (fun z => ?_) (fun z => e4 _ (fun I4 w1 w2 w3 w4 => ?_)))
    · obtain ⟨m1, m2, m3⟩ := MX_no mx FB whB z shr_le
      refine ih I' x k1 kl pk m1 (fun _ => ?_)
      rw [Nat.add_sub_cancel, m3]
      exact kp m2
    · have pk4 : PK I4 A := fun k hk => by
        rw [w4 k (by rw [List.length_append]; omega), gD_l hk]
      refine br_c (fun z2 => ?_) (fun z2 => ?_)
      · obtain ⟨m1, m2, m3⟩ := MX_no mx FB (FB j) z2 (Nat.le_refl _)
        refine ih I4 x w1 w2 pk4 m1 (fun _ => ?_)
        rw [Nat.add_sub_cancel, m3, w3]
        exact kp m2
      · obtain ⟨m1, m2⟩ := MX_yes mx FB z2
        refine ih _ _ (KO.up rfl w1) (fun o o1 o2 => ?_) (fun k hk => ?_) m1 (fun _ k hk => ?_)
        · show (if o = 32 then _ else I4 o) = _
          rw [if_neg (by omega)]
          exact w2 o o1 o2
        · exact pk4 k hk
        · rw [Nat.add_sub_cancel, m2]
          show va_cpy (I4 30) (I4 32) 0 0 2 (0 + k) = _
          rw [pk_cpy_in (by omega) (by omega), show 0 + (0 + k - 0) = A.length + k by omega, w4 _ (by rw [List.length_append, List.length_cons, pl_len]; omega), gD_r]
theorem j_choose_1_3 {I0 : mI} {f : Nat → Nat} {many : Nat} {A : List Nat} {Q : mI → mL → gm_cfg → Prop} (hl : LD I L I0 f many) (h0 : FM I0) (hf : sN f (gw I0) < 2 ^ 62) (hA : A.length = 1) (hAb : ∀ k, k < A.length → A.getD k 0 ≤ 2000) (hp : PK I A) (hq : ∀ I' : mI, KO pC I I' → (∀ o, 32 ≤ o → o < 33 → I' o = I o) → PK I' (A ++ pl I0 f many 2 A) → Q I' L c) : C_Wr_choose_29_1_3 g I L c Q := by
  have hLo := gLo h0
  have hHi := gHi h0
  have hb := gw_b h0
  have eW : nv I0 2 + gw I0 = nv I0 3 + 1 := by show nv I0 2 + (nv I0 3 - nv I0 2 + 1) = _; omega
  refine e_Wr_choose_29_1_3 ?_
  have FB := Fr_b (I0 := I0) (f := f) (many := many) (r := 1) (A := A) hf
  have key := lp0 (P := fun j => ∀ (I' : mI) (x : Int64), KO pC I I' → (∀ o, 32 ≤ o → o < 33 → I' o = I o) → PK I' A → MX (Fr I0 f many 1 A) j x → (1 ≤ j → ∀ k, k < 2 → I' 33 (1 + k) = nI (((nv I0 2 + ag (Fr I0 f many 1 A) (j - 1)) :: pl I0 f many 1 (A ++ [nv I0 2 + ag (Fr I0 f many 1 A) (j - 1)])).getD k 0)) → Z_Wr_choose_29_1_3 g Q 22 [(0, .ref 29), (1, .int 1), (2, .int 3), (3, .long x), (5, .int (nI j))] [] I' L c) (gw I0) ?_ ?_
  · exact key I (-1) KO.rf (fun _ _ _ => rfl) hp (Or.inl ⟨rfl, rfl⟩) (fun q => absurd q (by omega))
  · intro I' x k1 kl pk mx kp
    have e23 : I' 23 7 = nI (gw I0) := by rw [k1 23 rfl]; exact hl.2.2.1
    refine r_Wr_choose_29_1_3_22 (br_t (by rw [e23]; exact nI_le (Nat.le_refl _) (by omega)) (hq _ (KO.up rfl k1) (fun o o1 o2 => ?_) (fun k hk => ?_)))
    · show (if o = 30 then _ else I' o) = _
      rw [if_neg (by omega)]
      exact kl o o1 o2
    · rw [List.length_append, pl_len, hA] at hk
      show va_cpy (I' 33) (I' 30) 1 1 2 k = _
      rcases Nat.lt_or_ge k 1 with z | z
      · rw [pk_cpy_out (by omega), pk k (by omega), gD_l (by omega)]
      · rw [pk_cpy_in z (by omega), show 1 + (k - 1) = 1 + (k - A.length) by omega, kp (by omega) (k - A.length) (by omega), show (A ++ pl I0 f many 2 A).getD k 0 = (pl I0 f many 2 A).getD (k - A.length) 0 by
          have := gD_r (A := A) (B := pl I0 f many 2 A) (k := k - A.length)
          rw [show A.length + (k - A.length) = k by omega] at this
          exact this]
        rfl
  · intro j hj ih I' x k1 kl pk mx kp
    have e23 : I' 23 7 = nI (gw I0) := by rw [k1 23 rfl]; exact hl.2.2.1
    have l1 := hl.ko k1
    have n1 : nv I' = nv I0 := nv_60 l1.2.1
    have e16 : I' 16 0 = nI (nv I0 2) := by rw [← n1]; exact (fLo l1.1).2.2.2
    refine r_Wr_choose_29_1_3_22 (br_f (by rw [e23]; exact nI_ge hj (by omega)) (e_Sr_low ?_))
    rw [e16, nI_add, nI_1]
    have k2 : KO pC I (gm_u I' 30 1 (nI (nv I0 2 + j))) := KO.u rfl k1
    have p2 : ∀ k, k < 2 → (gm_u I' 30 1 (nI (nv I0 2 + j))) 30 k = nI ((A ++ (nv I0 2 + j) :: pl I0 f many 1 (A ++ [nv I0 2 + j])).getD k 0) := by
      intro k hk
      skip
      rcases Nat.lt_or_ge k A.length with z | z
      · rw [gm_u_ne2 _ _ _ _ (by omega), pk k z, gD_l z]
      · have ek : k = A.length + 0 := by omega
        have ek2 : k = 1 := by omega
        rw [show (A ++ (nv I0 2 + j) :: pl I0 f many 1 (A ++ [nv I0 2 + j])).getD k 0 = nv I0 2 + j by rw [ek, gD_r]; rfl, ek2, gm_u_eq]
    have whB : shr I0 f many (nv I0 2 + j) [] [] < 2 ^ 62 := by have : shr I0 f many (nv I0 2 + j) [] [] ≤ sN f (gw I0) := shr_b; omega
    have e4 : ∀ (Q' : Int64 → mI → mL → gm_cfg → Prop), (∀ I4 : mI, KO pC I I4 → (∀ o, 32 ≤ o → o < 33 → I4 o = I o) → I4 33 = I' 33 → PK I4 (A ++ (nv I0 2 + j) :: pl I0 f many 1 (A ++ [nv I0 2 + j])) → Q' (lN (Fr I0 f many 1 A j)) I4 L c) → C_Wr_choose_29_2_3 g (gm_u I' 30 1 (nI (nv I0 2 + j))) L c (fun I9 L10 c11 => C_Wr_shareOf g 1 3 I9 L10 c11 Q') := by
      intro Q' hq'
      have lA : (A ++ [nv I0 2 + j]).length = 2 := by rw [List.length_append, hA]; rfl
      refine j_choose_2_3 (A := A ++ [nv I0 2 + j]) (hl.ko k2) h0 hf lA ?_ ?_ (fun I3 y1 y2 y3 => ?_)
      · intro k hk
        rcases Nat.lt_or_ge k A.length with z | z
        · rw [gD_l z]; exact hAb k z
        · rw [lA] at hk
          rw [show k = A.length + 0 by omega, gD_r]
          show nv I0 2 + j ≤ 2000
          omega
      · intro k hk
        rw [lA] at hk
        have := p2 k hk
        rw [this]
        rcases Nat.lt_or_ge k A.length with z | z
        · rw [gD_l z, gD_l z]
        · rw [show k = A.length + 0 by omega, gD_r, gD_r]; rfl
      · have y4 : PK I3 (A ++ (nv I0 2 + j) :: pl I0 f many 1 (A ++ [nv I0 2 + j])) := by
          rw [List.append_assoc] at y3
          exact y3
        refine j_share (i := 1) (n := 3) (A := A) (B := pl I0 f many 1 (A ++ [nv I0 2 + j])) ((hl.ko k2).ko y1) h0 hA (by rw [pl_len]) (by omega) y4 (by omega) hAb (fun k hk => ?_) (fun I4 z1 => hq' I4 ((k2.tr y1).tr (pC24 z1)) (fun o o1 o2 => ?_) ?_ ?_)
        · have := (pl_b h0 (f := f) (many := many) 1 (A ++ [nv I0 2 + j]) k (by rw [pl_len] at hk; exact hk)).2
          omega
        · have := z1 o (by simp [p24]; omega)
          rw [this, y2 o o1 (by omega), gm_u_ne _ _ _ (by omega)]
          exact kl o o1 o2
        · rw [z1 33 rfl, y2 33 (by omega) (by omega)]; rfl
        · intro k hk
          rw [z1 30 rfl]; exact y4 k hk
    refine j_whole l1 h0 hj (br_c (fun z => ?_) (fun z => e4 _ (fun I4 w1 w2 w3 w4 => ?_)))
    · obtain ⟨m1, m2, m3⟩ := MX_no mx FB whB z shr_le
      refine ih I' x k1 kl pk m1 (fun _ => ?_)
      rw [Nat.add_sub_cancel, m3]
      exact kp m2
    · have pk4 : PK I4 A := fun k hk => by
        rw [w4 k (by rw [List.length_append]; omega), gD_l hk]
      refine br_c (fun z2 => ?_) (fun z2 => ?_)
      · obtain ⟨m1, m2, m3⟩ := MX_no mx FB (FB j) z2 (Nat.le_refl _)
        refine ih I4 x w1 w2 pk4 m1 (fun _ => ?_)
        rw [Nat.add_sub_cancel, m3, w3]
        exact kp m2
      · obtain ⟨m1, m2⟩ := MX_yes mx FB z2
        refine ih _ _ (KO.up rfl w1) (fun o o1 o2 => ?_) (fun k hk => ?_) m1 (fun _ k hk => ?_)
        · show (if o = 33 then _ else I4 o) = _
          rw [if_neg (by omega)]
          exact w2 o o1 o2
        · exact pk4 k hk
        · rw [Nat.add_sub_cancel, m2]
          show va_cpy (I4 30) (I4 33) 1 1 2 (1 + k) = _
          rw [pk_cpy_in (by omega) (by omega), show 1 + (1 + k - 1) = A.length + k by omega, w4 _ (by rw [List.length_append, List.length_cons, pl_len]; omega), gD_r]
theorem j_choose_0_3 {I0 : mI} {f : Nat → Nat} {many : Nat} {A : List Nat} {Q : mI → mL → gm_cfg → Prop} (hl : LD I L I0 f many) (h0 : FM I0) (hf : sN f (gw I0) < 2 ^ 62) (hA : A.length = 0) (hAb : ∀ k, k < A.length → A.getD k 0 ≤ 2000) (hp : PK I A) (hq : ∀ I' : mI, KO pC I I' → (∀ o, 32 ≤ o → o < 32 → I' o = I o) → PK I' (A ++ pl I0 f many 3 A) → Q I' L c) : C_Wr_choose_29_0_3 g I L c Q := by
  have hLo := gLo h0
  have hHi := gHi h0
  have hb := gw_b h0
  have eW : nv I0 2 + gw I0 = nv I0 3 + 1 := by show nv I0 2 + (nv I0 3 - nv I0 2 + 1) = _; omega
  refine e_Wr_choose_29_0_3 ?_
  have FB := Fr_b (I0 := I0) (f := f) (many := many) (r := 2) (A := A) hf
  have key := lp0 (P := fun j => ∀ (I' : mI) (x : Int64), KO pC I I' → (∀ o, 32 ≤ o → o < 32 → I' o = I o) → PK I' A → MX (Fr I0 f many 2 A) j x → (1 ≤ j → ∀ k, k < 3 → I' 32 (0 + k) = nI (((nv I0 2 + ag (Fr I0 f many 2 A) (j - 1)) :: pl I0 f many 2 (A ++ [nv I0 2 + ag (Fr I0 f many 2 A) (j - 1)])).getD k 0)) → Z_Wr_choose_29_0_3 g Q 22 [(0, .ref 29), (1, .int 0), (2, .int 3), (3, .long x), (5, .int (nI j))] [] I' L c) (gw I0) ?_ ?_
  · exact key I (-1) KO.rf (fun _ _ _ => rfl) hp (Or.inl ⟨rfl, rfl⟩) (fun q => absurd q (by omega))
  · intro I' x k1 kl pk mx kp
    have e23 : I' 23 7 = nI (gw I0) := by rw [k1 23 rfl]; exact hl.2.2.1
    refine r_Wr_choose_29_0_3_22 (br_t (by rw [e23]; exact nI_le (Nat.le_refl _) (by omega)) (hq _ (KO.up rfl k1) (fun o o1 o2 => ?_) (fun k hk => ?_)))
    · show (if o = 30 then _ else I' o) = _
      rw [if_neg (by omega)]
      exact kl o o1 o2
    · rw [List.length_append, pl_len, hA] at hk
      show va_cpy (I' 32) (I' 30) 0 0 3 k = _
      rcases Nat.lt_or_ge k 0 with z | z
      · rw [pk_cpy_out (by omega), pk k (by omega), gD_l (by omega)]
      · rw [pk_cpy_in z (by omega), show 0 + (k - 0) = 0 + (k - A.length) by omega, kp (by omega) (k - A.length) (by omega), show (A ++ pl I0 f many 3 A).getD k 0 = (pl I0 f many 3 A).getD (k - A.length) 0 by
          have := gD_r (A := A) (B := pl I0 f many 3 A) (k := k - A.length)
          rw [show A.length + (k - A.length) = k by omega] at this
          exact this]
        rfl
  · intro j hj ih I' x k1 kl pk mx kp
    have e23 : I' 23 7 = nI (gw I0) := by rw [k1 23 rfl]; exact hl.2.2.1
    have l1 := hl.ko k1
    have n1 : nv I' = nv I0 := nv_60 l1.2.1
    have e16 : I' 16 0 = nI (nv I0 2) := by rw [← n1]; exact (fLo l1.1).2.2.2
    refine r_Wr_choose_29_0_3_22 (br_f (by rw [e23]; exact nI_ge hj (by omega)) (e_Sr_low ?_))
    rw [e16, nI_add, nI_1]
    have k2 : KO pC I (gm_u I' 30 0 (nI (nv I0 2 + j))) := KO.u rfl k1
    have p2 : ∀ k, k < 1 → (gm_u I' 30 0 (nI (nv I0 2 + j))) 30 k = nI ((A ++ (nv I0 2 + j) :: pl I0 f many 2 (A ++ [nv I0 2 + j])).getD k 0) := by
      intro k hk
      skip
      rcases Nat.lt_or_ge k A.length with z | z
      · rw [gm_u_ne2 _ _ _ _ (by omega), pk k z, gD_l z]
      · have ek : k = A.length + 0 := by omega
        have ek2 : k = 0 := by omega
        rw [show (A ++ (nv I0 2 + j) :: pl I0 f many 2 (A ++ [nv I0 2 + j])).getD k 0 = nv I0 2 + j by rw [ek, gD_r]; rfl, ek2, gm_u_eq]
    have whB : shr I0 f many (nv I0 2 + j) [] [] < 2 ^ 62 := by have : shr I0 f many (nv I0 2 + j) [] [] ≤ sN f (gw I0) := shr_b; omega
    have e4 : ∀ (Q' : Int64 → mI → mL → gm_cfg → Prop), (∀ I4 : mI, KO pC I I4 → (∀ o, 32 ≤ o → o < 32 → I4 o = I o) → I4 32 = I' 32 → PK I4 (A ++ (nv I0 2 + j) :: pl I0 f many 2 (A ++ [nv I0 2 + j])) → Q' (lN (Fr I0 f many 2 A j)) I4 L c) → C_Wr_choose_29_1_3 g (gm_u I' 30 0 (nI (nv I0 2 + j))) L c (fun I9 L10 c11 => C_Wr_shareOf g 0 3 I9 L10 c11 Q') := by
      intro Q' hq'
      have lA : (A ++ [nv I0 2 + j]).length = 1 := by rw [List.length_append, hA]; rfl
      refine j_choose_1_3 (A := A ++ [nv I0 2 + j]) (hl.ko k2) h0 hf lA ?_ ?_ (fun I3 y1 y2 y3 => ?_)
      · intro k hk
        rcases Nat.lt_or_ge k A.length with z | z
        · rw [gD_l z]; exact hAb k z
        · rw [lA] at hk
          rw [show k = A.length + 0 by omega, gD_r]
          show nv I0 2 + j ≤ 2000
          omega
      · intro k hk
        rw [lA] at hk
        have := p2 k hk
        rw [this]
        rcases Nat.lt_or_ge k A.length with z | z
        · rw [gD_l z, gD_l z]
        · rw [show k = A.length + 0 by omega, gD_r, gD_r]; rfl
      · have y4 : PK I3 (A ++ (nv I0 2 + j) :: pl I0 f many 2 (A ++ [nv I0 2 + j])) := by
          rw [List.append_assoc] at y3
          exact y3
        refine j_share (i := 0) (n := 3) (A := A) (B := pl I0 f many 2 (A ++ [nv I0 2 + j])) ((hl.ko k2).ko y1) h0 hA (by rw [pl_len]) (by omega) y4 (by omega) hAb (fun k hk => ?_) (fun I4 z1 => hq' I4 ((k2.tr y1).tr (pC24 z1)) (fun o o1 o2 => ?_) ?_ ?_)
        · have := (pl_b h0 (f := f) (many := many) 2 (A ++ [nv I0 2 + j]) k (by rw [pl_len] at hk; exact hk)).2
          omega
        · have := z1 o (by simp [p24]; omega)
          rw [this, y2 o o1 (by omega), gm_u_ne _ _ _ (by omega)]
          exact kl o o1 o2
        · rw [z1 32 rfl, y2 32 (by omega) (by omega)]; rfl
        · intro k hk
          rw [z1 30 rfl]; exact y4 k hk
    refine j_whole l1 h0 hj (br_c (fun z => ?_) (fun z => e4 _ (fun I4 w1 w2 w3 w4 => ?_)))
    · obtain ⟨m1, m2, m3⟩ := MX_no mx FB whB z shr_le
      refine ih I' x k1 kl pk m1 (fun _ => ?_)
      rw [Nat.add_sub_cancel, m3]
      exact kp m2
    · have pk4 : PK I4 A := fun k hk => by
        rw [w4 k (by rw [List.length_append]; omega), gD_l hk]
      refine br_c (fun z2 => ?_) (fun z2 => ?_)
      · obtain ⟨m1, m2, m3⟩ := MX_no mx FB (FB j) z2 (Nat.le_refl _)
        refine ih I4 x w1 w2 pk4 m1 (fun _ => ?_)
        rw [Nat.add_sub_cancel, m3, w3]
        exact kp m2
      · obtain ⟨m1, m2⟩ := MX_yes mx FB z2
        refine ih _ _ (KO.up rfl w1) (fun o o1 o2 => ?_) (fun k hk => ?_) m1 (fun _ k hk => ?_)
        · show (if o = 32 then _ else I4 o) = _
          rw [if_neg (by omega)]
          exact w2 o o1 o2
        · exact pk4 k hk
        · rw [Nat.add_sub_cancel, m2]
          show va_cpy (I4 30) (I4 32) 0 0 3 (0 + k) = _
          rw [pk_cpy_in (by omega) (by omega), show 0 + (0 + k - 0) = A.length + k by omega, w4 _ (by rw [List.length_append, List.length_cons, pl_len]; omega), gD_r]
end Ch
