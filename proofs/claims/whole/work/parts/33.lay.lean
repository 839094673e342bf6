/-! what numbers of the grid would win, laid ready -/
/-- v wins t behind the first many of the list, behind all of A, ahead of all of B -/
def okb (I : mI) (many v t : Nat) (A B : List Nat) : Bool := decide (ad v t < ne (nu I) t many) && (decide (∀ k, k < A.length → ad v t < ad (A.getD k 0) t) && decide (∀ k, k < B.length → ad v t ≤ ad (B.getD k 0) t))
theorem okb_iff {I : mI} {many v t : Nat} {A B : List Nat} : okb I many v t A B = true ↔ ad v t < ne (nu I) t many ∧ (∀ k, k < A.length → ad v t < ad (A.getD k 0) t) ∧ (∀ k, k < B.length → ad v t ≤ ad (B.getD k 0) t) := by
  unfold okb
  rw [Bool.and_eq_true, Bool.and_eq_true, decide_eq_true_iff, decide_eq_true_iff, decide_eq_true_iff]
/-- what v wins, in ways f -/
def shr (I : mI) (f : Nat → Nat) (many v : Nat) (A B : List Nat) : Nat := sN (fun i => if okb I many v (nv I 2 + i) A B = true then f i else 0) (gw I)
theorem sN_le2 {f f' : Nat → Nat} : ∀ n, (∀ i, i < n → f i ≤ f' i) → sN f n ≤ sN f' n
  | 0, _ => Nat.le_refl _
  | n + 1, h => by
    have h1 := sN_le2 n (fun i hi => h i (by omega))
    have h2 := h n (by omega)
    show sN f n + f n ≤ sN f' n + f' n
    omega
theorem shr_le {I : mI} {f : Nat → Nat} {many v : Nat} {A B : List Nat} : shr I f many v A B ≤ shr I f many v [] [] := by
  refine sN_le2 _ (fun i _ => ?_)
  by_cases q : okb I many v (nv I 2 + i) A B = true
  · have q2 : okb I many v (nv I 2 + i) [] [] = true := okb_iff.mpr ⟨(okb_iff.mp q).1, fun k hk => absurd hk (Nat.not_lt_zero k), fun k hk => absurd hk (Nat.not_lt_zero k)⟩
    rw [if_pos q, if_pos q2]
    exact Nat.le_refl _
  · rw [if_neg q]
    exact Nat.zero_le _
theorem shr_b {I : mI} {f : Nat → Nat} {many v : Nat} {A B : List Nat} : shr I f many v A B ≤ sN f (gw I) := by
  refine sN_le2 _ (fun i _ => ?_)
  split
  · exact Nat.le_refl _
  · exact Nat.zero_le _
/-- those behind write one after the other, each the first of the best -/
def pl (I : mI) (f : Nat → Nat) (many : Nat) : Nat → List Nat → List Nat
  | 0, _ => []
  | r + 1, A => (nv I 2 + ag (fun j => shr I f many (nv I 2 + j) A (pl I f many r (A ++ [nv I 2 + j]))) (gw I - 1)) :: pl I f many r (A ++ [nv I 2 + ag (fun j => shr I f many (nv I 2 + j) A (pl I f many r (A ++ [nv I 2 + j]))) (gw I - 1)])
/-- what the j-th number of the grid wins if r write behind it -/
def Fr (I : mI) (f : Nat → Nat) (many r : Nat) (A : List Nat) (j : Nat) : Nat := shr I f many (nv I 2 + j) A (pl I f many r (A ++ [nv I 2 + j]))
def bst (I : mI) (f : Nat → Nat) (many r : Nat) (A : List Nat) : Nat := nv I 2 + ag (Fr I f many r A) (gw I - 1)
theorem pl_s {I : mI} {f : Nat → Nat} {many r : Nat} {A : List Nat} : pl I f many (r + 1) A = bst I f many r A :: pl I f many r (A ++ [bst I f many r A]) := rfl
theorem pl_len {I : mI} {f : Nat → Nat} {many : Nat} : ∀ r A, (pl I f many r A).length = r
  | 0, _ => rfl
  | r + 1, A => by rw [pl_s, List.length_cons, pl_len r]
theorem bst_b {I : mI} (h : FM I) {f : Nat → Nat} {many r : Nat} {A : List Nat} : nv I 2 ≤ bst I f many r A ∧ bst I f many r A ≤ nv I 3 := by
  have h1 := gHi h
  have := ag_le (Fr I f many r A) (gw I - 1)
  have e : gw I = nv I 3 - nv I 2 + 1 := rfl
  unfold bst
  omega
theorem pl_b {I : mI} (h : FM I) {f : Nat → Nat} {many : Nat} : ∀ r A k, k < r → nv I 2 ≤ (pl I f many r A).getD k 0 ∧ (pl I f many r A).getD k 0 ≤ nv I 3
  | 0, _, k, hk => absurd hk (Nat.not_lt_zero k)
  | r + 1, A, k, hk => by
    rw [pl_s]
    match k with
    | 0 => exact bst_b h
    | k + 1 => exact pl_b h r _ k (by omega)
/-- laid -/
def LD (I : mI) (L : mL) (I0 : mI) (f : Nat → Nat) (many : Nat) : Prop := FS0 I ∧ I 60 = I0 60 ∧ I 23 7 = nI (gw I0) ∧ BL L f (gw I0) ∧ (∀ i, i < gw I0 → ∃ F T, I 26 i = nI F ∧ I 27 i = nI T ∧ RS F T (Sb I0 (nv I0 2 + i) many)) ∧ (∀ i, i < gw I0 → L 28 i = lN (shr I0 f many (nv I0 2 + i) [] []))
/-- cells that laying and playing leave -/
def pC (o : Nat) : Bool := o != 24 && o != 30 && o != 32 && o != 33 && o != 34
theorem perC (o k : Nat) (q : per o k = true) : pC o = true := by
  have h : ∀ n, (n = 24 ∨ n = 30 ∨ n = 32 ∨ n = 33 ∨ n = 34) → o ≠ n := by
    intro n hn e
    subst e
    rcases hn with rfl | rfl | rfl | rfl | rfl <;> cases q
  simp [pC, h 24 (by omega), h 30 (by omega), h 32 (by omega), h 33 (by omega), h 34 (by omega)]
theorem pC24 {I I' : mI} (h : KO p24 I I') : KO pC I I' := fun o q => h o (by
  simp [pC] at q
  simp [p24]
  omega)
theorem LD.ko {I I' : mI} {L : mL} {I0 : mI} {f : Nat → Nat} {many : Nat} (h : LD I L I0 f many) (k : KO pC I I') : LD I' L I0 f many := by
  obtain ⟨a1, a2, a3, a4, a5, a6⟩ := h
  refine ⟨FS0.k a1 (Keep.o (L := L) k perC), (k 60 rfl).trans a2, by rw [k 23 rfl]; exact a3, a4, fun i hi => ?_, a6⟩
  rw [k 26 rfl, k 27 rfl]
  exact a5 i hi
section La
variable {g : gm_G} {I : mI} {L : mL} {c : gm_cfg}
theorem Sb_ok {I0 : mI} (h : FM I0) {v many x : Nat} (hv : v ≤ 2000) (hx : x < gw I0) : Sb I0 v many (nv I0 2 + x) ↔ ad v (nv I0 2 + x) < ne (nu I0) (nv I0 2 + x) many := by
  have hLo := gLo h
  have hHi := gHi h
  have eW : nv I0 2 + gw I0 = nv I0 3 + 1 := by show nv I0 2 + (nv I0 3 - nv I0 2 + 1) = _; omega
  rw [ne_lt (by unfold ad; omega)]
  exact ⟨fun q => q.2, fun q => ⟨by omega, q⟩⟩
/-- what laying leaves -/
def pY (o : Nat) : Bool := o != 23 && o != 24 && o != 26 && o != 27
def pYL (o : Nat) : Bool := o != 25 && o != 28
theorem perY (o k : Nat) (q : per o k = true) : pY o = true := by
  have h : ∀ n, (n = 23 ∨ n = 24 ∨ n = 26 ∨ n = 27) → o ≠ n := by
    intro n hn e
    subst e
    rcases hn with rfl | rfl | rfl | rfl <;> cases q
  simp [pY, h 23 (by omega), h 24 (by omega), h 26 (by omega), h 27 (by omega)]
theorem j_lay {Q : mI → mL → gm_cfg → Prop} {m many : Nat} (h : FS0 I) (h0 : L 25 0 = 0) (hm : m ≤ nv I 1) (hn : many ≤ nv I 1) (hq : ∀ (I1 : mI) (L1 : mL), LD I1 L1 I (ws I none m) many → KO pY I I1 → KO pYL L L1 → L1 25 0 = L 25 0 → Q I1 L1 c) : C_Sr_lay g (nI m) (nI many) I L c Q := by
  have hLo := fLo h
  have hHi := fHi h
  have hG := fG h
  have hb := gw_b (FS0.m h)
  have eW : nv I 2 + gw I = nv I 3 + 1 := by show nv I 2 + (nv I 3 - nv I 2 + 1) = _; omega
  refine e_Sr_lay (j_weigh h h0 hm (fun L1 a1 a2 => ?_))
  have a10 : L1 25 0 = L 25 0 := by rw [a1 0 (Nat.zero_le _), h0]; rfl
  have key := lp0 (P := fun i => ∀ (I2 : mI) (L2 : mL), KO pY I I2 → I2 23 7 = nI (gw I) → KO pYL L1 L2 → L2 25 = L1 25 → (∀ j, j < i → ∃ F T, I2 26 j = nI F ∧ I2 27 j = nI T ∧ RS F T (Sb I (nv I 2 + j) many)) → (∀ j, j < i → L2 28 j = lN (shr I (ws I none m) many (nv I 2 + j) [] [])) → Z_Sr_lay g Q 7 [(0, .ref 23), (1, .int (nI m)), (2, .int (nI many)), (3, .int (nI i))] [] I2 L2 c) (gw I) ?_ ?_
  · exact key _ _ (KO.u rfl KO.rf) rfl KO.rf rfl (fun j hj => absurd hj (by omega)) (fun j hj => absurd hj (by omega))
  · intro I2 L2 b1 b2 b3 b4 b5 b6
    refine r_Sr_lay_7 (br_t (by rw [b2]; exact nI_le (Nat.le_refl _) (by omega)) (hq I2 L2 ⟨FS0.k h (Keep.o (L := L) b1 perY), b1 60 rfl, b2, fun i hi => ?_, b5, b6⟩ b1 ?_ ?_))
    · rw [b4]; exact a1 i hi
    · exact fun o q => (b3 o q).trans (a2 o (by simp [pYL] at q; simp [p25]; omega))
    · rw [b4]; exact a10
  · intro i hi ih I2 L2 b1 b2 b3 b4 b5 b6
    have k2 : Keep I L I2 L := Keep.o b1 perY
    have h2 : FS0 I2 := FS0.k h k2
    have n2 : nv I2 = nv I := nv_60 (b1 60 rfl)
    have v200 : vp_in (nI i) 200 := vp_in_nI (by omega) (by omega)
    have T0 : Int32.toNatClampNeg (nI i) = i := nI_clamp (by omega)
    refine r_Sr_lay_7 (br_f (by rw [b2]; exact nI_ge hi (by omega)) ?_)
    rw [show I2 16 0 = nI (nv I 2) by rw [b1 16 rfl]; exact hLo.2.2.2, nI_add]
    refine j_behind h2 (by omega) (by rw [n2]; exact hn) (fun I3 F T r1 r2 r3 => ⟨rfl, v200, v200, ?_⟩)
    have r3' : RS F T (Sb I (nv I 2 + i) many) := RS_iff r3 (fun t => by unfold Sb nu; rw [n2])
    rw [T0, r1.2.1, r1.2.2]
    have b1' : KO pY I (gm_u (gm_u I3 26 i (nI F)) 27 i (nI T)) := KO.u rfl (KO.u rfl (b1.tr (fun o q => r2 o (by simp [pY] at q; simp [p24]; omega))))
    have k3 : Keep I L (gm_u (gm_u I3 26 i (nI F)) 27 i (nI T)) L := Keep.o b1' perY
    refine j_sum (I0 := I) (f := ws I none m) (P := fun x => okb I many (nv I 2 + i) (nv I 2 + x) [] [] = true) (FS0.k h k3) (nv_k k3) ?_ ?_ r3' (fun t q => q.1) (fun x hx => ?_) ⟨v200, ?_⟩
    · show I3 23 7 = _
      rw [r2 23 rfl]; exact b2
    · intro x hx; rw [b4]; exact a1 x hx
    · rw [Sb_ok (FS0.m h) (by omega) hx, okb_iff]
      exact ⟨fun q => q.1, fun q => ⟨q, fun k hk => absurd hk (Nat.not_lt_zero k), fun k hk => absurd hk (Nat.not_lt_zero k)⟩⟩
    · rw [nI_1]
      refine ih _ _ b1' ?_ (KO.u rfl b3) b4 (fun j hj => ?_) (fun j hj => ?_)
      · show I3 23 7 = _
        rw [r2 23 rfl]; exact b2
      · rcases Nat.lt_or_ge j i with q | q
        · obtain ⟨F', T', e1, e2, e3⟩ := b5 j q
          refine ⟨F', T', ?_, ?_, e3⟩
          · rw [gm_u_ne _ _ _ (by omega), gm_u_ne2 _ _ _ _ (by omega), r2 26 rfl]; exact e1
          · rw [gm_u_ne2 _ _ _ _ (by omega), gm_u_ne _ _ _ (by omega), r2 27 rfl]; exact e2
        · have : j = i := by omega
          subst this
          refine ⟨F, T, ?_, gm_u_eq _ _ _ _, r3'⟩
          rw [gm_u_ne _ _ _ (by omega)]; exact gm_u_eq _ _ _ _
      · rcases Nat.lt_or_ge j i with q | q
        · rw [gm_u_ne2 _ _ _ _ (by omega)]; exact b6 j q
        · have : j = i := by omega
          subst this
          exact gm_u_eq _ _ _ _
/-- what stands in pick -/
def PK (I : mI) (A : List Nat) : Prop := ∀ k, k < A.length → I 30 k = nI (A.getD k 0)
theorem gD_l {A B : List Nat} {k : Nat} (h : k < A.length) : (A ++ B).getD k 0 = A.getD k 0 := by
  simp [List.getD, List.getElem?_append_left h]
theorem gD_r {A B : List Nat} {k : Nat} : (A ++ B).getD (A.length + k) 0 = B.getD k 0 := by
  simp [List.getD, List.getElem?_append_right]
theorem j_share {I0 : mI} {f : Nat → Nat} {many v : Nat} {A B : List Nat} {Q : Int64 → mI → mL → gm_cfg → Prop} {i n : Nat} (hl : LD I L I0 f many) (h0 : FM I0) (hi : A.length = i) (hn : i + 1 + B.length = n) (h3 : n ≤ 3) (hp : PK I (A ++ v :: B)) (hv : nv I0 2 ≤ v ∧ v ≤ nv I0 3) (hA : ∀ k, k < A.length → A.getD k 0 ≤ 2000) (hB : ∀ k, k < B.length → B.getD k 0 ≤ 2000) (hq : ∀ I', KO p24 I I' → Q (lN (shr I0 f many v A B)) I' L c) : C_Wr_shareOf g (nI i) (nI n) I L c Q := by
  obtain ⟨a1, a2, a3, a4, a5, a6⟩ := hl
  have hLo := gLo h0
  have hHi := gHi h0
  have hb := gw_b h0
  have eW : nv I0 2 + gw I0 = nv I0 3 + 1 := by show nv I0 2 + (nv I0 3 - nv I0 2 + 1) = _; omega
  have n1 : nv I = nv I0 := nv_60 a2
  have e16 : I 16 0 = nI (nv I0 2) := by rw [← n1]; exact (fLo a1).2.2.2
  have len : (A ++ v :: B).length = n := by rw [List.length_append, List.length_cons]; omega
  have gi : (A ++ v :: B).getD i 0 = v := by
    have := gD_r (A := A) (B := v :: B) (k := 0)
    rw [Nat.add_zero, hi] at this
    exact this
  have pi : I 30 i = nI v := by rw [hp i (by omega), gi]
  have v3 : ∀ k, k < 3 → vp_in (nI k) 3 := fun k hk => vp_in_nI hk (by omega)
  have T3 : ∀ k, k < 3 → Int32.toNatClampNeg (nI k) = k := fun k hk => nI_clamp (by omega)
  refine e_Wr_shareOf (br_f (nI_pos (by omega)) (br_f (nI_ge (by omega) (by omega)) (br_t (nI_le (b := 3) h3 (by omega)) ⟨v3 i (by omega), ?_⟩)))
  rw [T3 i (by omega), pi]
  obtain ⟨F, T, f1, f2, f3⟩ := a5 (v - nv I0 2) (by omega)
  rw [show nv I0 2 + (v - nv I0 2) = v by omega] at f3
  refine e_Sr_laidReach ?_
  rw [e16, pk_sub hv.1, a3, nI_clamp (by omega), f1, f2]
  refine br_f (nI_pos (by omega)) (br_f (nI_ge (by omega) (by omega)) ⟨vp_in_nI (by omega) (by omega), vp_in_nI (by omega) (by omega), e_Re_open ⟨rfl, ?_⟩⟩)
  have key := lp0 (P := fun k => ∀ (I' : mI) (F T : Nat), RI I' v F T → KO p24 I I' → RS F T (fun t => Sb I0 v many t ∧ ∀ j, j < k → ad v t < ad (A.getD j 0) t) → Z_Wr_shareOf g Q 33 [(0, .ref 29), (1, .int (nI i)), (2, .int (nI n)), (3, .ref 24), (4, .int (nI k))] [] I' L c) i ?_ ?_
  · refine key _ F T ⟨rfl, rfl, rfl⟩ (KO.u rfl (KO.u rfl (KO.u rfl KO.rf))) (RS_iff f3 (fun t => ⟨fun q => ⟨q, fun j hj => absurd hj (by omega)⟩, fun q => q.1⟩))
  · intro I1 F1 T1 r1 r2 r3
    refine r_Wr_shareOf_33 (br_t (nI_le (Nat.le_refl _) (by omega)) ?_)
    rw [nI_1]
    have key2 := lp (P := fun k => i + 1 ≤ k → ∀ (I' : mI) (F T : Nat), RI I' v F T → KO p24 I I' → RS F T (fun t => (Sb I0 v many t ∧ ∀ j, j < i → ad v t < ad (A.getD j 0) t) ∧ ∀ j, i + 1 + j < k → ad v t ≤ ad (B.getD j 0) t) → Z_Wr_shareOf g Q 61 [(0, .ref 29), (1, .int (nI i)), (2, .int (nI n)), (3, .ref 24), (4, .int (nI k))] [] I' L c) n ?_ ?_ (i + 1) (by omega)
    · exact key2 (Nat.le_refl _) I1 F1 T1 r1 r2 (RS_iff r3 (fun t => ⟨fun q => ⟨q, fun j hj => absurd hj (by omega)⟩, fun q => q.1⟩))
    · intro _ I2 F2 T2 s1 s2 s3
      have k2 : Keep I L I2 L := Keep.o s2 per24
      refine r_Wr_shareOf_61 (br_t (nI_le (Nat.le_refl _) (by omega)) ?_)
      rw [s1.2.1, s1.2.2]
      refine j_sum (I0 := I0) (f := f) (P := fun x => okb I0 many v (nv I0 2 + x) A B = true) (FS0.k a1 k2) ((nv_k k2).trans n1) (by rw [s2 23 rfl]; exact a3) a4 s3 (fun t q => q.1.1.1) (fun x hx => ?_) (hq I2 s2)
      rw [Sb_ok h0 (by omega) hx, okb_iff]
      constructor
      · intro ⟨q1, q2, q3⟩
        exact ⟨⟨q1, fun j hj => q2 j (by omega)⟩, fun j hj => q3 j (by omega)⟩
      · intro ⟨⟨q1, q2⟩, q3⟩
        exact ⟨q1, fun j hj => q2 j (by omega), fun j hj => q3 j (by omega)⟩
    · intro k hk ih hik I2 F2 T2 s1 s2 s3
      obtain ⟨d, rfl⟩ : ∃ d, k = i + 1 + d := ⟨k - (i + 1), by omega⟩
      have gk : (A ++ v :: B).getD (i + 1 + d) 0 = B.getD d 0 := by
        have := gD_r (A := A) (B := v :: B) (k := d + 1)
        rw [hi] at this
        rw [show i + 1 + d = i + (d + 1) by omega, this]; rfl
      refine r_Wr_shareOf_61 (br_f (nI_ge hk (by omega)) ⟨v3 _ (by omega), ?_⟩)
      rw [T3 _ (by omega), show I2 30 (i + 1 + d) = nI (B.getD d 0) by rw [s2 30 rfl, hp _ (by omega), gk], nI_1]
      refine j_keep s1 s3 (by omega) (hB d (by omega)) (fun I3 F3 T3 t1 t2 t3 => ih (by omega) I3 F3 T3 t1 (s2.tr t2) (RS_iff t3 (fun t => ?_)))
      constructor
      · intro ⟨⟨q1, q2⟩, q3⟩
        refine ⟨q1, fun j hj => ?_⟩
        rcases Nat.lt_or_ge j d with z | z
        · exact q2 j (by omega)
        · rw [show j = d by omega]; exact q3
      · intro ⟨q1, q2⟩
        exact ⟨⟨q1, fun j hj => q2 j (by omega)⟩, q2 d (by omega)⟩
  · intro k hk ih I1 F1 T1 r1 r2 r3
    have gk : (A ++ v :: B).getD k 0 = A.getD k 0 := gD_l (by omega)
    refine r_Wr_shareOf_33 (br_f (nI_ge hk (by omega)) ⟨v3 _ (by omega), ?_⟩)
    rw [T3 _ (by omega), show I1 30 k = nI (A.getD k 0) by rw [r2 30 rfl, hp _ (by omega), gk], nI_1]
    refine j_yield r1 r3 (by omega) (hA k (by omega)) (fun I3 F3 T3 t1 t2 t3 => ih I3 F3 T3 t1 (r2.tr t2) (RS_iff t3 (fun t => ?_)))
    constructor
    · intro ⟨⟨q1, q2⟩, q3⟩
      refine ⟨q1, fun j hj => ?_⟩
      rcases Nat.lt_or_ge j k with z | z
      · exact q2 j z
      · rw [show j = k by omega]; exact q3
    · intro ⟨q1, q2⟩
      exact ⟨⟨q1, fun j hj => q2 j (by omega)⟩, q2 k (by omega)⟩
theorem j_whole {I0 : mI} {f : Nat → Nat} {many j : Nat} {Q : Int64 → mI → mL → gm_cfg → Prop} (hl : LD I L I0 f many) (h0 : FM I0) (hj : j < gw I0) (hq : Q (lN (shr I0 f many (nv I0 2 + j) [] [])) I L c) : C_Sr_wholeOf g (nI (nv I0 2 + j)) I L c Q := by
  obtain ⟨a1, a2, a3, a4, a5, a6⟩ := hl
  have hLo := gLo h0
  have hb := gw_b h0
  have n1 : nv I = nv I0 := nv_60 a2
  have e16 : I 16 0 = nI (nv I0 2) := by rw [← n1]; exact (fLo a1).2.2.2
  refine e_Sr_wholeOf ?_
  rw [e16, pk_sub (by omega), a3, show nv I0 2 + j - nv I0 2 = j by omega, nI_clamp (by omega), a6 j hj]
  exact br_f (nI_pos (by omega)) (br_f (nI_ge hj (by omega)) ⟨vp_in_nI (by omega) (by omega), hq⟩)
end La
