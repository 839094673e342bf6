/-! the game -/
/-- what stands in written -/
def PM (I : mI) (A : List Nat) : Prop := ∀ k, k < A.length → I 67 k = nI (A.getD k 0)
def MXi (F : Nat → Nat) (j : Nat) (x : Int32) : Prop := (j = 0 ∧ x = -1) ∨ (∃ i, j = i + 1 ∧ x = nI (F (ag F i)))
theorem lm1i {w : Nat} (h : w < 2 ^ 31) : (-1 : Int32) < nI w := by
  rw [Int32.lt_iff_toInt_lt, nI_toInt h]
  have : (-1 : Int32).toInt = -1 := rfl
  omega
theorem MXi_no {F : Nat → Nat} {j : Nat} {x : Int32} (h : MXi F j x) (hF : ∀ i, F i < 2 ^ 30) (q : ¬ x < nI (F j)) : MXi F (j + 1) x ∧ 1 ≤ j ∧ ag F j = ag F (j - 1) := by
  rcases h with ⟨rfl, rfl⟩ | ⟨i, rfl, rfl⟩
  · exact absurd (lm1i (by have := hF 0; omega)) q
  · have b := hF (ag F i)
    have b2 := hF (i + 1)
    have q2 := nnlt q (by omega)
    have e : ag F (i + 1) = ag F i := by
      show (if F (ag F i) < F (i + 1) then i + 1 else ag F i) = ag F i
      rw [if_neg (by omega)]
    exact ⟨Or.inr ⟨i + 1, rfl, by rw [e]⟩, by omega, e⟩
theorem MXi_yes {F : Nat → Nat} {j : Nat} {x : Int32} (h : MXi F j x) (hF : ∀ i, F i < 2 ^ 30) (q : x < nI (F j)) : MXi F (j + 1) (nI (F j)) ∧ ag F j = j := by
  rcases h with ⟨rfl, rfl⟩ | ⟨i, rfl, rfl⟩
  · exact ⟨Or.inr ⟨0, rfl, rfl⟩, rfl⟩
  · have b := hF (ag F i)
    have b2 := hF (i + 1)
    have q2 := nlt q (by omega) (by omega)
    have e : ag F (i + 1) = i + 1 := by
      show (if F (ag F i) < F (i + 1) then i + 1 else ag F i) = i + 1
      rw [if_pos (by omega)]
    exact ⟨Or.inr ⟨i + 1, rfl, by rw [e]⟩, e⟩
section Ga
variable {g : gm_G} {I : mI} {L : mL} {c : gm_cfg} {I0 : mI} {L0 : mL}
theorem m_weightFor {Q : Int32 → mI → mL → gm_cfg → Prop} {i n v : Nat} {A B : List Nat} (h : FM I0) (hk : Keep I0 L0 I L) (hi : A.length = i) (hn : i + 1 + B.length = n) (h3 : n ≤ 3) (hp : PM I (A ++ v :: B)) (hv : v ≤ 2000) (hA : ∀ k, k < A.length → A.getD k 0 ≤ 2000) (hB : ∀ k, k < B.length → B.getD k 0 ≤ 2000) (hq : Q (nI (shr I0 (ws I0 none 0) 0 v A B)) I L c) : C_M_weightFor g (nI i) (nI n) I L c Q := by
  have hLo := gLo h
  have hHi := gHi h
  have hb := gw_b h
  have e60 := I60_k hk
  have hT : FM I := FM.k h hk
  have eW : nv I0 2 + gw I0 = nv I0 3 + 1 := by show nv I0 2 + (nv I0 3 - nv I0 2 + 1) = _; omega
  have len : (A ++ v :: B).length = n := by rw [List.length_append, List.length_cons]; omega
  have gi : (A ++ v :: B).getD i 0 = v := by
    have := gD_r (A := A) (B := v :: B) (k := 0)
    rw [Nat.add_zero, hi] at this
    exact this
  have pi : I 67 i = nI v := by rw [hp i (by omega), gi]
  have v3 : ∀ k, k < 3 → vp_in (nI k) 3 := fun k hk => vp_in_nI hk (by omega)
  have T3 : ∀ k, k < 3 → Int32.toNatClampNeg (nI k) = k := fun k hk => nI_clamp (by omega)
  have gl : ∀ k, k < i → (A ++ v :: B).getD k 0 = A.getD k 0 := fun k hk => gD_l (by omega)
  have gr : ∀ d, (A ++ v :: B).getD (i + 1 + d) 0 = B.getD d 0 := fun d => by
    have := gD_r (A := A) (B := v :: B) (k := d + 1)
    rw [hi] at this
    rw [show i + 1 + d = i + (d + 1) by omega, this]; rfl
  have pb : ∀ k, k < n → (A ++ v :: B).getD k 0 ≤ 2000 := fun k hk => by
    rcases Nat.lt_or_ge k i with q | q
    · rw [gl k q]; exact hA k (by omega)
    · rcases Nat.lt_or_ge i k with q2 | q2
      · rw [show k = i + 1 + (k - (i + 1)) by omega, gr]; exact hB _ (by omega)
      · rw [show k = i by omega, gi]; exact hv
  let G : Nat → Nat := fun x => if okb I0 0 v (nv I0 2 + x) A B = true then ws I0 none 0 x else 0
  refine e_M_weightFor ?_
  rw [show I 60 2 = nI (nv I0 2) by rw [e60]; exact hLo.1]
  refine lp0 (P := fun x => Z_M_weightFor g Q 10 [(0, .ref 59), (1, .int (nI i)), (2, .int (nI n)), (3, .int (nI (sN G x))), (4, .int (nI (nv I0 2 + x)))] [] I L c) (gw I0) ?_ ?_
  · refine r_M_weightFor_10 (br_t ?_ hq)
    rw [show I 60 3 = nI (nv I0 3) by rw [e60]; exact hHi.1]
    exact nI_lt (by omega) (by omega)
  · intro x hx ih
    obtain ⟨t, et⟩ : ∃ t, t = nv I0 2 + x := ⟨_, rfl⟩
    have ht : t ≤ 1200 := by omega
    have sG : sN G (x + 1) = sN G x + G x := rfl
    have eG : G x = if okb I0 0 v (nv I0 2 + x) A B = true then ws I0 none 0 x else 0 := rfl
    rw [sG, show nv I0 2 + (x + 1) = t + 1 by omega] at ih
    rw [← et] at eG ⊢
    have yes : okb I0 0 v t A B = true → Z_M_weightFor g Q 10 [(0, .ref 59), (1, .int (nI i)), (2, .int (nI n)), (3, .int (nI (sN G x) + nI (wt I0 t))), (4, .int (nI t + 1))] [] I L c := by
      intro q
      rw [if_pos q] at eG
      rw [eG, show ws I0 none 0 x = wt I0 t by rw [et]; rfl] at ih
      rw [nI_add, nI_1]
      exact ih
    have no : ¬ okb I0 0 v t A B = true → Z_M_weightFor g Q 10 [(0, .ref 59), (1, .int (nI i)), (2, .int (nI n)), (3, .int (nI (sN G x) + 0)), (4, .int (nI t + 1))] [] I L c := by
      intro q
      rw [if_neg q] at eG
      rw [eG] at ih
      rw [Int32.add_zero, nI_1]
      exact ih
    have okc : okb I0 0 v t A B = true ↔ ∀ j, j < n → (j < i → ad v t < ad ((A ++ v :: B).getD j 0) t) ∧ (i < j → ad v t ≤ ad ((A ++ v :: B).getD j 0) t) := by
      rw [okb_iff]
      constructor
      · intro ⟨_, q2, q3⟩ j hj
        refine ⟨fun q => ?_, fun q => ?_⟩
        · rw [gl j q]; exact q2 j (by omega)
        · rw [show j = i + 1 + (j - (i + 1)) by omega, gr]; exact q3 _ (by omega)
      · intro q
        refine ⟨?_, fun k hk => ?_, fun k hk => ?_⟩
        · show ad v t < 9999
          unfold ad; omega
        · rw [← gl k (by omega)]; exact (q k (by omega)).1 (by omega)
        · rw [← gr k]; exact (q (i + 1 + k) (by omega)).2 (by omega)
    refine r_M_weightFor_10 (br_f ?_ ?_)
    · rw [show I 60 3 = nI (nv I0 3) by rw [e60]; exact hHi.1]
      exact nI_nlt (by omega) (by omega)
    · have bad : ∀ k, k ≤ n → ¬ okb I0 0 v t A B = true → Z_M_weightFor g Q 27 [(0, .ref 59), (1, .int (nI i)), (2, .int (nI n)), (3, .int (nI (sN G x))), (4, .int (nI t)), (5, .int 0), (6, .int (nI k))] [] I L c := by
        intro k hk q
        exact r_M_weightFor_27 (br_c (fun _ => br_t rfl (no q)) (fun _ => br_t rfl (br_t rfl (no q))))
      have key := lp0 (P := fun k => (∀ j, j < k → (j < i → ad v t < ad ((A ++ v :: B).getD j 0) t) ∧ (i < j → ad v t ≤ ad ((A ++ v :: B).getD j 0) t)) → Z_M_weightFor g Q 27 [(0, .ref 59), (1, .int (nI i)), (2, .int (nI n)), (3, .int (nI (sN G x))), (4, .int (nI t)), (5, .int 1), (6, .int (nI k))] [] I L c) n ?_ ?_
      · exact key (fun j hj => absurd hj (by omega))
      · intro hj
        refine r_M_weightFor_27 (br_t (nI_le (Nat.le_refl _) (by omega)) (br_f (by decide) (m_weight hT (by omega) ?_)))
        rw [wt_60 e60]
        exact yes (okc.mpr hj)
      · intro k hk ih2 hj
        refine r_M_weightFor_27 (br_f (nI_ge hk (by omega)) (br_f (by decide) ?_))
        rw [nI_1]
        refine pk_eq k i (fun z => ?_) (fun z => ?_)
        · refine ih2 (fun j hj2 => ?_)
          rcases Nat.lt_or_ge j k with q | q
          · exact hj j q
          · exact ⟨fun q2 => absurd q2 (by omega), fun q2 => absurd q2 (by omega)⟩
        · have hpk := pb k hk
          have ek : I 67 k = nI ((A ++ v :: B).getD k 0) := hp k (by omega)
          have a1 : ad ((A ++ v :: B).getD k 0) t < 2 ^ 30 := by unfold ad; omega
          have a2 : ad v t < 2 ^ 30 := by unfold ad; omega
          refine pk_le i k (fun z2 => ⟨v3 k (by omega), ?_⟩) (fun z2 => ⟨v3 k (by omega), ?_⟩)
          · rw [T3 k (by omega), ek]
            refine m_off (by omega) (by omega) ⟨v3 i (by omega), ?_⟩
            rw [T3 i (by omega), pi]
            refine m_off (by omega) (by omega) (br_c (fun u => ?_) (fun u => ?_))
            · have u' := nlt (a := ad ((A ++ v :: B).getD k 0) t) (b := ad v t) u (by omega) (by omega)
              refine bad (k + 1) (by omega) (fun q => ?_)
              have := ((okc.mp q) k hk).2 (by omega)
              omega
            · have u' := nnlt (a := ad ((A ++ v :: B).getD k 0) t) (b := ad v t) u (by omega)
              refine ih2 (fun j hj2 => ?_)
              rcases Nat.lt_or_ge j k with q | q
              · exact hj j q
              · rw [show j = k by omega]
                exact ⟨fun q2 => absurd q2 (by omega), fun _ => u'⟩
          · rw [T3 k (by omega), ek]
            refine m_off (by omega) (by omega) ⟨v3 i (by omega), ?_⟩
            rw [T3 i (by omega), pi]
            refine m_off (by omega) (by omega) (br_c (fun u => ?_) (fun u => ?_))
            · have u' := nle (a := ad ((A ++ v :: B).getD k 0) t) (b := ad v t) u (by omega) (by omega)
              refine bad (k + 1) (by omega) (fun q => ?_)
              have := ((okc.mp q) k hk).1 (by omega)
              omega
            · have u' := nnle (a := ad ((A ++ v :: B).getD k 0) t) (b := ad v t) u (by omega)
              refine ih2 (fun j hj2 => ?_)
              rcases Nat.lt_or_ge j k with q | q
              · exact hj j q
              · rw [show j = k by omega]
                exact ⟨fun _ => u', fun q2 => absurd q2 (by omega)⟩
theorem per67 (o k : Nat) (q : per o k = true) : o ≠ 67 ∧ o ≠ 68 := ⟨(fun e => by subst e; cases q), (fun e => by subst e; cases q)⟩
theorem Keep.fl {I I' : mI} {L L' : mL} {o a n : Nat} {f : Nat → Int32} (h : Keep I L I' L') (ho : o = 67 ∨ o = 68) : Keep I L (fl I' o a f n) L' := ⟨fun o' k q => by
  rw [fl_ne (by have := per67 o' k q; omega)]; exact h.1 o' k q, h.2⟩
abbrev gf (I0 : mI) : Nat → Nat := ws I0 none 0
theorem gf_b (h : FM I0) : sN (gf I0) (gw I0) < 2 ^ 20 := by
  have hb := gw_b h
  have := sN_le (f := gf I0) (B := 9) (gw I0) (fun k _ => (wt_b I0 (nv I0 2 + k)).2)
  have h2 : gw I0 * 9 ≤ 200 * 9 := Nat.mul_le_mul_right _ hb.2
  omega
theorem Fg_b (h : FM I0) {r : Nat} {A : List Nat} (i : Nat) : Fr I0 (gf I0) 0 r A i < 2 ^ 30 := by
  have : Fr I0 (gf I0) 0 r A i ≤ sN (gf I0) (gw I0) := shr_b
  have := gf_b h
  omega
theorem m_writes_0_1 {A : List Nat} {Q : mI → mL → gm_cfg → Prop} (h0 : FM I0) (hk0 : Keep I0 L0 I L) (hA : A.length = 0) (hAb : ∀ k, k < A.length → A.getD k 0 ≤ 2000) (hp : PM I A) (hq : ∀ I' : mI, Keep I0 L0 I' L → (∀ k, k < 0 → I' 68 k = I 68 k) → PM I' (A ++ pl I0 (gf I0) 0 1 A) → Q I' L c) : C_M_writesOn_0_1 g I L c Q := by
  have hLo := gLo h0
  have hHi := gHi h0
  have hb := gw_b h0
  have eW : nv I0 2 + gw I0 = nv I0 3 + 1 := by show nv I0 2 + (nv I0 3 - nv I0 2 + 1) = _; omega
  refine e_M_writesOn_0_1 ?_
  have FB := fun x => Fg_b h0 (r := 0) (A := A) x
  rw [show I 60 2 = nI (nv I0 2) by rw [I60_k hk0]; exact hLo.1]
  have key := lp0 (P := fun j => ∀ (I' : mI) (x : Int32), Keep I0 L0 I' L → (∀ k, k < 0 → I' 68 k = I 68 k) → PM I' A → MXi (Fr I0 (gf I0) 0 0 A) j x → (1 ≤ j → ∀ k, k < 1 → I' 68 (0 + k) = nI ((A ++ (nv I0 2 + ag (Fr I0 (gf I0) 0 0 A) (j - 1)) :: pl I0 (gf I0) 0 0 (A ++ [nv I0 2 + ag (Fr I0 (gf I0) 0 0 A) (j - 1)])).getD k 0)) → Z_M_writesOn_0_1 g Q 16 [(0, .ref 59), (1, .int 0), (2, .int 1), (3, .int x), (4, .int (nI (nv I0 2 + j)))] [] I' L c) (gw I0) ?_ ?_
  · exact key I (-1) hk0 (fun _ _ => rfl) hp (Or.inl ⟨rfl, rfl⟩) (fun q => absurd q (by omega))
  · intro I' x k1 kl pk mx kp
    refine r_M_writesOn_0_1_16 (br_t (by rw [show I' 60 3 = nI (nv I0 3) by rw [I60_k k1]; exact hHi.1]; exact nI_lt (by omega) (by omega)) ?_)
    have fin5 : Z_M_writesOn_0_1 g Q 105 [(0, .ref 59), (1, .int 0), (2, .int 1), (3, .int x), (4, .int (nI (0 + 0)))] [] (fl I' 67 0 (fun k => I' 68 (0 + (0 + k))) 0) L c := by
      refine lp0 (P := fun d => Z_M_writesOn_0_1 g Q 105 [(0, .ref 59), (1, .int 0), (2, .int 1), (3, .int x), (4, .int (nI (0 + d)))] [] (fl I' 67 0 (fun k => I' 68 (0 + (0 + k))) d) L c) 1 ?_ ?_
      · refine r_M_writesOn_0_1_105 (br_t (by decide) (hq _ (Keep.fl k1 (Or.inl rfl)) (fun k hk => ?_) (fun k hk => ?_)))
        · rw [fl_ne (by omega)]; exact kl k hk
        · rw [List.length_append, pl_len, hA] at hk
          rcases Nat.lt_or_ge k 0 with z | z
          · rw [fl_out (by omega), pk k (by omega), gD_l (by omega)]
          · obtain ⟨d, rfl⟩ : ∃ d, k = 0 + d := ⟨k - 0, by omega⟩
            rw [fl_in (by omega), kp (by omega) (0 + d) (by omega)]
            rfl
      · intro d hd ih
        have e1 : Int32.toNatClampNeg (0 + nI (0 + d)) = 0 + (0 + d) := ixa 0 (0 + d) (by omega)
        refine r_M_writesOn_0_1_105 (br_f (nI_ge (b := 1) (by omega) (by omega)) ⟨via 0 (0 + d) 9 (by omega) (by omega), vp_in_nI (by omega) (by omega), ?_⟩)
        rw [e1, nI_clamp (by omega), nI_1, fl_ne (by omega)]
        have := fl_s I' 67 0 (fun k => I' 68 (0 + (0 + k))) d
        rw [← this] at ih
        exact ih
    rw [fl_0] at fin5
    exact fin5
  · intro j hj ih I' x k1 kl pk mx kp
    have hj2 : nv I0 2 + j ≤ 1200 := by omega
    have k2 : Keep I0 L0 (gm_u I' 67 0 (nI (nv I0 2 + j))) L := k1.tr (Keep.u rfl)
    have p2 : PM (gm_u I' 67 0 (nI (nv I0 2 + j))) (A ++ (nv I0 2 + j) :: pl I0 (gf I0) 0 0 (A ++ [nv I0 2 + j])) := by
      intro k hk
      rw [List.length_append, List.length_cons, pl_len, hA] at hk
      rcases Nat.lt_or_ge k A.length with z | z
      · rw [gm_u_ne2 _ _ _ _ (by omega), pk k z, gD_l z]
      · have ek : k = A.length + 0 := by omega
        have ek2 : k = 0 := by omega
        rw [show (A ++ (nv I0 2 + j) :: pl I0 (gf I0) 0 0 (A ++ [nv I0 2 + j])).getD k 0 = nv I0 2 + j by rw [ek, gD_r]; rfl, ek2, gm_u_eq]
    have e4 : ∀ (Q' : Int32 → mI → mL → gm_cfg → Prop), (∀ I4 : mI, Keep I0 L0 I4 L → (∀ k, k < 3 → I4 68 k = I' 68 k) → PM I4 (A ++ (nv I0 2 + j) :: pl I0 (gf I0) 0 0 (A ++ [nv I0 2 + j])) → Q' (nI (Fr I0 (gf I0) 0 0 A j)) I4 L c) → C_M_writesOn_1_1 g (gm_u I' 67 0 (nI (nv I0 2 + j))) L c (fun I1 L2 c3 => C_M_weightFor g 0 1 I1 L2 c3 Q') := by
      intro Q' hq'
      refine e_M_writesOn_1_1 ?_
      exact m_weightFor (i := 0) (n := 1) (A := A) (B := pl I0 (gf I0) 0 0 (A ++ [nv I0 2 + j])) h0 k2 hA (by rw [pl_len]) (by omega) p2 (by omega) hAb (fun k hk => absurd hk (by rw [pl_len]; omega)) (hq' _ k2 (fun k hk => rfl) p2)
    refine r_M_writesOn_0_1_16 (br_f (by rw [show I' 60 3 = nI (nv I0 3) by rw [I60_k k1]; exact hHi.1]; exact nI_nlt (by omega) (by omega)) (e4 _ (fun I4 w1 w2 w4 => ?_)))
    have pk4 : PM I4 A := fun k hk => by
      rw [w4 k (by rw [List.length_append]; omega), gD_l hk]
    rw [show nv I0 2 + (j + 1) = nv I0 2 + j + 1 by omega] at ih
    refine br_c (fun z => ?_) (fun z => ?_)
    · obtain ⟨m1, m2⟩ := MXi_yes mx FB z
      have cp : Z_M_writesOn_0_1 g Q 66 [(0, .ref 59), (1, .int 0), (2, .int 1), (3, .int (nI (Fr I0 (gf I0) 0 0 A j))), (4, .int (nI (nv I0 2 + j))), (5, .int (nI (Fr I0 (gf I0) 0 0 A j))), (6, .int (nI 0))] [] (fl I4 68 0 (I4 67) 0) L c := by
        refine lp0 (P := fun d => Z_M_writesOn_0_1 g Q 66 [(0, .ref 59), (1, .int 0), (2, .int 1), (3, .int (nI (Fr I0 (gf I0) 0 0 A j))), (4, .int (nI (nv I0 2 + j))), (5, .int (nI (Fr I0 (gf I0) 0 0 A j))), (6, .int (nI d))] [] (fl I4 68 0 (I4 67) d) L c) 1 ?_ ?_
        · refine r_M_writesOn_0_1_66 (br_t (by decide) ?_)
          rw [nI_1]
          refine ih _ _ (Keep.fl w1 (Or.inr rfl)) (fun k hk => ?_) pk4 m1 (fun _ k hk => ?_)
          · rw [fl_out (by omega), w2 k (by omega)]; exact kl k hk
          · rw [fl_in hk, Nat.add_sub_cancel, m2]
            exact w4 k (by rw [List.length_append, List.length_cons, pl_len, hA]; omega)
        · intro d hd ih2
          have e1 : Int32.toNatClampNeg (0 + nI d) = 0 + d := ixa 0 d (by omega)
          refine r_M_writesOn_0_1_66 (br_f (nI_ge (b := 1) hd (by omega)) ⟨vp_in_nI (by omega) (by omega), via 0 d 9 (by omega) (by omega), ?_⟩)
          rw [e1, nI_clamp (by omega), nI_1, fl_ne (by omega)]
          have := fl_s I4 68 0 (I4 67) d
          rw [← this] at ih2
          exact ih2
      rw [fl_0] at cp
      exact cp
    · obtain ⟨m1, m2, m3⟩ := MXi_no mx FB z
      rw [nI_1]
      refine ih I4 x w1 (fun k hk => by rw [w2 k (by omega)]; exact kl k hk) pk4 m1 (fun _ k hk => ?_)
      rw [Nat.add_sub_cancel, m3, w2 _ (by omega)]
      exact kp m2 k hk
theorem m_writes_1_2 {A : List Nat} {Q : mI → mL → gm_cfg → Prop} (h0 : FM I0) (hk0 : Keep I0 L0 I L) (hA : A.length = 1) (hAb : ∀ k, k < A.length → A.getD k 0 ≤ 2000) (hp : PM I A) (hq : ∀ I' : mI, Keep I0 L0 I' L → (∀ k, k < 3 → I' 68 k = I 68 k) → PM I' (A ++ pl I0 (gf I0) 0 1 A) → Q I' L c) : C_M_writesOn_1_2 g I L c Q := by
  have hLo := gLo h0
  have hHi := gHi h0
  have hb := gw_b h0
  have eW : nv I0 2 + gw I0 = nv I0 3 + 1 := by show nv I0 2 + (nv I0 3 - nv I0 2 + 1) = _; omega
  refine e_M_writesOn_1_2 ?_
  have FB := fun x => Fg_b h0 (r := 0) (A := A) x
  rw [show I 60 2 = nI (nv I0 2) by rw [I60_k hk0]; exact hLo.1]
  have key := lp0 (P := fun j => ∀ (I' : mI) (x : Int32), Keep I0 L0 I' L → (∀ k, k < 3 → I' 68 k = I 68 k) → PM I' A → MXi (Fr I0 (gf I0) 0 0 A) j x → (1 ≤ j → ∀ k, k < 2 → I' 68 (3 + k) = nI ((A ++ (nv I0 2 + ag (Fr I0 (gf I0) 0 0 A) (j - 1)) :: pl I0 (gf I0) 0 0 (A ++ [nv I0 2 + ag (Fr I0 (gf I0) 0 0 A) (j - 1)])).getD k 0)) → Z_M_writesOn_1_2 g Q 16 [(0, .ref 59), (1, .int 1), (2, .int 2), (3, .int x), (4, .int (nI (nv I0 2 + j)))] [] I' L c) (gw I0) ?_ ?_
  · exact key I (-1) hk0 (fun _ _ => rfl) hp (Or.inl ⟨rfl, rfl⟩) (fun q => absurd q (by omega))
  · intro I' x k1 kl pk mx kp
    refine r_M_writesOn_1_2_16 (br_t (by rw [show I' 60 3 = nI (nv I0 3) by rw [I60_k k1]; exact hHi.1]; exact nI_lt (by omega) (by omega)) ?_)
    have fin5 : Z_M_writesOn_1_2 g Q 105 [(0, .ref 59), (1, .int 1), (2, .int 2), (3, .int x), (4, .int (nI (1 + 0)))] [] (fl I' 67 1 (fun k => I' 68 (3 + (1 + k))) 0) L c := by
      refine lp0 (P := fun d => Z_M_writesOn_1_2 g Q 105 [(0, .ref 59), (1, .int 1), (2, .int 2), (3, .int x), (4, .int (nI (1 + d)))] [] (fl I' 67 1 (fun k => I' 68 (3 + (1 + k))) d) L c) 1 ?_ ?_
      · refine r_M_writesOn_1_2_105 (br_t (by decide) (hq _ (Keep.fl k1 (Or.inl rfl)) (fun k hk => ?_) (fun k hk => ?_)))
        · rw [fl_ne (by omega)]; exact kl k hk
        · rw [List.length_append, pl_len, hA] at hk
          rcases Nat.lt_or_ge k 1 with z | z
          · rw [fl_out (by omega), pk k (by omega), gD_l (by omega)]
          · obtain ⟨d, rfl⟩ : ∃ d, k = 1 + d := ⟨k - 1, by omega⟩
            rw [fl_in (by omega), kp (by omega) (1 + d) (by omega)]
            rfl
      · intro d hd ih
        have e1 : Int32.toNatClampNeg (3 + nI (1 + d)) = 3 + (1 + d) := ixa 3 (1 + d) (by omega)
        refine r_M_writesOn_1_2_105 (br_f (nI_ge (b := 2) (by omega) (by omega)) ⟨via 3 (1 + d) 9 (by omega) (by omega), vp_in_nI (by omega) (by omega), ?_⟩)
        rw [e1, nI_clamp (by omega), nI_1, fl_ne (by omega)]
        have := fl_s I' 67 1 (fun k => I' 68 (3 + (1 + k))) d
        rw [← this] at ih
        exact ih
    rw [fl_0] at fin5
    exact fin5
  · intro j hj ih I' x k1 kl pk mx kp
    have hj2 : nv I0 2 + j ≤ 1200 := by omega
    have k2 : Keep I0 L0 (gm_u I' 67 1 (nI (nv I0 2 + j))) L := k1.tr (Keep.u rfl)
    have p2 : PM (gm_u I' 67 1 (nI (nv I0 2 + j))) (A ++ (nv I0 2 + j) :: pl I0 (gf I0) 0 0 (A ++ [nv I0 2 + j])) := by
      intro k hk
      rw [List.length_append, List.length_cons, pl_len, hA] at hk
      rcases Nat.lt_or_ge k A.length with z | z
      · rw [gm_u_ne2 _ _ _ _ (by omega), pk k z, gD_l z]
      · have ek : k = A.length + 0 := by omega
        have ek2 : k = 1 := by omega
        rw [show (A ++ (nv I0 2 + j) :: pl I0 (gf I0) 0 0 (A ++ [nv I0 2 + j])).getD k 0 = nv I0 2 + j by rw [ek, gD_r]; rfl, ek2, gm_u_eq]
    have e4 : ∀ (Q' : Int32 → mI → mL → gm_cfg → Prop), (∀ I4 : mI, Keep I0 L0 I4 L → (∀ k, k < 6 → I4 68 k = I' 68 k) → PM I4 (A ++ (nv I0 2 + j) :: pl I0 (gf I0) 0 0 (A ++ [nv I0 2 + j])) → Q' (nI (Fr I0 (gf I0) 0 0 A j)) I4 L c) → C_M_writesOn_2_2 g (gm_u I' 67 1 (nI (nv I0 2 + j))) L c (fun I1 L2 c3 => C_M_weightFor g 1 2 I1 L2 c3 Q') := by
      intro Q' hq'
      refine e_M_writesOn_2_2 ?_
      exact m_weightFor (i := 1) (n := 2) (A := A) (B := pl I0 (gf I0) 0 0 (A ++ [nv I0 2 + j])) h0 k2 hA (by rw [pl_len]) (by omega) p2 (by omega) hAb (fun k hk => absurd hk (by rw [pl_len]; omega)) (hq' _ k2 (fun k hk => rfl) p2)
    refine r_M_writesOn_1_2_16 (br_f (by rw [show I' 60 3 = nI (nv I0 3) by rw [I60_k k1]; exact hHi.1]; exact nI_nlt (by omega) (by omega)) (e4 _ (fun I4 w1 w2 w4 => ?_)))
    have pk4 : PM I4 A := fun k hk => by
      rw [w4 k (by rw [List.length_append]; omega), gD_l hk]
    rw [show nv I0 2 + (j + 1) = nv I0 2 + j + 1 by omega] at ih
    refine br_c (fun z => ?_) (fun z => ?_)
    · obtain ⟨m1, m2⟩ := MXi_yes mx FB z
      have cp : Z_M_writesOn_1_2 g Q 66 [(0, .ref 59), (1, .int 1), (2, .int 2), (3, .int (nI (Fr I0 (gf I0) 0 0 A j))), (4, .int (nI (nv I0 2 + j))), (5, .int (nI (Fr I0 (gf I0) 0 0 A j))), (6, .int (nI 0))] [] (fl I4 68 3 (I4 67) 0) L c := by
        refine lp0 (P := fun d => Z_M_writesOn_1_2 g Q 66 [(0, .ref 59), (1, .int 1), (2, .int 2), (3, .int (nI (Fr I0 (gf I0) 0 0 A j))), (4, .int (nI (nv I0 2 + j))), (5, .int (nI (Fr I0 (gf I0) 0 0 A j))), (6, .int (nI d))] [] (fl I4 68 3 (I4 67) d) L c) 2 ?_ ?_
        · refine r_M_writesOn_1_2_66 (br_t (by decide) ?_)
          rw [nI_1]
          refine ih _ _ (Keep.fl w1 (Or.inr rfl)) (fun k hk => ?_) pk4 m1 (fun _ k hk => ?_)
          · rw [fl_out (by omega), w2 k (by omega)]; exact kl k hk
          · rw [fl_in hk, Nat.add_sub_cancel, m2]
            exact w4 k (by rw [List.length_append, List.length_cons, pl_len, hA]; omega)
        · intro d hd ih2
          have e1 : Int32.toNatClampNeg (3 + nI d) = 3 + d := ixa 3 d (by omega)
          refine r_M_writesOn_1_2_66 (br_f (nI_ge (b := 2) hd (by omega)) ⟨vp_in_nI (by omega) (by omega), via 3 d 9 (by omega) (by omega), ?_⟩)
          rw [e1, nI_clamp (by omega), nI_1, fl_ne (by omega)]
          have := fl_s I4 68 3 (I4 67) d
          rw [← this] at ih2
          exact ih2
      rw [fl_0] at cp
      exact cp
    · obtain ⟨m1, m2, m3⟩ := MXi_no mx FB z
      rw [nI_1]
      refine ih I4 x w1 (fun k hk => by rw [w2 k (by omega)]; exact kl k hk) pk4 m1 (fun _ k hk => ?_)
      rw [Nat.add_sub_cancel, m3, w2 _ (by omega)]
      exact kp m2 k hk
theorem m_writes_2_3 {A : List Nat} {Q : mI → mL → gm_cfg → Prop} (h0 : FM I0) (hk0 : Keep I0 L0 I L) (hA : A.length = 2) (hAb : ∀ k, k < A.length → A.getD k 0 ≤ 2000) (hp : PM I A) (hq : ∀ I' : mI, Keep I0 L0 I' L → (∀ k, k < 6 → I' 68 k = I 68 k) → PM I' (A ++ pl I0 (gf I0) 0 1 A) → Q I' L c) : C_M_writesOn_2_3 g I L c Q := by
  have hLo := gLo h0
  have hHi := gHi h0
  have hb := gw_b h0
  have eW : nv I0 2 + gw I0 = nv I0 3 + 1 := by show nv I0 2 + (nv I0 3 - nv I0 2 + 1) = _; omega
  refine e_M_writesOn_2_3 ?_
  have FB := fun x => Fg_b h0 (r := 0) (A := A) x
  rw [show I 60 2 = nI (nv I0 2) by rw [I60_k hk0]; exact hLo.1]
  have key := lp0 (P := fun j => ∀ (I' : mI) (x : Int32), Keep I0 L0 I' L → (∀ k, k < 6 → I' 68 k = I 68 k) → PM I' A → MXi (Fr I0 (gf I0) 0 0 A) j x → (1 ≤ j → ∀ k, k < 3 → I' 68 (6 + k) = nI ((A ++ (nv I0 2 + ag (Fr I0 (gf I0) 0 0 A) (j - 1)) :: pl I0 (gf I0) 0 0 (A ++ [nv I0 2 + ag (Fr I0 (gf I0) 0 0 A) (j - 1)])).getD k 0)) → Z_M_writesOn_2_3 g Q 16 [(0, .ref 59), (1, .int 2), (2, .int 3), (3, .int x), (4, .int (nI (nv I0 2 + j)))] [] I' L c) (gw I0) ?_ ?_
  · exact key I (-1) hk0 (fun _ _ => rfl) hp (Or.inl ⟨rfl, rfl⟩) (fun q => absurd q (by omega))
  · intro I' x k1 kl pk mx kp
    refine r_M_writesOn_2_3_16 (br_t (by rw [show I' 60 3 = nI (nv I0 3) by rw [I60_k k1]; exact hHi.1]; exact nI_lt (by omega) (by omega)) ?_)
    have fin5 : Z_M_writesOn_2_3 g Q 105 [(0, .ref 59), (1, .int 2), (2, .int 3), (3, .int x), (4, .int (nI (2 + 0)))] [] (fl I' 67 2 (fun k => I' 68 (6 + (2 + k))) 0) L c := by
      refine lp0 (P := fun d => Z_M_writesOn_2_3 g Q 105 [(0, .ref 59), (1, .int 2), (2, .int 3), (3, .int x), (4, .int (nI (2 + d)))] [] (fl I' 67 2 (fun k => I' 68 (6 + (2 + k))) d) L c) 1 ?_ ?_
      · refine r_M_writesOn_2_3_105 (br_t (by decide) (hq _ (Keep.fl k1 (Or.inl rfl)) (fun k hk => ?_) (fun k hk => ?_)))
        · rw [fl_ne (by omega)]; exact kl k hk
        · rw [List.length_append, pl_len, hA] at hk
          rcases Nat.lt_or_ge k 2 with z | z
          · rw [fl_out (by omega), pk k (by omega), gD_l (by omega)]
          · obtain ⟨d, rfl⟩ : ∃ d, k = 2 + d := ⟨k - 2, by omega⟩
            rw [fl_in (by omega), kp (by omega) (2 + d) (by omega)]
            rfl
      · intro d hd ih
        have e1 : Int32.toNatClampNeg (6 + nI (2 + d)) = 6 + (2 + d) := ixa 6 (2 + d) (by omega)
        refine r_M_writesOn_2_3_105 (br_f (nI_ge (b := 3) (by omega) (by omega)) ⟨via 6 (2 + d) 9 (by omega) (by omega), vp_in_nI (by omega) (by omega), ?_⟩)
        rw [e1, nI_clamp (by omega), nI_1, fl_ne (by omega)]
        have := fl_s I' 67 2 (fun k => I' 68 (6 + (2 + k))) d
        rw [← this] at ih
        exact ih
    rw [fl_0] at fin5
    exact fin5
  · intro j hj ih I' x k1 kl pk mx kp
    have hj2 : nv I0 2 + j ≤ 1200 := by omega
    have k2 : Keep I0 L0 (gm_u I' 67 2 (nI (nv I0 2 + j))) L := k1.tr (Keep.u rfl)
    have p2 : PM (gm_u I' 67 2 (nI (nv I0 2 + j))) (A ++ (nv I0 2 + j) :: pl I0 (gf I0) 0 0 (A ++ [nv I0 2 + j])) := by
      intro k hk
      rw [List.length_append, List.length_cons, pl_len, hA] at hk
      rcases Nat.lt_or_ge k A.length with z | z
      · rw [gm_u_ne2 _ _ _ _ (by omega), pk k z, gD_l z]
      · have ek : k = A.length + 0 := by omega
        have ek2 : k = 2 := by omega
        rw [show (A ++ (nv I0 2 + j) :: pl I0 (gf I0) 0 0 (A ++ [nv I0 2 + j])).getD k 0 = nv I0 2 + j by rw [ek, gD_r]; rfl, ek2, gm_u_eq]
    have e4 : ∀ (Q' : Int32 → mI → mL → gm_cfg → Prop), (∀ I4 : mI, Keep I0 L0 I4 L → (∀ k, k < 9 → I4 68 k = I' 68 k) → PM I4 (A ++ (nv I0 2 + j) :: pl I0 (gf I0) 0 0 (A ++ [nv I0 2 + j])) → Q' (nI (Fr I0 (gf I0) 0 0 A j)) I4 L c) → C_M_writesOn_3_3 g (gm_u I' 67 2 (nI (nv I0 2 + j))) L c (fun I1 L2 c3 => C_M_weightFor g 2 3 I1 L2 c3 Q') := by
      intro Q' hq'
      refine e_M_writesOn_3_3 ?_
      exact m_weightFor (i := 2) (n := 3) (A := A) (B := pl I0 (gf I0) 0 0 (A ++ [nv I0 2 + j])) h0 k2 hA (by rw [pl_len]) (by omega) p2 (by omega) hAb (fun k hk => absurd hk (by rw [pl_len]; omega)) (hq' _ k2 (fun k hk => rfl) p2)
    refine r_M_writesOn_2_3_16 (br_f (by rw [show I' 60 3 = nI (nv I0 3) by rw [I60_k k1]; exact hHi.1]; exact nI_nlt (by omega) (by omega)) (e4 _ (fun I4 w1 w2 w4 => ?_)))
    have pk4 : PM I4 A := fun k hk => by
      rw [w4 k (by rw [List.length_append]; omega), gD_l hk]
    rw [show nv I0 2 + (j + 1) = nv I0 2 + j + 1 by omega] at ih
    refine br_c (fun z => ?_) (fun z => ?_)
    · obtain ⟨m1, m2⟩ := MXi_yes mx FB z
      have cp : Z_M_writesOn_2_3 g Q 66 [(0, .ref 59), (1, .int 2), (2, .int 3), (3, .int (nI (Fr I0 (gf I0) 0 0 A j))), (4, .int (nI (nv I0 2 + j))), (5, .int (nI (Fr I0 (gf I0) 0 0 A j))), (6, .int (nI 0))] [] (fl I4 68 6 (I4 67) 0) L c := by
        refine lp0 (P := fun d => Z_M_writesOn_2_3 g Q 66 [(0, .ref 59), (1, .int 2), (2, .int 3), (3, .int (nI (Fr I0 (gf I0) 0 0 A j))), (4, .int (nI (nv I0 2 + j))), (5, .int (nI (Fr I0 (gf I0) 0 0 A j))), (6, .int (nI d))] [] (fl I4 68 6 (I4 67) d) L c) 3 ?_ ?_
        · refine r_M_writesOn_2_3_66 (br_t (by decide) ?_)
          rw [nI_1]
          refine ih _ _ (Keep.fl w1 (Or.inr rfl)) (fun k hk => ?_) pk4 m1 (fun _ k hk => ?_)
          · rw [fl_out (by omega), w2 k (by omega)]; exact kl k hk
          · rw [fl_in hk, Nat.add_sub_cancel, m2]
            exact w4 k (by rw [List.length_append, List.length_cons, pl_len, hA]; omega)
        · intro d hd ih2
          have e1 : Int32.toNatClampNeg (6 + nI d) = 6 + d := ixa 6 d (by omega)
          refine r_M_writesOn_2_3_66 (br_f (nI_ge (b := 3) hd (by omega)) ⟨vp_in_nI (by omega) (by omega), via 6 d 9 (by omega) (by omega), ?_⟩)
          rw [e1, nI_clamp (by omega), nI_1, fl_ne (by omega)]
          have := fl_s I4 68 6 (I4 67) d
          rw [← this] at ih2
          exact ih2
      rw [fl_0] at cp
      exact cp
    · obtain ⟨m1, m2, m3⟩ := MXi_no mx FB z
      rw [nI_1]
      refine ih I4 x w1 (fun k hk => by rw [w2 k (by omega)]; exact kl k hk) pk4 m1 (fun _ k hk => ?_)
      rw [Nat.add_sub_cancel, m3, w2 _ (by omega)]
      exact kp m2 k hk
theorem m_writes_0_2 {A : List Nat} {Q : mI → mL → gm_cfg → Prop} (h0 : FM I0) (hk0 : Keep I0 L0 I L) (hA : A.length = 0) (hAb : ∀ k, k < A.length → A.getD k 0 ≤ 2000) (hp : PM I A) (hq : ∀ I' : mI, Keep I0 L0 I' L → (∀ k, k < 0 → I' 68 k = I 68 k) → PM I' (A ++ pl I0 (gf I0) 0 2 A) → Q I' L c) : C_M_writesOn_0_2 g I L c Q := by
  have hLo := gLo h0
  have hHi := gHi h0
  have hb := gw_b h0
  have eW : nv I0 2 + gw I0 = nv I0 3 + 1 := by show nv I0 2 + (nv I0 3 - nv I0 2 + 1) = _; omega
  refine e_M_writesOn_0_2 ?_
  have FB := fun x => Fg_b h0 (r := 1) (A := A) x
  rw [show I 60 2 = nI (nv I0 2) by rw [I60_k hk0]; exact hLo.1]
  have key := lp0 (P := fun j => ∀ (I' : mI) (x : Int32), Keep I0 L0 I' L → (∀ k, k < 0 → I' 68 k = I 68 k) → PM I' A → MXi (Fr I0 (gf I0) 0 1 A) j x → (1 ≤ j → ∀ k, k < 2 → I' 68 (0 + k) = nI ((A ++ (nv I0 2 + ag (Fr I0 (gf I0) 0 1 A) (j - 1)) :: pl I0 (gf I0) 0 1 (A ++ [nv I0 2 + ag (Fr I0 (gf I0) 0 1 A) (j - 1)])).getD k 0)) → Z_M_writesOn_0_2 g Q 16 [(0, .ref 59), (1, .int 0), (2, .int 2), (3, .int x), (4, .int (nI (nv I0 2 + j)))] [] I' L c) (gw I0) ?_ ?_
  · exact key I (-1) hk0 (fun _ _ => rfl) hp (Or.inl ⟨rfl, rfl⟩) (fun q => absurd q (by omega))
  · intro I' x k1 kl pk mx kp
    refine r_M_writesOn_0_2_16 (br_t (by rw [show I' 60 3 = nI (nv I0 3) by rw [I60_k k1]; exact hHi.1]; exact nI_lt (by omega) (by omega)) ?_)
    have fin5 : Z_M_writesOn_0_2 g Q 105 [(0, .ref 59), (1, .int 0), (2, .int 2), (3, .int x), (4, .int (nI (0 + 0)))] [] (fl I' 67 0 (fun k => I' 68 (0 + (0 + k))) 0) L c := by
      refine lp0 (P := fun d => Z_M_writesOn_0_2 g Q 105 [(0, .ref 59), (1, .int 0), (2, .int 2), (3, .int x), (4, .int (nI (0 + d)))] [] (fl I' 67 0 (fun k => I' 68 (0 + (0 + k))) d) L c) 2 ?_ ?_
      · refine r_M_writesOn_0_2_105 (br_t (by decide) (hq _ (Keep.fl k1 (Or.inl rfl)) (fun k hk => ?_) (fun k hk => ?_)))
        · rw [fl_ne (by omega)]; exact kl k hk
        · rw [List.length_append, pl_len, hA] at hk
          rcases Nat.lt_or_ge k 0 with z | z
          · rw [fl_out (by omega), pk k (by omega), gD_l (by omega)]
          · obtain ⟨d, rfl⟩ : ∃ d, k = 0 + d := ⟨k - 0, by omega⟩
            rw [fl_in (by omega), kp (by omega) (0 + d) (by omega)]
            rfl
      · intro d hd ih
        have e1 : Int32.toNatClampNeg (0 + nI (0 + d)) = 0 + (0 + d) := ixa 0 (0 + d) (by omega)
        refine r_M_writesOn_0_2_105 (br_f (nI_ge (b := 2) (by omega) (by omega)) ⟨via 0 (0 + d) 9 (by omega) (by omega), vp_in_nI (by omega) (by omega), ?_⟩)
        rw [e1, nI_clamp (by omega), nI_1, fl_ne (by omega)]
        have := fl_s I' 67 0 (fun k => I' 68 (0 + (0 + k))) d
        rw [← this] at ih
        exact ih
    rw [fl_0] at fin5
    exact fin5
  · intro j hj ih I' x k1 kl pk mx kp
    have hj2 : nv I0 2 + j ≤ 1200 := by omega
    have k2 : Keep I0 L0 (gm_u I' 67 0 (nI (nv I0 2 + j))) L := k1.tr (Keep.u rfl)
    have p2 : ∀ k, k < 1 → (gm_u I' 67 0 (nI (nv I0 2 + j))) 67 k = nI ((A ++ (nv I0 2 + j) :: pl I0 (gf I0) 0 1 (A ++ [nv I0 2 + j])).getD k 0) := by
      intro k hk
      skip
      rcases Nat.lt_or_ge k A.length with z | z
      · rw [gm_u_ne2 _ _ _ _ (by omega), pk k z, gD_l z]
      · have ek : k = A.length + 0 := by omega
        have ek2 : k = 0 := by omega
        rw [show (A ++ (nv I0 2 + j) :: pl I0 (gf I0) 0 1 (A ++ [nv I0 2 + j])).getD k 0 = nv I0 2 + j by rw [ek, gD_r]; rfl, ek2, gm_u_eq]
    have e4 : ∀ (Q' : Int32 → mI → mL → gm_cfg → Prop), (∀ I4 : mI, Keep I0 L0 I4 L → (∀ k, k < 3 → I4 68 k = I' 68 k) → PM I4 (A ++ (nv I0 2 + j) :: pl I0 (gf I0) 0 1 (A ++ [nv I0 2 + j])) → Q' (nI (Fr I0 (gf I0) 0 1 A j)) I4 L c) → C_M_writesOn_1_2 g (gm_u I' 67 0 (nI (nv I0 2 + j))) L c (fun I1 L2 c3 => C_M_weightFor g 0 2 I1 L2 c3 Q') := by
      intro Q' hq'
      have lA : (A ++ [nv I0 2 + j]).length = 1 := by rw [List.length_append, hA]; rfl
      refine m_writes_1_2 (A := A ++ [nv I0 2 + j]) h0 k2 lA ?_ ?_ (fun I3 y1 y2 y3 => ?_)
      · intro k hk
        rcases Nat.lt_or_ge k A.length with z | z
        · rw [gD_l z]; exact hAb k z
        · rw [lA] at hk
          rw [show k = A.length + 0 by omega, gD_r]
          show nv I0 2 + j ≤ 2000
          omega
      · intro k hk
        rw [lA] at hk
        have := p2 k hk
        rw [this]
        rcases Nat.lt_or_ge k A.length with z | z
        · rw [gD_l z, gD_l z]
        · rw [show k = A.length + 0 by omega, gD_r, gD_r]; rfl
      · have y4 : PM I3 (A ++ (nv I0 2 + j) :: pl I0 (gf I0) 0 1 (A ++ [nv I0 2 + j])) := by
          rw [List.append_assoc] at y3
          exact y3
        refine m_weightFor (i := 0) (n := 2) (A := A) (B := pl I0 (gf I0) 0 1 (A ++ [nv I0 2 + j])) h0 y1 hA (by rw [pl_len]) (by omega) y4 (by omega) hAb (fun k hk => ?_) (hq' I3 y1 (fun k hk => ?_) y4)
        · have := (pl_b h0 (f := gf I0) (many := 0) 1 (A ++ [nv I0 2 + j]) k (by rw [pl_len] at hk; exact hk)).2
          omega
        · rw [y2 k (by omega)]; rfl
    refine r_M_writesOn_0_2_16 (br_f (by rw [show I' 60 3 = nI (nv I0 3) by rw [I60_k k1]; exact hHi.1]; exact nI_nlt (by omega) (by omega)) (e4 _ (fun I4 w1 w2 w4 => ?_)))
    have pk4 : PM I4 A := fun k hk => by
      rw [w4 k (by rw [List.length_append]; omega), gD_l hk]
    rw [show nv I0 2 + (j + 1) = nv I0 2 + j + 1 by omega] at ih
    refine br_c (fun z => ?_) (fun z => ?_)
    · obtain ⟨m1, m2⟩ := MXi_yes mx FB z
      have cp : Z_M_writesOn_0_2 g Q 66 [(0, .ref 59), (1, .int 0), (2, .int 2), (3, .int (nI (Fr I0 (gf I0) 0 1 A j))), (4, .int (nI (nv I0 2 + j))), (5, .int (nI (Fr I0 (gf I0) 0 1 A j))), (6, .int (nI 0))] [] (fl I4 68 0 (I4 67) 0) L c := by
        refine lp0 (P := fun d => Z_M_writesOn_0_2 g Q 66 [(0, .ref 59), (1, .int 0), (2, .int 2), (3, .int (nI (Fr I0 (gf I0) 0 1 A j))), (4, .int (nI (nv I0 2 + j))), (5, .int (nI (Fr I0 (gf I0) 0 1 A j))), (6, .int (nI d))] [] (fl I4 68 0 (I4 67) d) L c) 2 ?_ ?_
        · refine r_M_writesOn_0_2_66 (br_t (by decide) ?_)
          rw [nI_1]
          refine ih _ _ (Keep.fl w1 (Or.inr rfl)) (fun k hk => ?_) pk4 m1 (fun _ k hk => ?_)
          · rw [fl_out (by omega), w2 k (by omega)]; exact kl k hk
          · rw [fl_in hk, Nat.add_sub_cancel, m2]
            exact w4 k (by rw [List.length_append, List.length_cons, pl_len, hA]; omega)
        · intro d hd ih2
          have e1 : Int32.toNatClampNeg (0 + nI d) = 0 + d := ixa 0 d (by omega)
          refine r_M_writesOn_0_2_66 (br_f (nI_ge (b := 2) hd (by omega)) ⟨vp_in_nI (by omega) (by omega), via 0 d 9 (by omega) (by omega), ?_⟩)
          rw [e1, nI_clamp (by omega), nI_1, fl_ne (by omega)]
          have := fl_s I4 68 0 (I4 67) d
          rw [← this] at ih2
          exact ih2
      rw [fl_0] at cp
      exact cp
    · obtain ⟨m1, m2, m3⟩ := MXi_no mx FB z
      rw [nI_1]
      refine ih I4 x w1 (fun k hk => by rw [w2 k (by omega)]; exact kl k hk) pk4 m1 (fun _ k hk => ?_)
      rw [Nat.add_sub_cancel, m3, w2 _ (by omega)]
      exact kp m2 k hk
theorem m_writes_1_3 {A : List Nat} {Q : mI → mL → gm_cfg → Prop} (h0 : FM I0) (hk0 : Keep I0 L0 I L) (hA : A.length = 1) (hAb : ∀ k, k < A.length → A.getD k 0 ≤ 2000) (hp : PM I A) (hq : ∀ I' : mI, Keep I0 L0 I' L → (∀ k, k < 3 → I' 68 k = I 68 k) → PM I' (A ++ pl I0 (gf I0) 0 2 A) → Q I' L c) : C_M_writesOn_1_3 g I L c Q := by
  have hLo := gLo h0
  have hHi := gHi h0
  have hb := gw_b h0
  have eW : nv I0 2 + gw I0 = nv I0 3 + 1 := by show nv I0 2 + (nv I0 3 - nv I0 2 + 1) = _; omega
  refine e_M_writesOn_1_3 ?_
  have FB := fun x => Fg_b h0 (r := 1) (A := A) x
  rw [show I 60 2 = nI (nv I0 2) by rw [I60_k hk0]; exact hLo.1]
  have key := lp0 (P := fun j => ∀ (I' : mI) (x : Int32), Keep I0 L0 I' L → (∀ k, k < 3 → I' 68 k = I 68 k) → PM I' A → MXi (Fr I0 (gf I0) 0 1 A) j x → (1 ≤ j → ∀ k, k < 3 → I' 68 (3 + k) = nI ((A ++ (nv I0 2 + ag (Fr I0 (gf I0) 0 1 A) (j - 1)) :: pl I0 (gf I0) 0 1 (A ++ [nv I0 2 + ag (Fr I0 (gf I0) 0 1 A) (j - 1)])).getD k 0)) → Z_M_writesOn_1_3 g Q 16 [(0, .ref 59), (1, .int 1), (2, .int 3), (3, .int x), (4, .int (nI (nv I0 2 + j)))] [] I' L c) (gw I0) ?_ ?_
  · exact key I (-1) hk0 (fun _ _ => rfl) hp (Or.inl ⟨rfl, rfl⟩) (fun q => absurd q (by omega))
  · intro I' x k1 kl pk mx kp
    refine r_M_writesOn_1_3_16 (br_t (by rw [show I' 60 3 = nI (nv I0 3) by rw [I60_k k1]; exact hHi.1]; exact nI_lt (by omega) (by omega)) ?_)
    have fin5 : Z_M_writesOn_1_3 g Q 105 [(0, .ref 59), (1, .int 1), (2, .int 3), (3, .int x), (4, .int (nI (1 + 0)))] [] (fl I' 67 1 (fun k => I' 68 (3 + (1 + k))) 0) L c := by
      refine lp0 (P := fun d => Z_M_writesOn_1_3 g Q 105 [(0, .ref 59), (1, .int 1), (2, .int 3), (3, .int x), (4, .int (nI (1 + d)))] [] (fl I' 67 1 (fun k => I' 68 (3 + (1 + k))) d) L c) 2 ?_ ?_
      · refine r_M_writesOn_1_3_105 (br_t (by decide) (hq _ (Keep.fl k1 (Or.inl rfl)) (fun k hk => ?_) (fun k hk => ?_)))
        · rw [fl_ne (by omega)]; exact kl k hk
        · rw [List.length_append, pl_len, hA] at hk
          rcases Nat.lt_or_ge k 1 with z | z
          · rw [fl_out (by omega), pk k (by omega), gD_l (by omega)]
          · obtain ⟨d, rfl⟩ : ∃ d, k = 1 + d := ⟨k - 1, by omega⟩
            rw [fl_in (by omega), kp (by omega) (1 + d) (by omega)]
            rfl
      · intro d hd ih
        have e1 : Int32.toNatClampNeg (3 + nI (1 + d)) = 3 + (1 + d) := ixa 3 (1 + d) (by omega)
        refine r_M_writesOn_1_3_105 (br_f (nI_ge (b := 3) (by omega) (by omega)) ⟨via 3 (1 + d) 9 (by omega) (by omega), vp_in_nI (by omega) (by omega), ?_⟩)
        rw [e1, nI_clamp (by omega), nI_1, fl_ne (by omega)]
        have := fl_s I' 67 1 (fun k => I' 68 (3 + (1 + k))) d
        rw [← this] at ih
        exact ih
    rw [fl_0] at fin5
    exact fin5
  · intro j hj ih I' x k1 kl pk mx kp
    have hj2 : nv I0 2 + j ≤ 1200 := by omega
    have k2 : Keep I0 L0 (gm_u I' 67 1 (nI (nv I0 2 + j))) L := k1.tr (Keep.u rfl)
    have p2 : ∀ k, k < 2 → (gm_u I' 67 1 (nI (nv I0 2 + j))) 67 k = nI ((A ++ (nv I0 2 + j) :: pl I0 (gf I0) 0 1 (A ++ [nv I0 2 + j])).getD k 0) := by
      intro k hk
      skip
      rcases Nat.lt_or_ge k A.length with z | z
      · rw [gm_u_ne2 _ _ _ _ (by omega), pk k z, gD_l z]
      · have ek : k = A.length + 0 := by omega
        have ek2 : k = 1 := by omega
        rw [show (A ++ (nv I0 2 + j) :: pl I0 (gf I0) 0 1 (A ++ [nv I0 2 + j])).getD k 0 = nv I0 2 + j by rw [ek, gD_r]; rfl, ek2, gm_u_eq]
    have e4 : ∀ (Q' : Int32 → mI → mL → gm_cfg → Prop), (∀ I4 : mI, Keep I0 L0 I4 L → (∀ k, k < 6 → I4 68 k = I' 68 k) → PM I4 (A ++ (nv I0 2 + j) :: pl I0 (gf I0) 0 1 (A ++ [nv I0 2 + j])) → Q' (nI (Fr I0 (gf I0) 0 1 A j)) I4 L c) → C_M_writesOn_2_3 g (gm_u I' 67 1 (nI (nv I0 2 + j))) L c (fun I1 L2 c3 => C_M_weightFor g 1 3 I1 L2 c3 Q') := by
      intro Q' hq'
      have lA : (A ++ [nv I0 2 + j]).length = 2 := by rw [List.length_append, hA]; rfl
      refine m_writes_2_3 (A := A ++ [nv I0 2 + j]) h0 k2 lA ?_ ?_ (fun I3 y1 y2 y3 => ?_)
      · intro k hk
        rcases Nat.lt_or_ge k A.length with z | z
        · rw [gD_l z]; exact hAb k z
        · rw [lA] at hk
          rw [show k = A.length + 0 by omega, gD_r]
          show nv I0 2 + j ≤ 2000
          omega
      · intro k hk
        rw [lA] at hk
        have := p2 k hk
        rw [this]
        rcases Nat.lt_or_ge k A.length with z | z
        · rw [gD_l z, gD_l z]
        · rw [show k = A.length + 0 by omega, gD_r, gD_r]; rfl
      · have y4 : PM I3 (A ++ (nv I0 2 + j) :: pl I0 (gf I0) 0 1 (A ++ [nv I0 2 + j])) := by
          rw [List.append_assoc] at y3
          exact y3
        refine m_weightFor (i := 1) (n := 3) (A := A) (B := pl I0 (gf I0) 0 1 (A ++ [nv I0 2 + j])) h0 y1 hA (by rw [pl_len]) (by omega) y4 (by omega) hAb (fun k hk => ?_) (hq' I3 y1 (fun k hk => ?_) y4)
        · have := (pl_b h0 (f := gf I0) (many := 0) 1 (A ++ [nv I0 2 + j]) k (by rw [pl_len] at hk; exact hk)).2
          omega
        · rw [y2 k (by omega)]; rfl
    refine r_M_writesOn_1_3_16 (br_f (by rw [show I' 60 3 = nI (nv I0 3) by rw [I60_k k1]; exact hHi.1]; exact nI_nlt (by omega) (by omega)) (e4 _ (fun I4 w1 w2 w4 => ?_)))
    have pk4 : PM I4 A := fun k hk => by
      rw [w4 k (by rw [List.length_append]; omega), gD_l hk]
    rw [show nv I0 2 + (j + 1) = nv I0 2 + j + 1 by omega] at ih
    refine br_c (fun z => ?_) (fun z => ?_)
    · obtain ⟨m1, m2⟩ := MXi_yes mx FB z
      have cp : Z_M_writesOn_1_3 g Q 66 [(0, .ref 59), (1, .int 1), (2, .int 3), (3, .int (nI (Fr I0 (gf I0) 0 1 A j))), (4, .int (nI (nv I0 2 + j))), (5, .int (nI (Fr I0 (gf I0) 0 1 A j))), (6, .int (nI 0))] [] (fl I4 68 3 (I4 67) 0) L c := by
        refine lp0 (P := fun d => Z_M_writesOn_1_3 g Q 66 [(0, .ref 59), (1, .int 1), (2, .int 3), (3, .int (nI (Fr I0 (gf I0) 0 1 A j))), (4, .int (nI (nv I0 2 + j))), (5, .int (nI (Fr I0 (gf I0) 0 1 A j))), (6, .int (nI d))] [] (fl I4 68 3 (I4 67) d) L c) 3 ?_ ?_
        · refine r_M_writesOn_1_3_66 (br_t (by decide) ?_)
          rw [nI_1]
          refine ih _ _ (Keep.fl w1 (Or.inr rfl)) (fun k hk => ?_) pk4 m1 (fun _ k hk => ?_)
          · rw [fl_out (by omega), w2 k (by omega)]; exact kl k hk
          · rw [fl_in hk, Nat.add_sub_cancel, m2]
            exact w4 k (by rw [List.length_append, List.length_cons, pl_len, hA]; omega)
        · intro d hd ih2
          have e1 : Int32.toNatClampNeg (3 + nI d) = 3 + d := ixa 3 d (by omega)
          refine r_M_writesOn_1_3_66 (br_f (nI_ge (b := 3) hd (by omega)) ⟨vp_in_nI (by omega) (by omega), via 3 d 9 (by omega) (by omega), ?_⟩)
          rw [e1, nI_clamp (by omega), nI_1, fl_ne (by omega)]
          have := fl_s I4 68 3 (I4 67) d
          rw [← this] at ih2
          exact ih2
      rw [fl_0] at cp
      exact cp
    · obtain ⟨m1, m2, m3⟩ := MXi_no mx FB z
      rw [nI_1]
      refine ih I4 x w1 (fun k hk => by rw [w2 k (by omega)]; exact kl k hk) pk4 m1 (fun _ k hk => ?_)
      rw [Nat.add_sub_cancel, m3, w2 _ (by omega)]
      exact kp m2 k hk
theorem m_writes_0_3 {A : List Nat} {Q : mI → mL → gm_cfg → Prop} (h0 : FM I0) (hk0 : Keep I0 L0 I L) (hA : A.length = 0) (hAb : ∀ k, k < A.length → A.getD k 0 ≤ 2000) (hp : PM I A) (hq : ∀ I' : mI, Keep I0 L0 I' L → (∀ k, k < 0 → I' 68 k = I 68 k) → PM I' (A ++ pl I0 (gf I0) 0 3 A) → Q I' L c) : C_M_writesOn_0_3 g I L c Q := by
  have hLo := gLo h0
  have hHi := gHi h0
  have hb := gw_b h0
  have eW : nv I0 2 + gw I0 = nv I0 3 + 1 := by show nv I0 2 + (nv I0 3 - nv I0 2 + 1) = _; omega
  refine e_M_writesOn_0_3 ?_
  have FB := fun x => Fg_b h0 (r := 2) (A := A) x
  rw [show I 60 2 = nI (nv I0 2) by rw [I60_k hk0]; exact hLo.1]
  have key := lp0 (P := fun j => ∀ (I' : mI) (x : Int32), Keep I0 L0 I' L → (∀ k, k < 0 → I' 68 k = I 68 k) → PM I' A → MXi (Fr I0 (gf I0) 0 2 A) j x → (1 ≤ j → ∀ k, k < 3 → I' 68 (0 + k) = nI ((A ++ (nv I0 2 + ag (Fr I0 (gf I0) 0 2 A) (j - 1)) :: pl I0 (gf I0) 0 2 (A ++ [nv I0 2 + ag (Fr I0 (gf I0) 0 2 A) (j - 1)])).getD k 0)) → Z_M_writesOn_0_3 g Q 16 [(0, .ref 59), (1, .int 0), (2, .int 3), (3, .int x), (4, .int (nI (nv I0 2 + j)))] [] I' L c) (gw I0) ?_ ?_
  · exact key I (-1) hk0 (fun _ _ => rfl) hp (Or.inl ⟨rfl, rfl⟩) (fun q => absurd q (by omega))
  · intro I' x k1 kl pk mx kp
    refine r_M_writesOn_0_3_16 (br_t (by rw [show I' 60 3 = nI (nv I0 3) by rw [I60_k k1]; exact hHi.1]; exact nI_lt (by omega) (by omega)) ?_)
    have fin5 : Z_M_writesOn_0_3 g Q 105 [(0, .ref 59), (1, .int 0), (2, .int 3), (3, .int x), (4, .int (nI (0 + 0)))] [] (fl I' 67 0 (fun k => I' 68 (0 + (0 + k))) 0) L c := by
      refine lp0 (P := fun d => Z_M_writesOn_0_3 g Q 105 [(0, .ref 59), (1, .int 0), (2, .int 3), (3, .int x), (4, .int (nI (0 + d)))] [] (fl I' 67 0 (fun k => I' 68 (0 + (0 + k))) d) L c) 3 ?_ ?_
      · refine r_M_writesOn_0_3_105 (br_t (by decide) (hq _ (Keep.fl k1 (Or.inl rfl)) (fun k hk => ?_) (fun k hk => ?_)))
        · rw [fl_ne (by omega)]; exact kl k hk
        · rw [List.length_append, pl_len, hA] at hk
          rcases Nat.lt_or_ge k 0 with z | z
          · rw [fl_out (by omega), pk k (by omega), gD_l (by omega)]
          · obtain ⟨d, rfl⟩ : ∃ d, k = 0 + d := ⟨k - 0, by omega⟩
            rw [fl_in (by omega), kp (by omega) (0 + d) (by omega)]
            rfl
      · intro d hd ih
        have e1 : Int32.toNatClampNeg (0 + nI (0 + d)) = 0 + (0 + d) := ixa 0 (0 + d) (by omega)
        refine r_M_writesOn_0_3_105 (br_f (nI_ge (b := 3) (by omega) (by omega)) ⟨via 0 (0 + d) 9 (by omega) (by omega), vp_in_nI (by omega) (by omega), ?_⟩)
        rw [e1, nI_clamp (by omega), nI_1, fl_ne (by omega)]
        have := fl_s I' 67 0 (fun k => I' 68 (0 + (0 + k))) d
        rw [← this] at ih
        exact ih
    rw [fl_0] at fin5
    exact fin5
  · intro j hj ih I' x k1 kl pk mx kp
    have hj2 : nv I0 2 + j ≤ 1200 := by omega
    have k2 : Keep I0 L0 (gm_u I' 67 0 (nI (nv I0 2 + j))) L := k1.tr (Keep.u rfl)
    have p2 : ∀ k, k < 1 → (gm_u I' 67 0 (nI (nv I0 2 + j))) 67 k = nI ((A ++ (nv I0 2 + j) :: pl I0 (gf I0) 0 2 (A ++ [nv I0 2 + j])).getD k 0) := by
      intro k hk
      skip
      rcases Nat.lt_or_ge k A.length with z | z
      · rw [gm_u_ne2 _ _ _ _ (by omega), pk k z, gD_l z]
      · have ek : k = A.length + 0 := by omega
        have ek2 : k = 0 := by omega
        rw [show (A ++ (nv I0 2 + j) :: pl I0 (gf I0) 0 2 (A ++ [nv I0 2 + j])).getD k 0 = nv I0 2 + j by rw [ek, gD_r]; rfl, ek2, gm_u_eq]
    have e4 : ∀ (Q' : Int32 → mI → mL → gm_cfg → Prop), (∀ I4 : mI, Keep I0 L0 I4 L → (∀ k, k < 3 → I4 68 k = I' 68 k) → PM I4 (A ++ (nv I0 2 + j) :: pl I0 (gf I0) 0 2 (A ++ [nv I0 2 + j])) → Q' (nI (Fr I0 (gf I0) 0 2 A j)) I4 L c) → C_M_writesOn_1_3 g (gm_u I' 67 0 (nI (nv I0 2 + j))) L c (fun I1 L2 c3 => C_M_weightFor g 0 3 I1 L2 c3 Q') := by
      intro Q' hq'
      have lA : (A ++ [nv I0 2 + j]).length = 1 := by rw [List.length_append, hA]; rfl
      refine m_writes_1_3 (A := A ++ [nv I0 2 + j]) h0 k2 lA ?_ ?_ (fun I3 y1 y2 y3 => ?_)
      · intro k hk
        rcases Nat.lt_or_ge k A.length with z | z
        · rw [gD_l z]; exact hAb k z
        · rw [lA] at hk
          rw [show k = A.length + 0 by omega, gD_r]
          show nv I0 2 + j ≤ 2000
          omega
      · intro k hk
        rw [lA] at hk
        have := p2 k hk
        rw [this]
        rcases Nat.lt_or_ge k A.length with z | z
        · rw [gD_l z, gD_l z]
        · rw [show k = A.length + 0 by omega, gD_r, gD_r]; rfl
      · have y4 : PM I3 (A ++ (nv I0 2 + j) :: pl I0 (gf I0) 0 2 (A ++ [nv I0 2 + j])) := by
          rw [List.append_assoc] at y3
          exact y3
        refine m_weightFor (i := 0) (n := 3) (A := A) (B := pl I0 (gf I0) 0 2 (A ++ [nv I0 2 + j])) h0 y1 hA (by rw [pl_len]) (by omega) y4 (by omega) hAb (fun k hk => ?_) (hq' I3 y1 (fun k hk => ?_) y4)
        · have := (pl_b h0 (f := gf I0) (many := 0) 2 (A ++ [nv I0 2 + j]) k (by rw [pl_len] at hk; exact hk)).2
          omega
        · rw [y2 k (by omega)]; rfl
    refine r_M_writesOn_0_3_16 (br_f (by rw [show I' 60 3 = nI (nv I0 3) by rw [I60_k k1]; exact hHi.1]; exact nI_nlt (by omega) (by omega)) (e4 _ (fun I4 w1 w2 w4 => ?_)))
    have pk4 : PM I4 A := fun k hk => by
      rw [w4 k (by rw [List.length_append]; omega), gD_l hk]
    rw [show nv I0 2 + (j + 1) = nv I0 2 + j + 1 by omega] at ih
    refine br_c (fun z => ?_) (fun z => ?_)
    · obtain ⟨m1, m2⟩ := MXi_yes mx FB z
      have cp : Z_M_writesOn_0_3 g Q 66 [(0, .ref 59), (1, .int 0), (2, .int 3), (3, .int (nI (Fr I0 (gf I0) 0 2 A j))), (4, .int (nI (nv I0 2 + j))), (5, .int (nI (Fr I0 (gf I0) 0 2 A j))), (6, .int (nI 0))] [] (fl I4 68 0 (I4 67) 0) L c := by
        refine lp0 (P := fun d => Z_M_writesOn_0_3 g Q 66 [(0, .ref 59), (1, .int 0), (2, .int 3), (3, .int (nI (Fr I0 (gf I0) 0 2 A j))), (4, .int (nI (nv I0 2 + j))), (5, .int (nI (Fr I0 (gf I0) 0 2 A j))), (6, .int (nI d))] [] (fl I4 68 0 (I4 67) d) L c) 3 ?_ ?_
        · refine r_M_writesOn_0_3_66 (br_t (by decide) ?_)
          rw [nI_1]
          refine ih _ _ (Keep.fl w1 (Or.inr rfl)) (fun k hk => ?_) pk4 m1 (fun _ k hk => ?_)
          · rw [fl_out (by omega), w2 k (by omega)]; exact kl k hk
          · rw [fl_in hk, Nat.add_sub_cancel, m2]
            exact w4 k (by rw [List.length_append, List.length_cons, pl_len, hA]; omega)
        · intro d hd ih2
          have e1 : Int32.toNatClampNeg (0 + nI d) = 0 + d := ixa 0 d (by omega)
          refine r_M_writesOn_0_3_66 (br_f (nI_ge (b := 3) hd (by omega)) ⟨vp_in_nI (by omega) (by omega), via 0 d 9 (by omega) (by omega), ?_⟩)
          rw [e1, nI_clamp (by omega), nI_1, fl_ne (by omega)]
          have := fl_s I4 68 0 (I4 67) d
          rw [← this] at ih2
          exact ih2
      rw [fl_0] at cp
      exact cp
    · obtain ⟨m1, m2, m3⟩ := MXi_no mx FB z
      rw [nI_1]
      refine ih I4 x w1 (fun k hk => by rw [w2 k (by omega)]; exact kl k hk) pk4 m1 (fun _ k hk => ?_)
      rw [Nat.add_sub_cancel, m3, w2 _ (by omega)]
      exact kp m2 k hk
theorem b20_1 (p : Nat) (h : p ≤ 2000) (k : Nat) (hk : k < [p].length) : [p].getD k 0 ≤ 2000 := by
  match k, hk with
  | 0, _ => exact h
theorem b20_2 (p q : Nat) (h : p ≤ 2000) (h' : q ≤ 2000) (k : Nat) (hk : k < [p, q].length) : [p, q].getD k 0 ≤ 2000 := by
  match k, hk with
  | 0, _ => exact h
  | 1, _ => exact h'
theorem P_game_1 {y : Int32} (hI : Inv I L c) : C_J_game_1 g y I L c (mQ (C_M_game_1 g y)) := by
  have h : FS0 I := hI.1
  have hm0 := FS0.m h
  have hT : FM (gm_u I 59 0 0) := FM.k (FS0.m h) (kT (L := L))
  have hG := fG h
  have hLo := fLo h
  have hHi := fHi h
  have hb := gw_b (FS0.m h)
  have eW : nv I 2 + gw I = nv I 3 + 1 := by show nv I 2 + (nv I 3 - nv I 2 + 1) = _; omega
  obtain ⟨p0, hp0⟩ : ∃ p, p = (bst I (gf I) 0 0 []) := ⟨_, rfl⟩
  have hf : sN (gf I) (gw I) < 2 ^ 62 := by have := gf_b hm0; omega
  have wide : (I 16 1 - I 16 0 < 24) ↔ gw I ≤ 24 := by
    rw [hLo.2.2.2, hHi.2.2.2, pk_sub hHi.2.2.1]
    constructor
    · intro q; have := nlt (b := 24) q (by omega) (by omega); omega
    · intro q; exact nI_lt (b := 24) (by omega) (by omega)
  have LP : ∀ Q : mI → mL → gm_cfg → Prop, (∀ (I2 : mI) (L1 : mL), JW I L I2 L1 (gf I) 0 → PK I2 [p0] → Q I2 L1 c) → C_Sr_lay g 0 0 I L c (fun I1 L2 c3 => C_Wr_play_0_1 g I1 L2 c3 Q) := by
    intro Q hq
    refine j_lay (m := 0) (many := 0) h hI.2.2.2.2.2.2.2 (Nat.zero_le _) (Nat.zero_le _) (fun I1 L1 a1 a2 a3 a4 => ?_)
    have k1 : Keep I L I1 L1 := Keep.l (Keep.o a2 perY) (fun o q => a3 o (by
      unfold perL at q
      split at q <;> first | rfl | cases q)) a4
    refine e_Wr_play_0_1 (j_choose_0_1 (A := []) a1 hm0 hf rfl (fun k hk => absurd hk (Nat.not_lt_zero k)) PK0 (fun I' b1 _ b3 => hq I' L1 ⟨a1.ko b1, KeepC k1 b1⟩ ?_))
    subst hp0
    exact b3
  have MP : ∀ (I2 : mI) (L2 : mL) (Q : mI → mL → gm_cfg → Prop), Keep I L I2 L2 → (∀ I3 : mI, Keep I L I3 L2 → PM I3 [p0] → Q I3 L2 c) → C_M_writesOn_0_1 g (gm_u I2 59 0 0) L2 c Q := by
    intro I2 L2 Q k2 hq
    refine m_writes_0_1 (I0 := I) (L0 := L) (A := []) hm0 (k2.tr kT) rfl (fun k hk => absurd hk (Nat.not_lt_zero k)) (fun k hk => absurd hk (Nat.not_lt_zero k)) (fun I' b1 _ b3 => hq I' b1 ?_)
    subst hp0
    exact b3
  have bb0 : nv I 2 ≤ p0 ∧ p0 ≤ nv I 3 := by rw [hp0]; exact bst_b hm0
  rcases inR y 1 (by omega) with ⟨j, hj, rfl⟩ | hy
  · refine e_J_game_1 (br_f (nI_pos (by omega)) (br_f (nI_ge (b := 1) hj (by omega)) (br_t (nI_lt (b := 10) (by omega) (by omega)) (br_c (fun z => LP _ (fun I2 L1 w2 q2 => ⟨vp_in_nI (by omega) (by omega), ?_⟩)) (fun z => ?_)))))
    · have hw24 := wide.mp z
      match j, hj with
          | 0, _ =>
            have e30 : I2 30 0 = nI p0 := q2 0 (by simp)
            rw [show Int32.toNatClampNeg (nI 0) = 0 from rfl, e30]
            refine e_M_game_1 (m_within (fun _ _ => bt (m_0t (j := 0) (n := 0) rfl (by omega) (by omega) (bt (m_gw (I0 := I) (I60_k (w2.2.tr kT)) (FM.k hm0 (w2.2.tr kT)) (br_t (nI_le (b := 24) (by omega) (by omega)) (MP I2 L1 _ w2.2 (fun I3 k3 p3 => br_f (by decide) ⟨vp_in_nI (n := 0) (by omega) (by omega), ?_⟩))))))) (fun z => absurd ⟨by decide, by decide⟩ z))
            rw [show Int32.toNatClampNeg (nI 0) = 0 from rfl, show I3 67 0 = nI p0 from p3 0 (by simp)]
            exact fin hI rfl k3
    · have hw24 : ¬ gw I ≤ 24 := fun q => z (wide.mpr q)
      exact e_M_game_1 (m_within (fun _ _ => bt (m_0t (j := j) (n := 0) rfl (by omega) (by omega) (bt (m_gw (I0 := I) rfl hT (br_f (nI_ge (a := 24) (by omega) (by omega)) (fin hI rfl kT)))))) (fun z => absurd ⟨by decide, by decide⟩ z))
  · rcases inAB y 10 10 (by omega) (by omega) with ⟨j', j1, j2, rfl⟩ | hy2
    · obtain ⟨j, rfl⟩ : ∃ j, j' = 10 + j := ⟨j' - 10, by omega⟩
      have hj : j < 1 := by omega
      refine e_J_game_1 (br_f (nI_pos (by omega)) (br_t (nI_le (a := 1) (by omega) (by omega)) (br_f (nI_nlt (b := 10) (by omega) (by omega)) (br_f (nI_ge (b := 11) (by omega) (by omega)) (br_c (fun z => LP _ (fun I2 L1 w2 q2 => ?_)) (fun z => ?_))))))
      · have hw24 := wide.mp z
        match j, hj with
          | 0, _ =>
            rw [show (nI (10 + 0) - 10 : Int32) = nI 0 from pk_sub (a := 10 + 0) (b := 10) (by omega)]
            refine j_share (A := []) (B := []) (v := p0) (i := 0) (n := 1) w2.1 hm0 rfl rfl (by omega) q2 bb0 (fun k hk => absurd hk (Nat.not_lt_zero k)) (fun k hk => absurd hk (Nat.not_lt_zero k)) (fun I4 a4 => ?_)
            have k4 := KeepC w2.2 (pC24 a4)
            rw [lN_i]
            refine e_M_game_1 (m_within (fun _ _ => bt (m_wf (a := 0) (b := 0) rfl rfl (by omega) (by omega) (Or.inr (nI_lt (a := 0) (by omega) (by omega))) (bf (m_wt (j := 10 + 0) (a := 10) (b := 10) rfl rfl (by omega) (by omega) (by omega) (bt (m_gw (I0 := I) (I60_k (k4.tr kT)) (FM.k hm0 (k4.tr kT)) (br_t (nI_le (b := 24) (by omega) (by omega)) (MP I4 L1 _ k4 (fun I3 k3 p3 => br_t (nI_le (a := 10) (by omega) (by omega)) ?_))))))))) (fun z => absurd ⟨by decide, by decide⟩ z))
            rw [show (nI (10 + 0) - 10 : Int32) = nI 0 from pk_sub (a := 10 + 0) (b := 10) (by omega)]
            exact m_weightFor (A := []) (B := []) (v := p0) (i := 0) (n := 1) hm0 k3 rfl rfl (by omega) p3 (by omega) (fun k hk => absurd hk (Nat.not_lt_zero k)) (fun k hk => absurd hk (Nat.not_lt_zero k)) (fin hI rfl k3)
      · have hw24 : ¬ gw I ≤ 24 := fun q => z (wide.mpr q)
        exact e_M_game_1 (m_within (fun _ _ => bt (m_wf (a := 0) (b := 0) rfl rfl (by omega) (by omega) (Or.inr (nI_lt (a := 0) (by omega) (by omega))) (bf (m_wt (j := 10 + j) (a := 10) (b := 10) rfl rfl (by omega) (by omega) (by omega) (bt (m_gw (I0 := I) rfl hT (br_f (nI_ge (a := 24) (by omega) (by omega)) (fin hI rfl kT)))))))) (fun z => absurd ⟨by decide, by decide⟩ z))
    · have M : mQ (C_M_game_1 g y) (-2) I L c := e_M_game_1 (m_within (fun _ _ => bt (m_0f (n := 0) rfl (by omega) hy (bf (m_wf (a := 10) (b := 10) rfl rfl (by omega) (by omega) hy2 (bf (fin hI rfl kT)))))) (fun z => absurd ⟨by decide, by decide⟩ z))
      have lt10 : ¬ 11 ≤ y → y < 10 := fun q => by
        rcases hy2 with w | w
        · exact w
        · exfalso
          apply q
          rw [Int32.lt_iff_toInt_lt, nI_toInt (by omega)] at w
          rw [Int32.le_iff_toInt_le]
          have e : (11 : Int32).toInt = 11 := rfl
          omega
      refine e_J_game_1 (br_c (fun z => br_c (fun _ => M) (fun z2 => br_c (fun _ => M) (fun z3 => absurd (lt10 z3) z2))) (fun z => br_t (hy.resolve_left z) (br_c (fun _ => M) (fun z2 => br_c (fun _ => M) (fun z3 => absurd (lt10 z3) z2)))))
theorem P_game_2 {y : Int32} (hI : Inv I L c) : C_J_game_2 g y I L c (mQ (C_M_game_2 g y)) := by
  have h : FS0 I := hI.1
  have hm0 := FS0.m h
  have hT : FM (gm_u I 59 0 0) := FM.k (FS0.m h) (kT (L := L))
  have hG := fG h
  have hLo := fLo h
  have hHi := fHi h
  have hb := gw_b (FS0.m h)
  have eW : nv I 2 + gw I = nv I 3 + 1 := by show nv I 2 + (nv I 3 - nv I 2 + 1) = _; omega
  obtain ⟨p0, hp0⟩ : ∃ p, p = (bst I (gf I) 0 1 []) := ⟨_, rfl⟩
  obtain ⟨p1, hp1⟩ : ∃ p, p = (bst I (gf I) 0 0 [(bst I (gf I) 0 1 [])]) := ⟨_, rfl⟩
  have hf : sN (gf I) (gw I) < 2 ^ 62 := by have := gf_b hm0; omega
  have wide : (I 16 1 - I 16 0 < 24) ↔ gw I ≤ 24 := by
    rw [hLo.2.2.2, hHi.2.2.2, pk_sub hHi.2.2.1]
    constructor
    · intro q; have := nlt (b := 24) q (by omega) (by omega); omega
    · intro q; exact nI_lt (b := 24) (by omega) (by omega)
  have LP : ∀ Q : mI → mL → gm_cfg → Prop, (∀ (I2 : mI) (L1 : mL), JW I L I2 L1 (gf I) 0 → PK I2 [p0, p1] → Q I2 L1 c) → C_Sr_lay g 0 0 I L c (fun I1 L2 c3 => C_Wr_play_0_2 g I1 L2 c3 Q) := by
    intro Q hq
    refine j_lay (m := 0) (many := 0) h hI.2.2.2.2.2.2.2 (Nat.zero_le _) (Nat.zero_le _) (fun I1 L1 a1 a2 a3 a4 => ?_)
    have k1 : Keep I L I1 L1 := Keep.l (Keep.o a2 perY) (fun o q => a3 o (by
      unfold perL at q
      split at q <;> first | rfl | cases q)) a4
    refine e_Wr_play_0_2 (j_choose_0_2 (A := []) a1 hm0 hf rfl (fun k hk => absurd hk (Nat.not_lt_zero k)) PK0 (fun I' b1 _ b3 => hq I' L1 ⟨a1.ko b1, KeepC k1 b1⟩ ?_))
    subst hp1 hp0
    exact b3
  have MP : ∀ (I2 : mI) (L2 : mL) (Q : mI → mL → gm_cfg → Prop), Keep I L I2 L2 → (∀ I3 : mI, Keep I L I3 L2 → PM I3 [p0, p1] → Q I3 L2 c) → C_M_writesOn_0_2 g (gm_u I2 59 0 0) L2 c Q := by
    intro I2 L2 Q k2 hq
    refine m_writes_0_2 (I0 := I) (L0 := L) (A := []) hm0 (k2.tr kT) rfl (fun k hk => absurd hk (Nat.not_lt_zero k)) (fun k hk => absurd hk (Nat.not_lt_zero k)) (fun I' b1 _ b3 => hq I' b1 ?_)
    subst hp1 hp0
    exact b3
  have bb0 : nv I 2 ≤ p0 ∧ p0 ≤ nv I 3 := by rw [hp0]; exact bst_b hm0
  have bb1 : nv I 2 ≤ p1 ∧ p1 ≤ nv I 3 := by rw [hp1]; exact bst_b hm0
  rcases inR y 2 (by omega) with ⟨j, hj, rfl⟩ | hy
  · refine e_J_game_2 (br_f (nI_pos (by omega)) (br_f (nI_ge (b := 2) hj (by omega)) (br_t (nI_lt (b := 10) (by omega) (by omega)) (br_c (fun z => LP _ (fun I2 L1 w2 q2 => ⟨vp_in_nI (by omega) (by omega), ?_⟩)) (fun z => ?_)))))
    · have hw24 := wide.mp z
      match j, hj with
          | 0, _ =>
            have e30 : I2 30 0 = nI p0 := q2 0 (by simp)
            rw [show Int32.toNatClampNeg (nI 0) = 0 from rfl, e30]
            refine e_M_game_2 (m_within (fun _ _ => bt (m_0t (j := 0) (n := 1) rfl (by omega) (by omega) (bt (m_gw (I0 := I) (I60_k (w2.2.tr kT)) (FM.k hm0 (w2.2.tr kT)) (br_t (nI_le (b := 24) (by omega) (by omega)) (MP I2 L1 _ w2.2 (fun I3 k3 p3 => br_f (by decide) ⟨vp_in_nI (n := 0) (by omega) (by omega), ?_⟩))))))) (fun z => absurd ⟨by decide, by decide⟩ z))
            rw [show Int32.toNatClampNeg (nI 0) = 0 from rfl, show I3 67 0 = nI p0 from p3 0 (by simp)]
            exact fin hI rfl k3
          | 1, _ =>
            have e30 : I2 30 1 = nI p1 := q2 1 (by simp)
            rw [show Int32.toNatClampNeg (nI 1) = 1 from rfl, e30]
            refine e_M_game_2 (m_within (fun _ _ => bt (m_0t (j := 1) (n := 1) rfl (by omega) (by omega) (bt (m_gw (I0 := I) (I60_k (w2.2.tr kT)) (FM.k hm0 (w2.2.tr kT)) (br_t (nI_le (b := 24) (by omega) (by omega)) (MP I2 L1 _ w2.2 (fun I3 k3 p3 => br_f (by decide) ⟨vp_in_nI (n := 1) (by omega) (by omega), ?_⟩))))))) (fun z => absurd ⟨by decide, by decide⟩ z))
            rw [show Int32.toNatClampNeg (nI 1) = 1 from rfl, show I3 67 1 = nI p1 from p3 1 (by simp)]
            exact fin hI rfl k3
    · have hw24 : ¬ gw I ≤ 24 := fun q => z (wide.mpr q)
      exact e_M_game_2 (m_within (fun _ _ => bt (m_0t (j := j) (n := 1) rfl (by omega) (by omega) (bt (m_gw (I0 := I) rfl hT (br_f (nI_ge (a := 24) (by omega) (by omega)) (fin hI rfl kT)))))) (fun z => absurd ⟨by decide, by decide⟩ z))
  · rcases inAB y 10 11 (by omega) (by omega) with ⟨j', j1, j2, rfl⟩ | hy2
    · obtain ⟨j, rfl⟩ : ∃ j, j' = 10 + j := ⟨j' - 10, by omega⟩
      have hj : j < 2 := by omega
      refine e_J_game_2 (br_f (nI_pos (by omega)) (br_t (nI_le (a := 2) (by omega) (by omega)) (br_f (nI_nlt (b := 10) (by omega) (by omega)) (br_f (nI_ge (b := 12) (by omega) (by omega)) (br_c (fun z => LP _ (fun I2 L1 w2 q2 => ?_)) (fun z => ?_))))))
      · have hw24 := wide.mp z
        match j, hj with
          | 0, _ =>
            rw [show (nI (10 + 0) - 10 : Int32) = nI 0 from pk_sub (a := 10 + 0) (b := 10) (by omega)]
            refine j_share (A := []) (B := [p1]) (v := p0) (i := 0) (n := 2) w2.1 hm0 rfl rfl (by omega) q2 bb0 (fun k hk => absurd hk (Nat.not_lt_zero k)) (b20_1 p1 (by omega)) (fun I4 a4 => ?_)
            have k4 := KeepC w2.2 (pC24 a4)
            rw [lN_i]
            refine e_M_game_2 (m_within (fun _ _ => bt (m_wf (a := 0) (b := 1) rfl rfl (by omega) (by omega) (Or.inr (nI_lt (a := 1) (by omega) (by omega))) (bf (m_wt (j := 10 + 0) (a := 10) (b := 11) rfl rfl (by omega) (by omega) (by omega) (bt (m_gw (I0 := I) (I60_k (k4.tr kT)) (FM.k hm0 (k4.tr kT)) (br_t (nI_le (b := 24) (by omega) (by omega)) (MP I4 L1 _ k4 (fun I3 k3 p3 => br_t (nI_le (a := 10) (by omega) (by omega)) ?_))))))))) (fun z => absurd ⟨by decide, by decide⟩ z))
            rw [show (nI (10 + 0) - 10 : Int32) = nI 0 from pk_sub (a := 10 + 0) (b := 10) (by omega)]
            exact m_weightFor (A := []) (B := [p1]) (v := p0) (i := 0) (n := 2) hm0 k3 rfl rfl (by omega) p3 (by omega) (fun k hk => absurd hk (Nat.not_lt_zero k)) (b20_1 p1 (by omega)) (fin hI rfl k3)
          | 1, _ =>
            rw [show (nI (10 + 1) - 10 : Int32) = nI 1 from pk_sub (a := 10 + 1) (b := 10) (by omega)]
            refine j_share (A := [p0]) (B := []) (v := p1) (i := 1) (n := 2) w2.1 hm0 rfl rfl (by omega) q2 bb1 (b20_1 p0 (by omega)) (fun k hk => absurd hk (Nat.not_lt_zero k)) (fun I4 a4 => ?_)
            have k4 := KeepC w2.2 (pC24 a4)
            rw [lN_i]
            refine e_M_game_2 (m_within (fun _ _ => bt (m_wf (a := 0) (b := 1) rfl rfl (by omega) (by omega) (Or.inr (nI_lt (a := 1) (by omega) (by omega))) (bf (m_wt (j := 10 + 1) (a := 10) (b := 11) rfl rfl (by omega) (by omega) (by omega) (bt (m_gw (I0 := I) (I60_k (k4.tr kT)) (FM.k hm0 (k4.tr kT)) (br_t (nI_le (b := 24) (by omega) (by omega)) (MP I4 L1 _ k4 (fun I3 k3 p3 => br_t (nI_le (a := 10) (by omega) (by omega)) ?_))))))))) (fun z => absurd ⟨by decide, by decide⟩ z))
            rw [show (nI (10 + 1) - 10 : Int32) = nI 1 from pk_sub (a := 10 + 1) (b := 10) (by omega)]
            exact m_weightFor (A := [p0]) (B := []) (v := p1) (i := 1) (n := 2) hm0 k3 rfl rfl (by omega) p3 (by omega) (b20_1 p0 (by omega)) (fun k hk => absurd hk (Nat.not_lt_zero k)) (fin hI rfl k3)
      · have hw24 : ¬ gw I ≤ 24 := fun q => z (wide.mpr q)
        exact e_M_game_2 (m_within (fun _ _ => bt (m_wf (a := 0) (b := 1) rfl rfl (by omega) (by omega) (Or.inr (nI_lt (a := 1) (by omega) (by omega))) (bf (m_wt (j := 10 + j) (a := 10) (b := 11) rfl rfl (by omega) (by omega) (by omega) (bt (m_gw (I0 := I) rfl hT (br_f (nI_ge (a := 24) (by omega) (by omega)) (fin hI rfl kT)))))))) (fun z => absurd ⟨by decide, by decide⟩ z))
    · have M : mQ (C_M_game_2 g y) (-2) I L c := e_M_game_2 (m_within (fun _ _ => bt (m_0f (n := 1) rfl (by omega) hy (bf (m_wf (a := 10) (b := 11) rfl rfl (by omega) (by omega) hy2 (bf (fin hI rfl kT)))))) (fun z => absurd ⟨by decide, by decide⟩ z))
      have lt10 : ¬ 12 ≤ y → y < 10 := fun q => by
        rcases hy2 with w | w
        · exact w
        · exfalso
          apply q
          rw [Int32.lt_iff_toInt_lt, nI_toInt (by omega)] at w
          rw [Int32.le_iff_toInt_le]
          have e : (12 : Int32).toInt = 12 := rfl
          omega
      refine e_J_game_2 (br_c (fun z => br_c (fun _ => M) (fun z2 => br_c (fun _ => M) (fun z3 => absurd (lt10 z3) z2))) (fun z => br_t (hy.resolve_left z) (br_c (fun _ => M) (fun z2 => br_c (fun _ => M) (fun z3 => absurd (lt10 z3) z2)))))
theorem P_game_3 {y : Int32} (hI : Inv I L c) : C_J_game_3 g y I L c (mQ (C_M_game_3 g y)) := by
  have h : FS0 I := hI.1
  have hm0 := FS0.m h
  have hT : FM (gm_u I 59 0 0) := FM.k (FS0.m h) (kT (L := L))
  have hG := fG h
  have hLo := fLo h
  have hHi := fHi h
  have hb := gw_b (FS0.m h)
  have eW : nv I 2 + gw I = nv I 3 + 1 := by show nv I 2 + (nv I 3 - nv I 2 + 1) = _; omega
  obtain ⟨p0, hp0⟩ : ∃ p, p = (bst I (gf I) 0 2 []) := ⟨_, rfl⟩
  obtain ⟨p1, hp1⟩ : ∃ p, p = (bst I (gf I) 0 1 [(bst I (gf I) 0 2 [])]) := ⟨_, rfl⟩
  obtain ⟨p2, hp2⟩ : ∃ p, p = (bst I (gf I) 0 0 [(bst I (gf I) 0 2 []), (bst I (gf I) 0 1 [(bst I (gf I) 0 2 [])])]) := ⟨_, rfl⟩
  have hf : sN (gf I) (gw I) < 2 ^ 62 := by have := gf_b hm0; omega
  have wide : (I 16 1 - I 16 0 < 24) ↔ gw I ≤ 24 := by
    rw [hLo.2.2.2, hHi.2.2.2, pk_sub hHi.2.2.1]
    constructor
    · intro q; have := nlt (b := 24) q (by omega) (by omega); omega
    · intro q; exact nI_lt (b := 24) (by omega) (by omega)
  have LP : ∀ Q : mI → mL → gm_cfg → Prop, (∀ (I2 : mI) (L1 : mL), JW I L I2 L1 (gf I) 0 → PK I2 [p0, p1, p2] → Q I2 L1 c) → C_Sr_lay g 0 0 I L c (fun I1 L2 c3 => C_Wr_play_0_3 g I1 L2 c3 Q) := by
    intro Q hq
    refine j_lay (m := 0) (many := 0) h hI.2.2.2.2.2.2.2 (Nat.zero_le _) (Nat.zero_le _) (fun I1 L1 a1 a2 a3 a4 => ?_)
    have k1 : Keep I L I1 L1 := Keep.l (Keep.o a2 perY) (fun o q => a3 o (by
      unfold perL at q
      split at q <;> first | rfl | cases q)) a4
    refine e_Wr_play_0_3 (j_choose_0_3 (A := []) a1 hm0 hf rfl (fun k hk => absurd hk (Nat.not_lt_zero k)) PK0 (fun I' b1 _ b3 => hq I' L1 ⟨a1.ko b1, KeepC k1 b1⟩ ?_))
    subst hp2 hp1 hp0
    exact b3
  have MP : ∀ (I2 : mI) (L2 : mL) (Q : mI → mL → gm_cfg → Prop), Keep I L I2 L2 → (∀ I3 : mI, Keep I L I3 L2 → PM I3 [p0, p1, p2] → Q I3 L2 c) → C_M_writesOn_0_3 g (gm_u I2 59 0 0) L2 c Q := by
    intro I2 L2 Q k2 hq
    refine m_writes_0_3 (I0 := I) (L0 := L) (A := []) hm0 (k2.tr kT) rfl (fun k hk => absurd hk (Nat.not_lt_zero k)) (fun k hk => absurd hk (Nat.not_lt_zero k)) (fun I' b1 _ b3 => hq I' b1 ?_)
    subst hp2 hp1 hp0
    exact b3
  have bb0 : nv I 2 ≤ p0 ∧ p0 ≤ nv I 3 := by rw [hp0]; exact bst_b hm0
  have bb1 : nv I 2 ≤ p1 ∧ p1 ≤ nv I 3 := by rw [hp1]; exact bst_b hm0
  have bb2 : nv I 2 ≤ p2 ∧ p2 ≤ nv I 3 := by rw [hp2]; exact bst_b hm0
  rcases inR y 3 (by omega) with ⟨j, hj, rfl⟩ | hy
  · refine e_J_game_3 (br_f (nI_pos (by omega)) (br_f (nI_ge (b := 3) hj (by omega)) (br_t (nI_lt (b := 10) (by omega) (by omega)) (br_c (fun z => LP _ (fun I2 L1 w2 q2 => ⟨vp_in_nI (by omega) (by omega), ?_⟩)) (fun z => ?_)))))
    · have hw24 := wide.mp z
      match j, hj with
          | 0, _ =>
            have e30 : I2 30 0 = nI p0 := q2 0 (by simp)
            rw [show Int32.toNatClampNeg (nI 0) = 0 from rfl, e30]
            refine e_M_game_3 (m_within (fun _ _ => bt (m_0t (j := 0) (n := 2) rfl (by omega) (by omega) (bt (m_gw (I0 := I) (I60_k (w2.2.tr kT)) (FM.k hm0 (w2.2.tr kT)) (br_t (nI_le (b := 24) (by omega) (by omega)) (MP I2 L1 _ w2.2 (fun I3 k3 p3 => br_f (by decide) ⟨vp_in_nI (n := 0) (by omega) (by omega), ?_⟩))))))) (fun z => absurd ⟨by decide, by decide⟩ z))
            rw [show Int32.toNatClampNeg (nI 0) = 0 from rfl, show I3 67 0 = nI p0 from p3 0 (by simp)]
            exact fin hI rfl k3
          | 1, _ =>
            have e30 : I2 30 1 = nI p1 := q2 1 (by simp)
            rw [show Int32.toNatClampNeg (nI 1) = 1 from rfl, e30]
            refine e_M_game_3 (m_within (fun _ _ => bt (m_0t (j := 1) (n := 2) rfl (by omega) (by omega) (bt (m_gw (I0 := I) (I60_k (w2.2.tr kT)) (FM.k hm0 (w2.2.tr kT)) (br_t (nI_le (b := 24) (by omega) (by omega)) (MP I2 L1 _ w2.2 (fun I3 k3 p3 => br_f (by decide) ⟨vp_in_nI (n := 1) (by omega) (by omega), ?_⟩))))))) (fun z => absurd ⟨by decide, by decide⟩ z))
            rw [show Int32.toNatClampNeg (nI 1) = 1 from rfl, show I3 67 1 = nI p1 from p3 1 (by simp)]
            exact fin hI rfl k3
          | 2, _ =>
            have e30 : I2 30 2 = nI p2 := q2 2 (by simp)
            rw [show Int32.toNatClampNeg (nI 2) = 2 from rfl, e30]
            refine e_M_game_3 (m_within (fun _ _ => bt (m_0t (j := 2) (n := 2) rfl (by omega) (by omega) (bt (m_gw (I0 := I) (I60_k (w2.2.tr kT)) (FM.k hm0 (w2.2.tr kT)) (br_t (nI_le (b := 24) (by omega) (by omega)) (MP I2 L1 _ w2.2 (fun I3 k3 p3 => br_f (by decide) ⟨vp_in_nI (n := 2) (by omega) (by omega), ?_⟩))))))) (fun z => absurd ⟨by decide, by decide⟩ z))
            rw [show Int32.toNatClampNeg (nI 2) = 2 from rfl, show I3 67 2 = nI p2 from p3 2 (by simp)]
            exact fin hI rfl k3
    · have hw24 : ¬ gw I ≤ 24 := fun q => z (wide.mpr q)
      exact e_M_game_3 (m_within (fun _ _ => bt (m_0t (j := j) (n := 2) rfl (by omega) (by omega) (bt (m_gw (I0 := I) rfl hT (br_f (nI_ge (a := 24) (by omega) (by omega)) (fin hI rfl kT)))))) (fun z => absurd ⟨by decide, by decide⟩ z))
  · rcases inAB y 10 12 (by omega) (by omega) with ⟨j', j1, j2, rfl⟩ | hy2
    · obtain ⟨j, rfl⟩ : ∃ j, j' = 10 + j := ⟨j' - 10, by omega⟩
      have hj : j < 3 := by omega
      refine e_J_game_3 (br_f (nI_pos (by omega)) (br_t (nI_le (a := 3) (by omega) (by omega)) (br_f (nI_nlt (b := 10) (by omega) (by omega)) (br_f (nI_ge (b := 13) (by omega) (by omega)) (br_c (fun z => LP _ (fun I2 L1 w2 q2 => ?_)) (fun z => ?_))))))
      · have hw24 := wide.mp z
        match j, hj with
          | 0, _ =>
            rw [show (nI (10 + 0) - 10 : Int32) = nI 0 from pk_sub (a := 10 + 0) (b := 10) (by omega)]
            refine j_share (A := []) (B := [p1, p2]) (v := p0) (i := 0) (n := 3) w2.1 hm0 rfl rfl (by omega) q2 bb0 (fun k hk => absurd hk (Nat.not_lt_zero k)) (b20_2 p1 p2 (by omega) (by omega)) (fun I4 a4 => ?_)
            have k4 := KeepC w2.2 (pC24 a4)
            rw [lN_i]
            refine e_M_game_3 (m_within (fun _ _ => bt (m_wf (a := 0) (b := 2) rfl rfl (by omega) (by omega) (Or.inr (nI_lt (a := 2) (by omega) (by omega))) (bf (m_wt (j := 10 + 0) (a := 10) (b := 12) rfl rfl (by omega) (by omega) (by omega) (bt (m_gw (I0 := I) (I60_k (k4.tr kT)) (FM.k hm0 (k4.tr kT)) (br_t (nI_le (b := 24) (by omega) (by omega)) (MP I4 L1 _ k4 (fun I3 k3 p3 => br_t (nI_le (a := 10) (by omega) (by omega)) ?_))))))))) (fun z => absurd ⟨by decide, by decide⟩ z))
            rw [show (nI (10 + 0) - 10 : Int32) = nI 0 from pk_sub (a := 10 + 0) (b := 10) (by omega)]
            exact m_weightFor (A := []) (B := [p1, p2]) (v := p0) (i := 0) (n := 3) hm0 k3 rfl rfl (by omega) p3 (by omega) (fun k hk => absurd hk (Nat.not_lt_zero k)) (b20_2 p1 p2 (by omega) (by omega)) (fin hI rfl k3)
          | 1, _ =>
            rw [show (nI (10 + 1) - 10 : Int32) = nI 1 from pk_sub (a := 10 + 1) (b := 10) (by omega)]
            refine j_share (A := [p0]) (B := [p2]) (v := p1) (i := 1) (n := 3) w2.1 hm0 rfl rfl (by omega) q2 bb1 (b20_1 p0 (by omega)) (b20_1 p2 (by omega)) (fun I4 a4 => ?_)
            have k4 := KeepC w2.2 (pC24 a4)
            rw [lN_i]
            refine e_M_game_3 (m_within (fun _ _ => bt (m_wf (a := 0) (b := 2) rfl rfl (by omega) (by omega) (Or.inr (nI_lt (a := 2) (by omega) (by omega))) (bf (m_wt (j := 10 + 1) (a := 10) (b := 12) rfl rfl (by omega) (by omega) (by omega) (bt (m_gw (I0 := I) (I60_k (k4.tr kT)) (FM.k hm0 (k4.tr kT)) (br_t (nI_le (b := 24) (by omega) (by omega)) (MP I4 L1 _ k4 (fun I3 k3 p3 => br_t (nI_le (a := 10) (by omega) (by omega)) ?_))))))))) (fun z => absurd ⟨by decide, by decide⟩ z))
            rw [show (nI (10 + 1) - 10 : Int32) = nI 1 from pk_sub (a := 10 + 1) (b := 10) (by omega)]
            exact m_weightFor (A := [p0]) (B := [p2]) (v := p1) (i := 1) (n := 3) hm0 k3 rfl rfl (by omega) p3 (by omega) (b20_1 p0 (by omega)) (b20_1 p2 (by omega)) (fin hI rfl k3)
          | 2, _ =>
            rw [show (nI (10 + 2) - 10 : Int32) = nI 2 from pk_sub (a := 10 + 2) (b := 10) (by omega)]
            refine j_share (A := [p0, p1]) (B := []) (v := p2) (i := 2) (n := 3) w2.1 hm0 rfl rfl (by omega) q2 bb2 (b20_2 p0 p1 (by omega) (by omega)) (fun k hk => absurd hk (Nat.not_lt_zero k)) (fun I4 a4 => ?_)
            have k4 := KeepC w2.2 (pC24 a4)
            rw [lN_i]
            refine e_M_game_3 (m_within (fun _ _ => bt (m_wf (a := 0) (b := 2) rfl rfl (by omega) (by omega) (Or.inr (nI_lt (a := 2) (by omega) (by omega))) (bf (m_wt (j := 10 + 2) (a := 10) (b := 12) rfl rfl (by omega) (by omega) (by omega) (bt (m_gw (I0 := I) (I60_k (k4.tr kT)) (FM.k hm0 (k4.tr kT)) (br_t (nI_le (b := 24) (by omega) (by omega)) (MP I4 L1 _ k4 (fun I3 k3 p3 => br_t (nI_le (a := 10) (by omega) (by omega)) ?_))))))))) (fun z => absurd ⟨by decide, by decide⟩ z))
            rw [show (nI (10 + 2) - 10 : Int32) = nI 2 from pk_sub (a := 10 + 2) (b := 10) (by omega)]
            exact m_weightFor (A := [p0, p1]) (B := []) (v := p2) (i := 2) (n := 3) hm0 k3 rfl rfl (by omega) p3 (by omega) (b20_2 p0 p1 (by omega) (by omega)) (fun k hk => absurd hk (Nat.not_lt_zero k)) (fin hI rfl k3)
      · have hw24 : ¬ gw I ≤ 24 := fun q => z (wide.mpr q)
        exact e_M_game_3 (m_within (fun _ _ => bt (m_wf (a := 0) (b := 2) rfl rfl (by omega) (by omega) (Or.inr (nI_lt (a := 2) (by omega) (by omega))) (bf (m_wt (j := 10 + j) (a := 10) (b := 12) rfl rfl (by omega) (by omega) (by omega) (bt (m_gw (I0 := I) rfl hT (br_f (nI_ge (a := 24) (by omega) (by omega)) (fin hI rfl kT)))))))) (fun z => absurd ⟨by decide, by decide⟩ z))
    · have M : mQ (C_M_game_3 g y) (-2) I L c := e_M_game_3 (m_within (fun _ _ => bt (m_0f (n := 2) rfl (by omega) hy (bf (m_wf (a := 10) (b := 12) rfl rfl (by omega) (by omega) hy2 (bf (fin hI rfl kT)))))) (fun z => absurd ⟨by decide, by decide⟩ z))
      have lt10 : ¬ 13 ≤ y → y < 10 := fun q => by
        rcases hy2 with w | w
        · exact w
        · exfalso
          apply q
          rw [Int32.lt_iff_toInt_lt, nI_toInt (by omega)] at w
          rw [Int32.le_iff_toInt_le]
          have e : (13 : Int32).toInt = 13 := rfl
          omega
      refine e_J_game_3 (br_c (fun z => br_c (fun _ => M) (fun z2 => br_c (fun _ => M) (fun z3 => absurd (lt10 z3) z2))) (fun z => br_t (hy.resolve_left z) (br_c (fun _ => M) (fun z2 => br_c (fun _ => M) (fun z3 => absurd (lt10 z3) z2)))))
theorem P_game_o {x y : Int32} (hI : Inv I L c) (hx : x < nI 1 ∨ nI 3 < x) : C_J_game g x y I L c (mQ (C_M_game g x y)) := by
  have M : mQ (C_M_game g x y) (-3) I L c := e_M_game (m_wf (a := 1) (b := 3) rfl rfl (by omega) (by omega) hx (bf (fin hI rfl kT)))
  refine e_J_game (br_c (fun _ => M) (fun z => br_f (fun w => ?_) M))
  have hx' := hx.resolve_left z
  rw [Int32.le_iff_toInt_le] at w
  rw [Int32.lt_iff_toInt_lt] at hx'
  have e1 : (3 : Int32).toInt = 3 := rfl
  have e2 : (nI 3).toInt = 3 := rfl
  omega
end Ga
