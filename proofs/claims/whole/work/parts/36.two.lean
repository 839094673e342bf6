/-! two numbers, gain, buys -/
theorem LD.t {I : mI} {L : mL} {I0 : mI} {f : Nat → Nat} {many : Nat} {a b : Int32} {v : Int64} (h : LD I L I0 f many) : LD (gm_u (gm_u I 23 8 a) 23 9 b) (gm_u L 23 10 v) I0 f many :=
  ⟨FS0.k h.1 ((Keep.u (L := L) rfl).tr (Keep.u rfl)), h.2.1, h.2.2.1, h.2.2.2.1, h.2.2.2.2.1, h.2.2.2.2.2⟩
theorem LD.v {I : mI} {L : mL} {I0 : mI} {f : Nat → Nat} {many : Nat} {v : Int64} (h : LD I L I0 f many) : LD I (gm_u L 23 10 v) I0 f many :=
  ⟨h.1, h.2.1, h.2.2.1, h.2.2.2.1, h.2.2.2.2.1, h.2.2.2.2.2⟩
theorem Keep.v {I I' : mI} {L L' : mL} {v : Int64} (h : Keep I L I' L') : Keep I L I' (gm_u L' 23 10 v) := ⟨h.1, fun o q => by
  rw [gm_u_ne _ _ _ (fun e => by subst e; cases q)]; exact h.2.1 o q, by rw [gm_u_ne _ _ _ (by omega)]; exact h.2.2⟩
theorem tin_some {G : Nat × Nat → Nat} {i : Nat} {q : Nat × Nat} : ∀ k, ∃ r, tin G i (some q) k = some r
  | 0 => ⟨q, rfl⟩
  | k + 1 => by
    obtain ⟨r, e⟩ := tin_some (G := G) (i := i) (q := q) k
    show ∃ r', tu G (tin G i (some q) k) (i, i + 1 + k) = some r'
    rw [e]
    show ∃ r', (if G r < G (i, i + 1 + k) then some (i, i + 1 + k) else some r) = some r'
    split
    · exact ⟨_, rfl⟩
    · exact ⟨_, rfl⟩
theorem tin_none {G : Nat × Nat → Nat} {i : Nat} : ∀ k, ∃ r, tin G i none (k + 1) = some r
  | 0 => ⟨_, rfl⟩
  | k + 1 => by
    obtain ⟨r, e⟩ := tin_none (G := G) (i := i) k
    show ∃ r', tu G (tin G i none (k + 1)) (i, i + 1 + (k + 1)) = some r'
    rw [e]
    show ∃ r', (if G r < G (i, i + 1 + (k + 1)) then some (i, i + 1 + (k + 1)) else some r) = some r'
    split
    · exact ⟨_, rfl⟩
    · exact ⟨_, rfl⟩
theorem tot_some {G : Nat × Nat → Nat} {W : Nat} (hW : 2 ≤ W) : ∀ i, ∃ q, tot G W (i + 1) = some q
  | 0 => by
    show ∃ q, tin G 0 none (W - 1) = some q
    rw [show W - 1 = W - 2 + 1 by omega]
    exact tin_none _
  | i + 1 => by
    obtain ⟨q, e⟩ := tot_some hW i
    show ∃ r, tin G (i + 1) (tot G W (i + 1)) (W - (i + 1 + 1)) = some r
    rw [e]
    exact tin_some _
section Tw
variable {g : gm_G} {I : mI} {L : mL} {c : gm_cfg} {I0 : mI} {L0 : mL} {f : Nat → Nat}
theorem RS_max {F T F' T' : Nat} {S S' : Nat → Prop} (h : RS F T S) (h' : RS F' T' S') : RS (if F < F' then F' else F) (if T' < T then T' else T) (fun t => S t ∧ S' t) := by
  obtain ⟨a1, a2, a3, a4⟩ := h
  obtain ⟨b1, b2, b3, b4⟩ := h'
  refine ⟨by split <;> omega, by split <;> omega, by split <;> omega, fun t => ?_⟩
  show _ ↔ S t ∧ S' t
  rw [← a4, ← b4]
  constructor
  · intro ⟨q1, q2⟩
    split at q1 <;> split at q2 <;> omega
  · intro ⟨q1, q2⟩
    split <;> split <;> omega
theorem j_two {Q : mI → mL → gm_cfg → Prop} {many : Nat} (h : FM I0) (hw : JW I0 L0 I L f many) (hf : sN f (gw I0) < 2 ^ 61) (hq : ∀ (I' : mI) (L' : mL), JW I0 L0 I' L' f many → L' 23 10 = tl (tv I0 f many) (tot (tv I0 f many) (gw I0) (gw I0)) → (∀ q, tot (tv I0 f many) (gw I0) (gw I0) = some q → I' 23 8 = nI (nv I0 2 + q.1) ∧ I' 23 9 = nI (nv I0 2 + q.2)) → Q I' L' c) : C_Sr_chooseTwo g I L c Q := by
  have hLo := gLo h
  have hHi := gHi h
  have hb := gw_b h
  have eW : nv I0 2 + gw I0 = nv I0 3 + 1 := by show nv I0 2 + (nv I0 3 - nv I0 2 + 1) = _; omega
  have GB : ∀ q, tv I0 f many q < 2 ^ 62 := fun q => by have := tv_b (I := I0) (f := f) (many := many) (q := q); omega
  refine e_Sr_chooseTwo ?_
  have key := lp0 (P := fun i => ∀ (I' : mI) (L' : mL), JW I0 L0 I' L' f many → L' 23 10 = tl (tv I0 f many) (tot (tv I0 f many) (gw I0) i) → (∀ q, tot (tv I0 f many) (gw I0) i = some q → I' 23 8 = nI (nv I0 2 + q.1) ∧ I' 23 9 = nI (nv I0 2 + q.2)) → Z_Sr_chooseTwo g Q 9 [(0, .ref 23), (1, .int (nI i))] [] I' L' c) (gw I0) ?_ ?_
  · exact key I _ ⟨hw.1.v, hw.2.v⟩ (gm_u_eq _ _ _ _) (fun q e => by cases e)
  · intro I' L' w1 v1 p1
    refine r_Sr_chooseTwo_9 (br_t (by rw [w1.1.2.2.1]; exact nI_le (Nat.le_refl _) (by omega)) (hq I' L' w1 v1 p1))
  · intro i hi ih I' L' w1 v1 p1
    refine r_Sr_chooseTwo_9 (br_f (by rw [w1.1.2.2.1]; exact nI_ge hi (by omega)) ?_)
    rw [nI_1]
    have key2 := lp0 (P := fun k => ∀ (I' : mI) (L' : mL), JW I0 L0 I' L' f many → L' 23 10 = tl (tv I0 f many) (tin (tv I0 f many) i (tot (tv I0 f many) (gw I0) i) k) → (∀ q, tin (tv I0 f many) i (tot (tv I0 f many) (gw I0) i) k = some q → I' 23 8 = nI (nv I0 2 + q.1) ∧ I' 23 9 = nI (nv I0 2 + q.2)) → Z_Sr_chooseTwo g Q 21 [(0, .ref 23), (1, .int (nI i)), (2, .int (nI (i + 1 + k)))] [] I' L' c) (gw I0 - (i + 1)) ?_ ?_
    · exact key2 I' L' w1 v1 p1
    · intro I1 L1 w2 v2 p2
      refine r_Sr_chooseTwo_21 (br_t (by rw [w2.1.2.2.1]; exact nI_le (by omega) (by omega)) ?_)
      rw [nI_1]
      exact ih I1 L1 w2 v2 p2
    · intro k hk ih2 I1 L1 w2 v2 p2
      obtain ⟨j, ej⟩ : ∃ j, j = i + 1 + k := ⟨_, rfl⟩
      have st : tin (tv I0 f many) i (tot (tv I0 f many) (gw I0) i) (k + 1) = tu (tv I0 f many) (tin (tv I0 f many) i (tot (tv I0 f many) (gw I0) i) k) (i, j) := by rw [ej]; rfl
      rw [st] at ih2
      rw [show i + 1 + (k + 1) = j + 1 by omega] at ih2
      rw [← ej]
      generalize tin (tv I0 f many) i (tot (tv I0 f many) (gw I0) i) k = s at ih2 v2 p2
      have vi : vp_in (nI i) 200 := vp_in_nI (by omega) (by omega)
      have vj : vp_in (nI j) 200 := vp_in_nI (by omega) (by omega)
      have Ti : Int32.toNatClampNeg (nI i) = i := nI_clamp (by omega)
      have Tj : Int32.toNatClampNeg (nI j) = j := nI_clamp (by omega)
      obtain ⟨l1, l2, l3, l4, l5, l6⟩ := w2.1
      have n1 : nv I1 = nv I0 := nv_60 l2
      have e16 : I1 16 0 = nI (nv I0 2) := by rw [← n1]; exact (fLo l1).2.2.2
      have ie := tv_ie (I := I0) (f := f) (many := many) (q := (i, j))
      have bi : shr I0 f many (nv I0 2 + i) [] [] ≤ sN f (gw I0) := shr_b
      have bj : shr I0 f many (nv I0 2 + j) [] [] ≤ sN f (gw I0) := shr_b
      refine r_Sr_chooseTwo_21 (br_f (by rw [l3]; exact nI_ge (by omega) (by omega)) ⟨vi, vj, ?_⟩)
      rw [Ti, Tj, l6 i hi, l6 j (by omega), lN_add, v2, nI_1]
      refine br_c (fun z => ?_) (fun z => ⟨vi, vj, vi, vj, ?_⟩)
      · have e := tu_no (p := (i, j)) GB (by omega) z (by
          have ie' : shr I0 f many (nv I0 2 + i) [] [] + shr I0 f many (nv I0 2 + j) [] [] = tv I0 f many (i, j) + tb I0 f many (i, j) := ie
          omega)
        rw [e] at ih2
        exact ih2 I1 L1 w2 v2 p2
      · obtain ⟨F, T, f1, f2, f3⟩ := l5 i hi
        obtain ⟨F', T', g1, g2, g3⟩ := l5 j (by omega)
        have q1 := f3.2.1
        have q2 := f3.2.2.1
        have q3 := g3.2.1
        have q4 := g3.2.2.1
        have eF : (if I1 26 i < I1 26 j then I1 26 j else I1 26 i : Int32) = nI (if F < F' then F' else F) := by
          rw [f1, g1]
          by_cases q : F < F'
          · rw [if_pos q, if_pos (nI_lt q (by omega))]
          · rw [if_neg q, if_neg (nI_nlt (by omega) (by omega))]
        have eT : (if I1 27 j < I1 27 i then I1 27 j else I1 27 i : Int32) = nI (if T' < T then T' else T) := by
          rw [f2, g2]
          by_cases q : T' < T
          · rw [if_pos q, if_pos (nI_lt q (by omega))]
          · rw [if_neg q, if_neg (nI_nlt (by omega) (by omega))]
        rw [eF, eT]
        refine j_sum (I0 := I0) (f := f) (P := fun x => (okb I0 many (nv I0 2 + i) (nv I0 2 + x) [] [] && okb I0 many (nv I0 2 + j) (nv I0 2 + x) [] []) = true) l1 n1 l3 l4 (RS_max f3 g3) (fun t q => q.1.1) (fun x hx => ?_) ?_
        · rw [Bool.and_eq_true, okb_iff, okb_iff, Sb_ok h (by omega) hx, Sb_ok h (by omega) hx]
          exact ⟨fun q => ⟨q.1.1, q.2.1⟩, fun q => ⟨⟨q.1, fun k hk => absurd hk (Nat.not_lt_zero k), fun k hk => absurd hk (Nat.not_lt_zero k)⟩, ⟨q.2, fun k hk => absurd hk (Nat.not_lt_zero k), fun k hk => absurd hk (Nat.not_lt_zero k)⟩⟩⟩
        · have ie' : shr I0 f many (nv I0 2 + i) [] [] + shr I0 f many (nv I0 2 + j) [] [] = tv I0 f many (i, j) + tb I0 f many (i, j) := ie
          rw [show sN (fun x => if (okb I0 many (nv I0 2 + i) (nv I0 2 + x) [] [] && okb I0 many (nv I0 2 + j) (nv I0 2 + x) [] []) = true then f x else 0) (gw I0) = tb I0 f many (i, j) from rfl, ie', lN_sub (by omega), Nat.add_sub_cancel, e16, nI_add, nI_add]
          refine e_Sr_keepTwo ?_
          rw [v2]
          refine br_c (fun z2 => ?_) (fun z2 => ?_)
          · have := GB (i, j)
            rw [tu_no GB (by omega) z2 (Nat.le_refl _)] at ih2
            exact ih2 I1 L1 w2 v2 p2
          · rw [tu_yes GB z2] at ih2
            refine ih2 _ _ ⟨w2.1.t, (w2.2.tr ((Keep.u rfl).tr (Keep.u rfl))).v⟩ (gm_u_eq _ _ _ _) (fun q e => ?_)
            cases e
            exact ⟨rfl, rfl⟩
theorem m_wtwo {Q : Int64 → mI → mL → gm_cfg → Prop} {i j : Nat} (h : FM I0) (hw : MW I0 L0 I L f) (hi : i < gw I0) (hj : j < gw I0) (hq : Q (lN (tv I0 f (nv I0 1) (i, j))) I L c) : C_M_waysByTwo g (nI (nv I0 2 + i)) (nI (nv I0 2 + j)) I L c Q := by
  have hLo := gLo h
  have hHi := gHi h
  have hB := gw_b h
  have e0 := I60_k hw.1
  have f1 : FM I := FM_c (I := I0) (fun j _ => by rw [e0]) h
  have e2 : I 60 2 = nI (nv I0 2) := by rw [e0]; exact hLo.1
  let G : Nat → Nat := fun x => if (okb I0 (nv I0 1) (nv I0 2 + i) (nv I0 2 + x) [] [] || okb I0 (nv I0 1) (nv I0 2 + j) (nv I0 2 + x) [] []) = true then f x else 0
  refine e_M_waysByTwo ?_
  refine lp0 (P := fun x => Z_M_waysByTwo g Q 5 [(0, .ref 59), (1, .int (nI (nv I0 2 + i))), (2, .int (nI (nv I0 2 + j))), (3, .long (lN (sN G x))), (5, .int (nI x))] [] I L c) (gw I0) ?_ ?_
  · exact r_M_waysByTwo_5 (m_gw (I0 := I0) e0 f1 (br_t (nI_le (Nat.le_refl _) (by omega)) hq))
  · intro x hx ih
    have v200 : vp_in (nI x) 200 := vp_in_nI (by omega) (by omega)
    have T : Int32.toNatClampNeg (nI x) = x := nI_clamp (by omega)
    have hne : nd I0 (nv I0 2 + x) ≤ 9999 := ne_le _ _ _
    have E : I 60 2 + nI x = nI (nv I0 2 + x) := by rw [e2, nI_add]
    have ad1 : ad (nv I0 2 + i) (nv I0 2 + x) < 2 ^ 30 := by unfold ad; omega
    have ad2 : ad (nv I0 2 + j) (nv I0 2 + x) < 2 ^ 30 := by unfold ad; omega
    have ok : ∀ v, okb I0 (nv I0 1) v (nv I0 2 + x) [] [] = true ↔ ad v (nv I0 2 + x) < nd I0 (nv I0 2 + x) := fun v => by
      rw [okb_iff]
      exact ⟨fun q => q.1, fun q => ⟨q, fun k hk => absurd hk (Nat.not_lt_zero k), fun k hk => absurd hk (Nat.not_lt_zero k)⟩⟩
    have sG : sN G (x + 1) = sN G x + G x := rfl
    have eG : G x = if (okb I0 (nv I0 1) (nv I0 2 + i) (nv I0 2 + x) [] [] || okb I0 (nv I0 1) (nv I0 2 + j) (nv I0 2 + x) [] []) = true then f x else 0 := rfl
    have eOk : ∀ A : Prop, (okb I0 (nv I0 1) (nv I0 2 + i) (nv I0 2 + x) [] [] || okb I0 (nv I0 1) (nv I0 2 + j) (nv I0 2 + x) [] []) = true ↔ (ad (nv I0 2 + i) (nv I0 2 + x) < nd I0 (nv I0 2 + x) ∨ ad (nv I0 2 + j) (nv I0 2 + x) < nd I0 (nv I0 2 + x)) := fun _ => by rw [Bool.or_eq_true, ok, ok]
    rw [sG] at ih
    refine r_M_waysByTwo_5 (m_gw (I0 := I0) e0 f1 (br_f (nI_ge hx (by omega)) (m_offe (a := nv I0 2 + i) E (by omega) (by omega) ⟨v200, ?_⟩)))
    rw [T, hw.2.1 x hx, nI_1]
    refine br_c (fun z => ⟨v200, ?_⟩) (fun z => m_offe (a := nv I0 2 + j) E (by omega) (by omega) ⟨v200, ?_⟩)
    · have q := nlt (a := ad (nv I0 2 + i) (nv I0 2 + x)) z (by omega) (by omega)
      rw [hw.2.2.1 x hx, lN_add]
      rw [if_pos ((eOk True).mpr (Or.inl q))] at eG
      rw [eG] at ih
      exact ih
    · have q := nnlt (a := ad (nv I0 2 + i) (nv I0 2 + x)) z (by omega)
      rw [hw.2.1 x hx]
      refine br_c (fun z2 => ?_) (fun z2 => ⟨v200, ?_⟩)
      · have q2 := nle (b := ad (nv I0 2 + j) (nv I0 2 + x)) z2 (by omega) (by omega)
        rw [if_neg (fun u => by rcases (eOk True).mp u with u | u <;> omega)] at eG
        rw [eG] at ih
        exact ih
      · have q2 := nnle (b := ad (nv I0 2 + j) (nv I0 2 + x)) z2 (by omega)
        rw [hw.2.2.1 x hx, lN_add]
        rw [if_pos ((eOk True).mpr (Or.inr q2))] at eG
        rw [eG] at ih
        exact ih
theorem m_two {Q : Int64 → mI → mL → gm_cfg → Prop} (h : FM I0) (hw : MW I0 L0 I L f) (hf : sN f (gw I0) < 2 ^ 61) (hq : ∀ I' : mI, MW I0 L0 I' L f → (∀ q, tot (tv I0 f (nv I0 1)) (gw I0) (gw I0) = some q → I' 59 21 = nI (nv I0 2 + q.1) ∧ I' 59 22 = nI (nv I0 2 + q.2)) → Q (tl (tv I0 f (nv I0 1)) (tot (tv I0 f (nv I0 1)) (gw I0) (gw I0))) I' L c) : C_M_laysTwo g I L c Q := by
  have hLo := gLo h
  have hHi := gHi h
  have hb := gw_b h
  have eW : nv I0 2 + gw I0 = nv I0 3 + 1 := by show nv I0 2 + (nv I0 3 - nv I0 2 + 1) = _; omega
  have GB : ∀ q, tv I0 f (nv I0 1) q < 2 ^ 62 := fun q => by have := tv_b (I := I0) (f := f) (many := nv I0 1) (q := q); omega
  have eT : tot (tv I0 f (nv I0 1)) (gw I0) (gw I0) = tot (tv I0 f (nv I0 1)) (gw I0) (gw I0 - 1) := by
    obtain ⟨n, hn⟩ : ∃ n, gw I0 = n + 1 := ⟨gw I0 - 1, by omega⟩
    have : tot (tv I0 f (nv I0 1)) (gw I0) (n + 1) = tin (tv I0 f (nv I0 1)) n (tot (tv I0 f (nv I0 1)) (gw I0) n) (gw I0 - (n + 1)) := rfl
    rw [show gw I0 - (n + 1) = 0 by omega] at this
    rw [show gw I0 - 1 = n by omega, ← show tot (tv I0 f (nv I0 1)) (gw I0) (n + 1) = tot (tv I0 f (nv I0 1)) (gw I0) n from this, ← hn]
  refine e_M_laysTwo ?_
  rw [show I 60 2 = nI (nv I0 2) by rw [I60_k hw.1]; exact hLo.1]
  have key := lp0 (P := fun i => ∀ (I' : mI), MW I0 L0 I' L f → (∀ q, tot (tv I0 f (nv I0 1)) (gw I0) i = some q → I' 59 21 = nI (nv I0 2 + q.1) ∧ I' 59 22 = nI (nv I0 2 + q.2)) → Z_M_laysTwo g Q 11 [(0, .ref 59), (1, .long (tl (tv I0 f (nv I0 1)) (tot (tv I0 f (nv I0 1)) (gw I0) i))), (3, .int (nI (nv I0 2 + i)))] [] I' L c) (gw I0 - 1) ?_ ?_
  · exact key I hw (fun q e => by cases e)
  · intro I' w1 p1
    refine r_M_laysTwo_11 (br_t (by rw [show I' 60 3 = nI (nv I0 3) by rw [I60_k w1.1]; exact hHi.1]; exact nI_le (by omega) (by omega)) ?_)
    rw [← eT] at p1 ⊢
    exact hq I' w1 p1
  · intro i hi ih I' w1 p1
    refine r_M_laysTwo_11 (br_f (by rw [show I' 60 3 = nI (nv I0 3) by rw [I60_k w1.1]; exact hHi.1]; exact nI_ge (by omega) (by omega)) ?_)
    rw [nI_1]
    have key2 := lp0 (P := fun k => ∀ (I' : mI), MW I0 L0 I' L f → (∀ q, tin (tv I0 f (nv I0 1)) i (tot (tv I0 f (nv I0 1)) (gw I0) i) k = some q → I' 59 21 = nI (nv I0 2 + q.1) ∧ I' 59 22 = nI (nv I0 2 + q.2)) → Z_M_laysTwo g Q 26 [(0, .ref 59), (1, .long (tl (tv I0 f (nv I0 1)) (tin (tv I0 f (nv I0 1)) i (tot (tv I0 f (nv I0 1)) (gw I0) i) k))), (3, .int (nI (nv I0 2 + i))), (4, .int (nI (nv I0 2 + i + 1 + k)))] [] I' L c) (gw I0 - (i + 1)) ?_ ?_
    · exact key2 I' w1 p1
    · intro I1 w2 p2
      refine r_M_laysTwo_26 (br_t (by rw [show I1 60 3 = nI (nv I0 3) by rw [I60_k w2.1]; exact hHi.1]; exact nI_lt (by omega) (by omega)) ?_)
      rw [nI_1]
      exact ih I1 w2 p2
    · intro k hk ih2 I1 w2 p2
      obtain ⟨j, ej⟩ : ∃ j, j = i + 1 + k := ⟨_, rfl⟩
      have st : tin (tv I0 f (nv I0 1)) i (tot (tv I0 f (nv I0 1)) (gw I0) i) (k + 1) = tu (tv I0 f (nv I0 1)) (tin (tv I0 f (nv I0 1)) i (tot (tv I0 f (nv I0 1)) (gw I0) i) k) (i, j) := by rw [ej]; rfl
      rw [st, show nv I0 2 + i + 1 + (k + 1) = nv I0 2 + j + 1 by omega] at ih2
      rw [show nv I0 2 + i + 1 + k = nv I0 2 + j by omega]
      generalize tin (tv I0 f (nv I0 1)) i (tot (tv I0 f (nv I0 1)) (gw I0) i) k = s at ih2 p2
      refine r_M_laysTwo_26 (br_f (by rw [show I1 60 3 = nI (nv I0 3) by rw [I60_k w2.1]; exact hHi.1]; exact nI_nlt (by omega) (by omega)) (m_wtwo h w2 (by omega) (by omega) ?_))
      rw [nI_1]
      refine br_c (fun z => ?_) (fun z => ?_)
      · have z2 : ¬ lN (tv I0 f (nv I0 1) (i, j)) ≤ tl (tv I0 f (nv I0 1)) s := fun q => absurd z (lg_le_not_lt q)
        rw [tu_yes GB z2] at ih2
        refine ih2 _ ⟨w2.1.tr ((Keep.u rfl).tr (Keep.u rfl)), w2.2⟩ (fun q e => ?_)
        cases e
        exact ⟨rfl, rfl⟩
      · have z2 : lN (tv I0 f (nv I0 1) (i, j)) ≤ tl (tv I0 f (nv I0 1)) s := by
          rw [Int64.lt_iff_toInt_lt] at z
          rw [Int64.le_iff_toInt_le]; omega
        have := GB (i, j)
        rw [tu_no GB (by omega) z2 (Nat.le_refl _)] at ih2
        exact ih2 I1 w2 p2
/-- is the grid one number? -/
theorem g1_iff (h : FS0 I) : (I 16 0 = I 16 1) ↔ gw I = 1 := by
  have hLo := fLo h
  have hHi := fHi h
  rw [hLo.2.2.2, hHi.2.2.2]
  have e : gw I = nv I 3 - nv I 2 + 1 := rfl
  constructor
  · intro q; have := neq q (by omega) (by omega); omega
  · intro q; congr 1; omega
theorem P_bestTwo {x y : Int32} (hI : Inv I L c) : C_J_bestTwo g x y I L c (mQ (C_M_bestTwo g x y)) := by
  have h : FS0 I := hI.1
  have hm0 := FS0.m h
  have hT : FM (gm_u I 59 0 0) := FM.k (FS0.m h) (kT (L := L))
  have hG := fG h
  have hb := gw_b (FS0.m h)
  rcases inR y 3 (by omega) with ⟨w, hw, rfl⟩ | hy
  · refine e_J_bestTwo (br_f (nI_pos (by omega)) (br_t (nI_le (b := 2) (by omega) (by omega)) ?_))
    rcases inM x hG.2.1 with ⟨m, m4, hm, rfl⟩ | hx
    · have hf : sN (ws I none m) (gw I) < 2 ^ 61 := by have := ws_S hm0 (al := none) hm m4 hb.2; omega
      refine j_canT h m4 hm (bt (br_c (fun z => ?_) (fun z => ?_)))
      · have e1 := (g1_iff h).mp z
        refine e_M_bestTwo (m_0t (n := 2) rfl (by omega) (by omega) (bt (m_allW (I0 := I) (L0 := L) hm0 kT m4 hm (fun I3 L3 w3 => bt (m_gw (I0 := I) (I60_k w3.1) (FM.k hm0 w3.1) (br_t (by rw [e1]; rfl) (fin hI rfl w3.1)))))))
      · have e1 : ¬ gw I = 1 := fun q => z ((g1_iff h).mpr q)
        obtain ⟨q, hq⟩ := tot_some (G := tv I (ws I none m) (nv I 1)) (W := gw I) (by omega) (gw I - 1)
        rw [show gw I - 1 + 1 = gw I by omega] at hq
        refine j_layW hI hm (fun I1 L1 w1 => j_two hm0 w1 hf (fun I2 L2 w2 v2 p2 => ?_))
        obtain ⟨p21, p22⟩ := p2 q hq
        have M : ∀ r, (match w with | 0 => r = Int32.toInt64 (nI (nv I 2 + q.1)) | 1 => r = Int32.toInt64 (nI (nv I 2 + q.2)) | _ => r = tl (tv I (ws I none m) (nv I 1)) (tot (tv I (ws I none m) (nv I 1)) (gw I) (gw I))) → mQ (C_M_bestTwo g (nI m) (nI w)) r I2 L2 c := by
          intro r hr
          refine e_M_bestTwo (m_0t (n := 2) rfl (by omega) (by omega) (bt (m_allW hm0 (w2.2.tr kT) m4 hm (fun I3 L3 w3 => bt (m_gw (I0 := I) (I60_k w3.1) (FM.k hm0 w3.1) (br_f (fun z => e1 (neq (b := 1) z (by omega) (by omega))) (m_two hm0 w3 hf (fun I4 w4 p4 => ?_))))))))
          obtain ⟨p41, p42⟩ := p4 q hq
          match w, hw with
          | 0, _ => exact br_t rfl (fin hI (by rw [p41]; exact hr) w4.1)
          | 1, _ => exact br_f (by decide) (br_t rfl (fin hI (by rw [p42]; exact hr) w4.1))
          | 2, _ => exact br_f (by decide) (br_f (by decide) (fin hI hr w4.1))
        match w, hw with
        | 0, _ => exact br_f (by decide) (br_t rfl (M _ (by rw [p21]; rfl)))
        | 1, _ => exact br_f (by decide) (br_f (by decide) (M _ (by rw [p22]; rfl)))
        | 2, _ => exact br_t rfl (M _ v2)
    · exact j_canF h hx (bf (e_M_bestTwo (m_0t (n := 2) rfl (by omega) (by omega) (bt (m_allF hT hx (bf (fin hI rfl kT)))))))
  · have M : mQ (C_M_bestTwo g x y) (-2) I L c := e_M_bestTwo (m_0f (n := 2) rfl (by omega) hy (bf (fin hI rfl kT)))
    refine e_J_bestTwo (br_c (fun _ => M) (fun q => br_f (fun w => ?_) M))
    have hy' := hy.resolve_left q
    rw [Int32.le_iff_toInt_le] at w hy'
    rw [nI_toInt (by omega)] at hy'
    have e : (2 : Int32).toInt = 2 := rfl
    omega
/-! gain -/
def gX (I0 : mI) (f : Nat → Nat) (k : Nat) : Int64 := match k with
  | 0 => 0
  | 1 => lN (shr I0 f (nv I0 1) (bst I0 f (nv I0 1) 0 []) [] [])
  | _ => tl (tv I0 f (nv I0 1)) (tot (tv I0 f (nv I0 1)) (gw I0) (gw I0))
def gv (I0 : mI) (f : Nat → Nat) (k : Nat) : Int64 := lN (nv I0 5) * gX I0 f k - lN (nv I0 4 * k) * lN (sN f (gw I0))
theorem gv_0 {I0 : mI} {f : Nat → Nat} : gv I0 f 0 = 0 := by
  unfold gv
  rw [Nat.mul_zero, lN_mul, Nat.zero_mul]
  show lN (nv I0 5) * 0 - 0 = 0
  rw [Int64.mul_zero]
  rfl
theorem j_gainOf {Q : Int64 → mI → mL → gm_cfg → Prop} {k : Nat} (h : FM I0) (hw : JW I0 L0 I L f (nv I0 1)) (hf : sN f (gw I0) < 2 ^ 61) (hk : k ≤ 2) (hq : ∀ (I' : mI) (L' : mL), JW I0 L0 I' L' f (nv I0 1) → Q (gv I0 f k) I' L' c) : C_J_gainOf g (nI k) I L c Q := by
  have hb := gw_b h
  have bb1 := bst_b h (f := f) (many := nv I0 1) (r := 0) (A := [])
  have tt : ∀ (I' : mI) (L' : mL) (Q' : Int64 → mI → mL → gm_cfg → Prop), JW I0 L0 I' L' f (nv I0 1) → Q' (lN (sN f (gw I0))) I' L' c → C_Sr_total g I' L' c Q' := by
    intro I' L' Q' w q
    refine e_Sr_total ?_
    rw [w.1.2.2.1, nI_clamp (by omega), w.1.2.2.2.1 _ (Nat.le_refl _)]
    exact ⟨vp_in_nI (by omega) (by omega), q⟩
  have pz : ∀ (I' : mI) (L' : mL), JW I0 L0 I' L' f (nv I0 1) → Int32.toInt64 (I' 16 11) = lN (nv I0 5) ∧ (Int32.toInt64 (I' 16 10)) * (Int32.toInt64 (nI k)) = lN (nv I0 4 * k) := by
    intro I' L' w
    have f1 := fPz w.1.1
    have f2 := fPr w.1.1
    rw [nv_60 w.1.2.1] at f1 f2
    rw [f1.2.2, f2.2.2, nI_l (by omega), nI_l (by omega), nI_l (by omega), lN_mul]
    exact ⟨rfl, rfl⟩
  match k, hk with
  | 0, _ =>
    refine e_J_gainOf (br_f (by decide) (br_f (by decide) (tt I L _ hw ?_)))
    rw [(pz I L hw).1, (pz I L hw).2]
    exact hq I L hw
  | 1, _ =>
    refine e_J_gainOf (br_t rfl (j_play1 h hw (by omega) (fun I1 w1 p1 => j_sh01 h w1 p1 bb1 (fun I2 w2 _ => tt I2 L _ w2 ?_))))
    rw [(pz I2 L w2).1, (pz I2 L w2).2]
    exact hq I2 L w2
  | 2, _ =>
    refine e_J_gainOf (br_f (by decide) (br_t rfl (j_two h hw hf (fun I1 L1 w1 v1 _ => tt I1 L1 _ w1 ?_))))
    rw [(pz I1 L1 w1).1, (pz I1 L1 w1).2, v1]
    exact hq I1 L1 w1
theorem m_gainOf {Q : Int64 → mI → mL → gm_cfg → Prop} {k : Nat} (h : FM I0) (hw : MW I0 L0 I L f) (hf : sN f (gw I0) < 2 ^ 61) (hk : k ≤ 2) (hq : ∀ (I' : mI), MW I0 L0 I' L f → Q (gv I0 f k) I' L c) : C_M_gainOf g (nI k) I L c Q := by
  have hb := gw_b h
  have hHi := gHi h
  have hLo := gLo h
  have bb1 := bst_b h (f := f) (many := nv I0 1) (r := 0) (A := [])
  have pz : ∀ (I' : mI), MW I0 L0 I' L f → Int32.toInt64 (I' 60 5) = lN (nv I0 5) ∧ Int32.toInt64 (I' 60 4 * nI k) = lN (nv I0 4 * k) := by
    intro I' w
    have f1 := gPz h
    have f2 := gPr h
    have : nv I0 4 * k ≤ 99 * 2 := Nat.mul_le_mul f2.2.1 hk
    rw [I60_k w.1, f1.1, f2.1, pk_mul, nI_l (by omega), nI_l (by omega)]
    exact ⟨rfl, rfl⟩
  match k, hk with
  | 0, _ =>
    refine e_M_gainOf (br_t rfl ?_)
    rw [(pz I hw).1, (pz I hw).2, hw.2.2.2]
    exact hq I hw
  | 1, _ =>
    refine e_M_gainOf (br_f (by decide) (br_t rfl (m_bestBy (a := none) h hw (by omega) (fun x q => by cases q) (m_ways (a := none) (b := none) h hw (Nat.le_trans bb1.2 (by omega)) (fun x q => by cases q) (fun x q => by cases q) ?_))))
    rw [(pz I hw).1, (pz I hw).2, hw.2.2.2]
    exact hq I hw
  | 2, _ =>
    refine e_M_gainOf (br_f (by decide) (br_f (by decide) (m_two h hw hf (fun I1 w1 _ => ?_))))
    rw [(pz I1 w1).1, (pz I1 w1).2, w1.2.2.2]
    exact hq I1 w1
theorem P_gain {x y : Int32} (hI : Inv I L c) : C_J_gain g x y I L c (mQ (C_M_gain g x y)) := by
  have h : FS0 I := hI.1
  have hm0 := FS0.m h
  have hT : FM (gm_u I 59 0 0) := FM.k (FS0.m h) (kT (L := L))
  have hG := fG h
  have hb := gw_b (FS0.m h)
  rcases inAB x 0 2 (by omega) (by omega) with ⟨k, -, hk, rfl⟩ | hx
  · refine e_J_gain (br_f (nI_pos (by omega)) (br_f (nI_nlt (a := 2) hk (by omega)) ?_))
    rcases inM y hG.2.1 with ⟨m, m4, hm, rfl⟩ | hy
    · have hf : sN (ws I none m) (gw I) < 2 ^ 61 := by have := ws_S hm0 (al := none) hm m4 hb.2; omega
      have go : (k = 2 → ¬ gw I = 1) → C_Sr_lay g (nI m) (I 20 2) I L c (fun I5 L6 c7 => C_J_gainOf g (nI k) I5 L6 c7 (fun r11 I8 L9 c10 => mQ (C_M_gain g (nI k) (nI m)) r11 I8 L9 c10)) := by
        intro hg
        refine j_layW hI hm (fun I1 L1 w1 => j_gainOf hm0 w1 hf hk (fun I2 L2 w2 => ?_))
        refine e_M_gain (m_0t (n := 2) rfl (by omega) hk (bt (m_allW hm0 (w2.2.tr kT) m4 hm (fun I3 L3 w3 => bt (br_c (fun z => m_gw (I0 := I) (I60_k w3.1) (FM.k hm0 w3.1) (br_f (fun z2 => hg (neq (b := 2) z (by omega) (by omega)) (neq (b := 1) z2 (by omega) (by omega))) ?_)) (fun z => ?_))))))
        · exact m_gainOf hm0 w3 hf hk (fun I4 w4 => fin hI rfl w4.1)
        · exact m_gainOf hm0 w3 hf hk (fun I4 w4 => fin hI rfl w4.1)
      refine j_canT h m4 hm (bt (br_c (fun z => br_c (fun z2 => ?_) (fun z2 => go (fun _ q => z2 ((g1_iff h).mpr q)))) (fun z => go (fun q => absurd (by rw [q]; rfl) z))))
      have e1 := (g1_iff h).mp z2
      exact e_M_gain (m_0t (n := 2) rfl (by omega) hk (bt (m_allW (I0 := I) (L0 := L) hm0 kT m4 hm (fun I3 L3 w3 => bt (br_t z (m_gw (I0 := I) (I60_k w3.1) (FM.k hm0 w3.1) (br_t (by rw [e1]; rfl) (fin hI rfl w3.1))))))))
    · exact j_canF h hy (bf (e_M_gain (m_0t (n := 2) rfl (by omega) hk (bt (m_allF hT hy (bf (fin hI rfl kT)))))))
  · have M : mQ (C_M_gain g x y) (-3) I L c := e_M_gain (m_wf (a := 0) (b := 2) rfl rfl (by omega) (by omega) hx (bf (fin hI rfl kT)))
    exact e_J_gain (br_c (fun _ => M) (fun z => br_t (hx.resolve_left z) M))
/-! buys -/
def byk (I0 : mI) (f : Nat → Nat) : Nat → Nat
  | 0 => 0
  | k + 1 => if gv I0 f (k + 1) ≤ gv I0 f (byk I0 f k) then byk I0 f k else k + 1
theorem byk_le {I0 : mI} {f : Nat → Nat} : ∀ k, byk I0 f k ≤ k
  | 0 => Nat.le_refl _
  | k + 1 => by
    have := byk_le (I0 := I0) (f := f) k
    unfold byk
    split <;> omega
theorem P_buys {x : Int32} (hI : Inv I L c) : C_J_buys g x I L c (mQ (C_M_buys g x)) := by
  have h : FS0 I := hI.1
  have hm0 := FS0.m h
  have hT : FM (gm_u I 59 0 0) := FM.k (FS0.m h) (kT (L := L))
  have hG := fG h
  have hb := gw_b (FS0.m h)
  rcases inM x hG.2.1 with ⟨m, m4, hm, rfl⟩ | hx
  · have hf : sN (ws I none m) (gw I) < 2 ^ 61 := by have := ws_S hm0 (al := none) hm m4 hb.2; omega
    obtain ⟨l, el⟩ : ∃ l : Nat, l = if gw I = 1 then 1 else 2 := ⟨_, rfl⟩
    have l2 : 1 ≤ l ∧ l ≤ 2 := by rw [el]; split <;> omega
    have M : ∀ (I2 : mI) (L2 : mL), Keep I L I2 L2 → mQ (C_M_buys g (nI m)) (nI (byk I (ws I none m) l)) I2 L2 c := by
      intro I2 L2 k2
      refine e_M_buys (m_allW hm0 (k2.tr kT) m4 hm (fun I3 L3 w3 => bt ?_))
      have key := lp0 (P := fun k => ∀ I4 : mI, MW I L I4 L3 (ws I none m) → Z_M_buys g (fun r' I2 L2 c2 => nI (byk I (ws I none m) l) = r' ∧ Inv I2 L2 c2) 20 [(0, .ref 59), (1, .int (nI m)), (2, .int (nI (byk I (ws I none m) k))), (3, .int (nI (k + 1)))] [] I4 L3 c) l ?_ ?_
      · exact key I3 w3
      · intro I4 w4
        refine r_M_buys_20 (m_gw (I0 := I) (I60_k w4.1) (FM.k hm0 w4.1) (br_c (fun z => br_t ?_ (fin hI rfl w4.1)) (fun z => br_t ?_ (fin hI rfl w4.1))))
        · exact nI_le (a := 2) (by omega) (by omega)
        · refine nI_le (a := 3) ?_ (by omega)
          rw [el, if_neg (fun q => z (by rw [q]; rfl))]; omega
      · intro k hk ih I4 w4
        have hbk := byk_le (I0 := I) (f := ws I none m) k
        have st : byk I (ws I none m) (k + 1) = if gv I (ws I none m) (k + 1) ≤ gv I (ws I none m) (byk I (ws I none m) k) then byk I (ws I none m) k else k + 1 := rfl
        rw [st] at ih
        have body : ∀ I5 : mI, MW I L I5 L3 (ws I none m) → (gv I (ws I none m) (k + 1) ≤ gv I (ws I none m) (byk I (ws I none m) k) → Z_M_buys g (fun r' I2 L2 c2 => nI (byk I (ws I none m) l) = r' ∧ Inv I2 L2 c2) 20 [(0, .ref 59), (1, .int (nI m)), (2, .int (nI (byk I (ws I none m) k))), (3, .int (nI (k + 1) + 1))] [] I5 L3 c) ∧ (¬ gv I (ws I none m) (k + 1) ≤ gv I (ws I none m) (byk I (ws I none m) k) → Z_M_buys g (fun r' I2 L2 c2 => nI (byk I (ws I none m) l) = r' ∧ Inv I2 L2 c2) 20 [(0, .ref 59), (1, .int (nI m)), (2, .int (nI (k + 1))), (3, .int (nI (k + 1) + 1))] [] I5 L3 c) := by
          intro I5 w5
          have ih5 := ih I5 w5
          rw [nI_1]
          refine br_c (fun z => ?_) (fun z => ?_)
          · rw [if_pos z] at ih5; exact ih5
          · rw [if_neg z] at ih5; exact ih5
        refine r_M_buys_20 (m_gw (I0 := I) (I60_k w4.1) (FM.k hm0 w4.1) (br_c (fun z => br_f ?_ ?_) (fun z => br_f ?_ ?_)))
        · have e1 := neq (b := 1) z (by omega) (by omega)
          rw [if_pos e1] at el
          exact nI_ge (b := 2) (by omega) (by omega)
        · exact m_gainOf hm0 w4 hf (by omega) (fun I5 w5 => m_gainOf hm0 w5 hf (by omega) (fun I6 w6 => body I6 w6))
        · exact nI_ge (b := 3) (by omega) (by omega)
        · exact m_gainOf hm0 w4 hf (by omega) (fun I5 w5 => m_gainOf hm0 w5 hf (by omega) (fun I6 w6 => body I6 w6))
    refine e_J_buys (j_canT h m4 hm (bt (j_layW hI hm (fun I1 L1 w1 => ?_))))
    have go : Z_J_buys g (mQ (C_M_buys g (nI m))) 57 [(0, .ref 0), (1, .int (nI m)), (2, .int (nI l)), (3, .int 0), (4, .long 0), (6, .int 1)] [] I1 L1 c := by
      have key := lp0 (P := fun k => ∀ (I4 : mI) (L4 : mL), JW I L I4 L4 (ws I none m) (nv I 1) → Z_J_buys g (mQ (C_M_buys g (nI m))) 57 [(0, .ref 0), (1, .int (nI m)), (2, .int (nI l)), (3, .int (nI (byk I (ws I none m) k))), (4, .long (gv I (ws I none m) (byk I (ws I none m) k))), (6, .int (nI (k + 1)))] [] I4 L4 c) l ?_ ?_
      · have := key I1 L1 w1
        rw [show byk I (ws I none m) 0 = 0 from rfl, gv_0] at this
        exact this
      · intro I4 L4 w4
        exact r_J_buys_57 (br_t (nI_lt (by omega) (by omega)) (M I4 L4 w4.2))
      · intro k hk ih I4 L4 w4
        have st : byk I (ws I none m) (k + 1) = if gv I (ws I none m) (k + 1) ≤ gv I (ws I none m) (byk I (ws I none m) k) then byk I (ws I none m) k else k + 1 := rfl
        rw [st] at ih
        refine r_J_buys_57 (br_f (nI_nlt (by omega) (by omega)) (j_gainOf hm0 w4 hf (by omega) (fun I5 L5 w5 => ?_)))
        have ih5 := ih I5 L5 w5
        rw [nI_1]
        refine br_c (fun z => ?_) (fun z => ?_)
        · rw [if_pos z] at ih5; exact ih5
        · rw [if_neg z] at ih5; exact ih5
    have g1 := g1_iff w1.1.1
    have eg : gw I1 = gw I := by show nv I1 3 - nv I1 2 + 1 = _; rw [nv_60 w1.1.2.1]
    rw [eg] at g1
    refine br_c (fun z => ?_) (fun z => ?_)
    · rw [if_pos (g1.mp z)] at el
      rw [el] at go
      exact go
    · rw [if_neg (fun q => z (g1.mpr q))] at el
      rw [el] at go
      exact go
  · exact e_J_buys (j_canF h hx (bf (e_M_buys (m_allF hT hx (bf (fin hI rfl kT))))))
end Tw
