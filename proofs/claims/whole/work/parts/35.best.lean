/-! what to write -/
def JW (I0 : mI) (L0 : mL) (I : mI) (L : mL) (f : Nat → Nat) (many : Nat) : Prop := LD I L I0 f many ∧ Keep I0 L0 I L
def MW (I0 : mI) (L0 : mL) (I : mI) (L : mL) (f : Nat → Nat) : Prop := Keep I0 L0 I L ∧ (∀ i, i < gw I0 → I 66 i = nI (nd I0 (nv I0 2 + i))) ∧ (∀ i, i < gw I0 → L 65 i = lN (f i)) ∧ L 59 19 = lN (sN f (gw I0))
theorem KeepC {I0 I I' : mI} {L0 L : mL} (h : Keep I0 L0 I L) (k : KO pC I I') : Keep I0 L0 I' L := h.tr (Keep.o k perC)
theorem ba_iff {a : Option Nat} {v t : Nat} : ba a v t = true ↔ ∀ k, k < a.toList.length → ad v t < ad (a.toList.getD k 0) t := by
  cases a with
  | none => exact ⟨fun _ k hk => absurd hk (Nat.not_lt_zero k), fun _ => rfl⟩
  | some x =>
    show decide (ad v t < ad x t) = true ↔ _
    rw [decide_eq_true_iff]
    constructor
    · intro q k hk
      have : k = 0 := by simp at hk; omega
      subst this; exact q
    · intro q; exact q 0 (by simp)
theorem bb_iff {a : Option Nat} {v t : Nat} : bb a v t = true ↔ ∀ k, k < a.toList.length → ad v t ≤ ad (a.toList.getD k 0) t := by
  cases a with
  | none => exact ⟨fun _ k hk => absurd hk (Nat.not_lt_zero k), fun _ => rfl⟩
  | some x =>
    show decide (ad v t ≤ ad x t) = true ↔ _
    rw [decide_eq_true_iff]
    constructor
    · intro q k hk
      have : k = 0 := by simp at hk; omega
      subst this; exact q
    · intro q; exact q 0 (by simp)
theorem wb_shr {I : mI} {f : Nat → Nat} {v : Nat} {a b : Option Nat} : wb I f v a b (gw I) = shr I f (nv I 1) v a.toList b.toList := by
  unfold wb shr
  refine sN_if (P := fun i => ad v (nv I 2 + i) < nd I (nv I 2 + i) ∧ ba a v (nv I 2 + i) = true ∧ bb b v (nv I 2 + i) = true) (P' := fun i => okb I (nv I 1) v (nv I 2 + i) a.toList b.toList = true) _ (fun i _ => ?_)
  rw [okb_iff, ba_iff, bb_iff]
/-! two numbers -/
theorem sN_ie {f : Nat → Nat} {P P' : Nat → Bool} : ∀ n, sN (fun i => if P i = true then f i else 0) n + sN (fun i => if P' i = true then f i else 0) n = sN (fun i => if (P i || P' i) = true then f i else 0) n + sN (fun i => if (P i && P' i) = true then f i else 0) n
  | 0 => rfl
  | n + 1 => by
    have ih := sN_ie (f := f) (P := P) (P' := P') n
    show (sN (fun i => if P i = true then f i else 0) n + (if P n = true then f n else 0)) + (sN (fun i => if P' i = true then f i else 0) n + (if P' n = true then f n else 0)) = (sN (fun i => if (P i || P' i) = true then f i else 0) n + (if (P n || P' n) = true then f n else 0)) + (sN (fun i => if (P i && P' i) = true then f i else 0) n + (if (P n && P' n) = true then f n else 0))
    generalize sN (fun i => if P i = true then f i else 0) n = a1 at ih ⊢
    generalize sN (fun i => if P' i = true then f i else 0) n = a2 at ih ⊢
    generalize sN (fun i => if (P i || P' i) = true then f i else 0) n = a3 at ih ⊢
    generalize sN (fun i => if (P i && P' i) = true then f i else 0) n = a4 at ih ⊢
    cases P n <;> cases P' n <;> simp <;> omega
/-- what two numbers win together -/
def tv (I : mI) (f : Nat → Nat) (many : Nat) (q : Nat × Nat) : Nat := sN (fun x => if (okb I many (nv I 2 + q.1) (nv I 2 + x) [] [] || okb I many (nv I 2 + q.2) (nv I 2 + x) [] []) = true then f x else 0) (gw I)
def tb (I : mI) (f : Nat → Nat) (many : Nat) (q : Nat × Nat) : Nat := sN (fun x => if (okb I many (nv I 2 + q.1) (nv I 2 + x) [] [] && okb I many (nv I 2 + q.2) (nv I 2 + x) [] []) = true then f x else 0) (gw I)
theorem tv_ie {I : mI} {f : Nat → Nat} {many : Nat} {q : Nat × Nat} : shr I f many (nv I 2 + q.1) [] [] + shr I f many (nv I 2 + q.2) [] [] = tv I f many q + tb I f many q := sN_ie _
theorem tv_b {I : mI} {f : Nat → Nat} {many : Nat} {q : Nat × Nat} : tv I f many q ≤ sN f (gw I) := by
  refine sN_le2 _ (fun i _ => ?_)
  split
  · exact Nat.le_refl _
  · exact Nat.zero_le _
def tu (G : Nat × Nat → Nat) (s : Option (Nat × Nat)) (p : Nat × Nat) : Option (Nat × Nat) := match s with
  | none => some p
  | some q => if G q < G p then some p else some q
def tin (G : Nat × Nat → Nat) (i : Nat) (s : Option (Nat × Nat)) : Nat → Option (Nat × Nat)
  | 0 => s
  | k + 1 => tu G (tin G i s k) (i, i + 1 + k)
def tot (G : Nat × Nat → Nat) (W : Nat) : Nat → Option (Nat × Nat)
  | 0 => none
  | i + 1 => tin G i (tot G W i) (W - (i + 1))
def tl (G : Nat × Nat → Nat) : Option (Nat × Nat) → Int64
  | none => -1
  | some q => lN (G q)
theorem tu_no {G : Nat × Nat → Nat} {s : Option (Nat × Nat)} {p : Nat × Nat} {w : Nat} (hG : ∀ q, G q < 2 ^ 62) (hw : w < 2 ^ 63) (q : lN w ≤ tl G s) (hle : G p ≤ w) : tu G s p = s := by
  cases s with
  | none => exact absurd q (lm1 hw)
  | some r =>
    have b := hG r
    have q2 := (pk_lLE hw (by omega)).mp q
    show (if G r < G p then some p else some r) = some r
    rw [if_neg (by omega)]
theorem tu_yes {G : Nat × Nat → Nat} {s : Option (Nat × Nat)} {p : Nat × Nat} (hG : ∀ q, G q < 2 ^ 62) (q : ¬ lN (G p) ≤ tl G s) : tu G s p = some p := by
  cases s with
  | none => rfl
  | some r =>
    have b := hG r
    have b2 := hG p
    have q2 : ¬ G p ≤ G r := fun z => q ((pk_lLE (by omega) (by omega)).mpr z)
    show (if G r < G p then some p else some r) = some p
    rw [if_pos (by omega)]
section Be
variable {g : gm_G} {I : mI} {L : mL} {c : gm_cfg} {I0 : mI} {L0 : mL} {f : Nat → Nat}
theorem m_ways {Q : Int64 → mI → mL → gm_cfg → Prop} {v : Nat} {a b : Option Nat} (h : FM I0) (hw : MW I0 L0 I L f) (hv : v ≤ 2000) (ha : ∀ x, a = some x → x ≤ 2000) (hb : ∀ x, b = some x → x ≤ 2000) (hq : Q (lN (shr I0 f (nv I0 1) v a.toList b.toList)) I L c) : C_M_waysBy g (nI v) (oI a) (oI b) I L c Q := by
  rw [← wb_shr] at hq
  exact m_waysBy (I0 := I0) (I60_k hw.1) h hv ha hb hw.2.1 hw.2.2.1 hq
theorem m_bestBy {Q : Int32 → mI → mL → gm_cfg → Prop} {a : Option Nat} (h : FM I0) (hw : MW I0 L0 I L f) (hf : sN f (gw I0) < 2 ^ 62) (ha : ∀ x, a = some x → x ≤ 2000) (hq : Q (nI (bst I0 f (nv I0 1) 0 a.toList)) I L c) : C_M_bestBy g (oI a) I L c Q := by
  have hLo := gLo h
  have hHi := gHi h
  have hb := gw_b h
  have e60 := I60_k hw.1
  have eW : nv I0 2 + gw I0 = nv I0 3 + 1 := by show nv I0 2 + (nv I0 3 - nv I0 2 + 1) = _; omega
  have FB := Fr_b (I0 := I0) (f := f) (many := nv I0 1) (r := 0) (A := a.toList) hf
  refine e_M_bestBy ?_
  rw [show I 60 2 = nI (nv I0 2) by rw [e60]; exact hLo.1]
  refine m_ways (v := nv I0 2) (a := a) (b := none) h hw (by omega) ha (fun x q => by cases q) ?_
  rw [show I 60 2 = nI (nv I0 2) by rw [e60]; exact hLo.1, nI_1]
  refine lp0 (P := fun j => Z_M_bestBy g Q 25 [(0, .ref 59), (1, .int (oI a)), (2, .int (nI (nv I0 2 + ag (Fr I0 f (nv I0 1) 0 a.toList) j))), (3, .long (lN (Fr I0 f (nv I0 1) 0 a.toList (ag (Fr I0 f (nv I0 1) 0 a.toList) j)))), (5, .int (nI (nv I0 2 + j + 1)))] [] I L c) (gw I0 - 1) ?_ ?_
  · refine r_M_bestBy_25 (br_t ?_ hq)
    rw [show I 60 3 = nI (nv I0 3) by rw [e60]; exact hHi.1]
    exact nI_lt (by omega) (by omega)
  · intro j hj ih
    have hag := ag_le (Fr I0 f (nv I0 1) 0 a.toList) j
    refine r_M_bestBy_25 (br_f ?_ (m_ways (v := nv I0 2 + j + 1) (a := a) (b := none) h hw (by omega) ha (fun x q => by cases q) ?_))
    · rw [show I 60 3 = nI (nv I0 3) by rw [e60]; exact hHi.1]
      exact nI_nlt (by omega) (by omega)
    · have st : ag (Fr I0 f (nv I0 1) 0 a.toList) (j + 1) = if Fr I0 f (nv I0 1) 0 a.toList (ag (Fr I0 f (nv I0 1) 0 a.toList) j) < Fr I0 f (nv I0 1) 0 a.toList (j + 1) then j + 1 else ag (Fr I0 f (nv I0 1) 0 a.toList) j := rfl
      have ef : Fr I0 f (nv I0 1) 0 a.toList (j + 1) = shr I0 f (nv I0 1) (nv I0 2 + j + 1) a.toList [] := rfl
      have b1 := FB (j + 1)
      have b2 := FB (ag (Fr I0 f (nv I0 1) 0 a.toList) j)
      rw [ef] at b1
      rw [st] at ih
      rw [nI_1]
      refine br_c (fun z => ?_) (fun z => ?_)
      · have q := (pk_lLT (b := shr I0 f (nv I0 1) (nv I0 2 + j + 1) a.toList []) (by omega) (by omega)).mp z
        rw [if_pos (by rw [ef]; exact q)] at ih
        exact ih
      · have q : ¬ Fr I0 f (nv I0 1) 0 a.toList (ag (Fr I0 f (nv I0 1) 0 a.toList) j) < shr I0 f (nv I0 1) (nv I0 2 + j + 1) a.toList [] := fun q => z ((pk_lLT (b := shr I0 f (nv I0 1) (nv I0 2 + j + 1) a.toList []) (by omega) (by omega)).mpr q)
        rw [if_neg (by rw [ef]; exact q)] at ih
        exact ih
/-- the value of the best of two -/
abbrev b2v (I0 : mI) (f : Nat → Nat) : Nat := Fr I0 f (nv I0 1) 1 [] (ag (Fr I0 f (nv I0 1) 1 []) (gw I0 - 1))
theorem m_laysBehind {Q : Int64 → mI → mL → gm_cfg → Prop} (h : FM I0) (hw : MW I0 L0 I L f) (hf : sN f (gw I0) < 2 ^ 62) (hq : ∀ I' : mI, MW I0 L0 I' L f → I' 59 23 = nI (bst I0 f (nv I0 1) 1 []) → I' 59 24 = nI (bst I0 f (nv I0 1) 0 [bst I0 f (nv I0 1) 1 []]) → Q (lN (b2v I0 f)) I' L c) : C_M_laysBehind g I L c Q := by
  have hLo := gLo h
  have hHi := gHi h
  have hb := gw_b h
  have e60 := I60_k hw.1
  have eW : nv I0 2 + gw I0 = nv I0 3 + 1 := by show nv I0 2 + (nv I0 3 - nv I0 2 + 1) = _; omega
  have FB := Fr_b (I0 := I0) (f := f) (many := nv I0 1) (r := 1) (A := []) hf
  refine e_M_laysBehind ?_
  rw [show I 60 2 = nI (nv I0 2) by rw [e60]; exact hLo.1]
  have key := lp0 (P := fun j => ∀ (I' : mI) (x : Int64), MW I0 L0 I' L f → MX (Fr I0 f (nv I0 1) 1 []) j x → (1 ≤ j → I' 59 23 = nI (nv I0 2 + ag (Fr I0 f (nv I0 1) 1 []) (j - 1)) ∧ I' 59 24 = nI (bst I0 f (nv I0 1) 0 [nv I0 2 + ag (Fr I0 f (nv I0 1) 1 []) (j - 1)])) → Z_M_laysBehind g Q 11 [(0, .ref 59), (1, .long x), (3, .int (nI (nv I0 2 + j)))] [] I' L c) (gw I0) ?_ ?_
  · exact key I (-1) hw (Or.inl ⟨rfl, rfl⟩) (fun q => absurd q (by omega))
  · intro I' x w1 mx kp
    rcases mx with ⟨q, -⟩ | ⟨j', q1, q2⟩
    · omega
    · obtain ⟨k1, k2⟩ := kp (by omega)
      have ej : gw I0 - 1 = j' := by omega
      refine r_M_laysBehind_11 (br_t ?_ ?_)
      · rw [show I' 60 3 = nI (nv I0 3) by rw [I60_k w1.1]; exact hHi.1]
        exact nI_lt (by omega) (by omega)
      · rw [q2, ← ej]
        exact hq I' w1 k1 k2
  · intro j hj ih I' x w1 mx kp
    refine r_M_laysBehind_11 (br_f ?_ ?_)
    · rw [show I' 60 3 = nI (nv I0 3) by rw [I60_k w1.1]; exact hHi.1]
      exact nI_nlt (by omega) (by omega)
    · have hbb := bst_b h (f := f) (many := nv I0 1) (r := 0) (A := [nv I0 2 + j])
      refine m_bestBy (a := some (nv I0 2 + j)) h w1 hf (fun x q => by cases q; omega) ?_
      refine m_ways (a := none) (b := some (bst I0 f (nv I0 1) 0 [nv I0 2 + j])) h w1 (by omega) (fun x q => by cases q) (fun x q => by cases q; omega) ?_
      have ef : Fr I0 f (nv I0 1) 1 [] j = shr I0 f (nv I0 1) (nv I0 2 + j) [] [bst I0 f (nv I0 1) 0 [nv I0 2 + j]] := rfl
      rw [nI_1]
      refine br_c (fun z => ?_) (fun z => ?_)
      · have z2 : ¬ lN (Fr I0 f (nv I0 1) 1 [] j) ≤ x := fun q => absurd z (lg_le_not_lt q)
        obtain ⟨m1, m2⟩ := MX_yes mx FB z2
        refine ih _ _ ⟨w1.1.tr ((Keep.u rfl).tr (Keep.u rfl)), w1.2⟩ m1 (fun _ => ?_)
        rw [Nat.add_sub_cancel, m2]
        exact ⟨rfl, rfl⟩
      · have z2 : lN (Fr I0 f (nv I0 1) 1 [] j) ≤ x := by
          rcases lg_tri (lN (Fr I0 f (nv I0 1) 1 [] j)) x with q | q | q
          · rw [Int64.lt_iff_toInt_lt] at q
            rw [Int64.le_iff_toInt_le]; omega
          · rw [q, Int64.le_iff_toInt_le]; omega
          · exact absurd q z
        obtain ⟨m1, m2, m3⟩ := MX_no mx FB (FB j) z2 (Nat.le_refl _)
        refine ih I' x w1 m1 (fun _ => ?_)
        rw [Nat.add_sub_cancel, m3]
        exact kp m2
/-! playing, on the class's side -/
theorem PK0 {I : mI} : PK I [] := fun k hk => absurd hk (Nat.not_lt_zero k)
theorem j_play1 {Q : mI → mL → gm_cfg → Prop} {many : Nat} (h : FM I0) (hw : JW I0 L0 I L f many) (hf : sN f (gw I0) < 2 ^ 62) (hq : ∀ I' : mI, JW I0 L0 I' L f many → PK I' [bst I0 f many 0 []] → Q I' L c) : C_Wr_play_0_1 g I L c Q :=
  e_Wr_play_0_1 (j_choose_0_1 (A := []) hw.1 h hf rfl (fun k hk => absurd hk (Nat.not_lt_zero k)) PK0 (fun I' a1 _ a3 => hq I' ⟨hw.1.ko a1, KeepC hw.2 a1⟩ a3))
theorem j_play2 {Q : mI → mL → gm_cfg → Prop} {many : Nat} (h : FM I0) (hw : JW I0 L0 I L f many) (hf : sN f (gw I0) < 2 ^ 62) (hq : ∀ I' : mI, JW I0 L0 I' L f many → PK I' [bst I0 f many 1 [], bst I0 f many 0 [bst I0 f many 1 []]] → Q I' L c) : C_Wr_play_0_2 g I L c Q :=
  e_Wr_play_0_2 (j_choose_0_2 (A := []) hw.1 h hf rfl (fun k hk => absurd hk (Nat.not_lt_zero k)) PK0 (fun I' a1 _ a3 => hq I' ⟨hw.1.ko a1, KeepC hw.2 a1⟩ a3))
theorem j_play12 {Q : mI → mL → gm_cfg → Prop} {many v : Nat} (h : FM I0) (hw : JW I0 L0 I L f many) (hf : sN f (gw I0) < 2 ^ 62) (hv : v ≤ 2000) (hp : PK I [v]) (hq : ∀ I' : mI, JW I0 L0 I' L f many → PK I' [v, bst I0 f many 0 [v]] → Q I' L c) : C_Wr_play_1_2 g I L c Q :=
  e_Wr_play_1_2 (j_choose_1_2 (A := [v]) hw.1 h hf rfl (fun k hk => by rw [show k = 0 by simp at hk; omega]; exact hv) hp (fun I' a1 _ a3 => hq I' ⟨hw.1.ko a1, KeepC hw.2 a1⟩ a3))
theorem j_sh01 {Q : Int64 → mI → mL → gm_cfg → Prop} {many v : Nat} (h : FM I0) (hw : JW I0 L0 I L f many) (hp : PK I [v]) (hv : nv I0 2 ≤ v ∧ v ≤ nv I0 3) (hq : ∀ I', JW I0 L0 I' L f many → PK I' [v] → Q (lN (shr I0 f many v [] [])) I' L c) : C_Wr_shareOf g 0 1 I L c Q :=
  j_share (A := []) (B := []) (i := 0) (n := 1) hw.1 h rfl rfl (by omega) hp hv (fun k hk => absurd hk (Nat.not_lt_zero k)) (fun k hk => absurd hk (Nat.not_lt_zero k)) (fun I' a1 => hq I' ⟨hw.1.ko (pC24 a1), KeepC hw.2 (pC24 a1)⟩ (fun k hk => by rw [a1 30 rfl]; exact hp k hk))
theorem j_sh02 {Q : Int64 → mI → mL → gm_cfg → Prop} {many v w : Nat} (h : FM I0) (hw : JW I0 L0 I L f many) (hp : PK I [v, w]) (hv : nv I0 2 ≤ v ∧ v ≤ nv I0 3) (hw2 : w ≤ 2000) (hq : ∀ I', JW I0 L0 I' L f many → Q (lN (shr I0 f many v [] [w])) I' L c) : C_Wr_shareOf g 0 2 I L c Q :=
  j_share (A := []) (B := [w]) (i := 0) (n := 2) hw.1 h rfl rfl (by omega) hp hv (fun k hk => absurd hk (Nat.not_lt_zero k)) (fun k hk => by rw [show k = 0 by simp at hk; omega]; exact hw2) (fun I' a1 => hq I' ⟨hw.1.ko (pC24 a1), KeepC hw.2 (pC24 a1)⟩)
theorem j_sh12 {Q : Int64 → mI → mL → gm_cfg → Prop} {many v w : Nat} (h : FM I0) (hw : JW I0 L0 I L f many) (hp : PK I [v, w]) (hv : nv I0 2 ≤ w ∧ w ≤ nv I0 3) (hw2 : v ≤ 2000) (hq : ∀ I', JW I0 L0 I' L f many → Q (lN (shr I0 f many w [v] [])) I' L c) : C_Wr_shareOf g 1 2 I L c Q :=
  j_share (A := [v]) (B := []) (i := 1) (n := 2) hw.1 h rfl rfl (by omega) hp hv (fun k hk => by rw [show k = 0 by simp at hk; omega]; exact hw2) (fun k hk => absurd hk (Nat.not_lt_zero k)) (fun I' a1 => hq I' ⟨hw.1.ko (pC24 a1), KeepC hw.2 (pC24 a1)⟩)
/-- both sides laid ready -/
theorem j_layW {Q : mI → mL → gm_cfg → Prop} {m : Nat} (hI : Inv I L c) (hm : m ≤ nv I 1) (hq : ∀ (I1 : mI) (L1 : mL), JW I L I1 L1 (ws I none m) (nv I 1) → Q I1 L1 c) : C_Sr_lay g (nI m) (I 20 2) I L c Q := by
  have h : FS0 I := hI.1
  rw [(fG h).2.2]
  refine j_lay h hI.2.2.2.2.2.2.2 hm (Nat.le_refl _) (fun I1 L1 a1 a2 a3 a4 => hq I1 L1 ⟨a1, Keep.l (Keep.o a2 perY) (fun o q => a3 o ?_) a4⟩)
  unfold perL at q
  split at q <;> first | rfl | cases q
theorem m_allW {Q : Bool → mI → mL → gm_cfg → Prop} {m : Nat} (h : FM I0) (k0 : Keep I0 L0 I L) (m4 : m ≤ 4) (hm : m ≤ nv I0 1) (hq : ∀ (I1 : mI) (L1 : mL), MW I0 L0 I1 L1 (ws I0 none m) → Q true I1 L1 c) : C_M_laysAll g (nI m) I L c Q :=
  m_allT (I0 := I0) (I60_k k0) h m4 hm (fun I1 L1 b1 b2 b3 b4 b5 => hq I1 L1 ⟨(k0.tr (Keep.o b4 per66)).w b5, b1, b2, b3⟩)
theorem P_best {x y : Int32} (hI : Inv I L c) : C_J_best g x y I L c (mQ (C_M_best g x y)) := by
  have h : FS0 I := hI.1
  have hm0 := FS0.m h
  have hT : FM (gm_u I 59 0 0) := FM.k (FS0.m h) (kT (L := L))
  have hG := fG h
  have hb := gw_b (FS0.m h)
  have hHi := fHi h
  have hLo := fLo h
  rcases inR y 2 (by omega) with ⟨w, hw, rfl⟩ | hy
  · refine e_J_best (br_f (nI_pos (by omega)) (br_t (nI_le (b := 1) (by omega) (by omega)) ?_))
    rcases inM x hG.2.1 with ⟨m, m4, hm, rfl⟩ | hx
    · have hf : sN (ws I none m) (gw I) < 2 ^ 62 := by have := ws_S hm0 (al := none) hm m4 hb.2; omega
      have bb1 := bst_b hm0 (f := ws I none m) (many := nv I 1) (r := 0) (A := [])
      refine j_canT h m4 hm (bt (j_layW hI hm (fun I1 L1 w1 => j_play1 hm0 w1 hf (fun I2 w2 p2 => ?_))))
      have e30 : I2 30 0 = nI (bst I (ws I none m) (nv I 1) 0 []) := p2 0 (by simp)
      match w, hw with
      | 0, _ =>
        refine br_t rfl ?_
        rw [e30]
        exact e_M_best (m_0t (j := 0) (n := 1) rfl (by omega) (by omega) (bt (m_allW hm0 (w2.2.tr kT) m4 hm (fun I3 L3 w3 => bt (m_bestBy (a := none) hm0 w3 hf (fun x q => by cases q) (br_t rfl (fin hI rfl w3.1)))))))
      | 1, _ =>
        refine br_f (by decide) (j_sh01 hm0 w2 p2 bb1 (fun I4 w4 _ => ?_))
        exact e_M_best (m_0t (j := 1) (n := 1) rfl (by omega) (by omega) (bt (m_allW hm0 (w4.2.tr kT) m4 hm (fun I3 L3 w3 => bt (m_bestBy (a := none) hm0 w3 hf (fun x q => by cases q) (br_f (by decide) (m_ways (a := none) (b := none) hm0 w3 (Nat.le_trans bb1.2 (by omega)) (fun x q => by cases q) (fun x q => by cases q) (fin hI rfl w3.1))))))))
    · exact j_canF h hx (bf (e_M_best (m_0t (n := 1) rfl (by omega) (by omega) (bt (m_allF hT hx (bf (fin hI rfl kT)))))))
  · have M : mQ (C_M_best g x y) (-2) I L c := e_M_best (m_0f (n := 1) rfl (by omega) hy (bf (fin hI rfl kT)))
    refine e_J_best (br_c (fun _ => M) (fun q => br_f (fun w => ?_) M))
    have hy' := hy.resolve_left q
    rw [Int32.le_iff_toInt_le] at w hy'
    rw [nI_toInt (by omega)] at hy'
    have e : (1 : Int32).toInt = 1 := rfl
    omega
theorem P_behind {x y : Int32} (hI : Inv I L c) : C_J_behind g x y I L c (mQ (C_M_behind g x y)) := by
  have h : FS0 I := hI.1
  have hm0 := FS0.m h
  have hT : FM (gm_u I 59 0 0) := FM.k (FS0.m h) (kT (L := L))
  have hG := fG h
  have hb := gw_b (FS0.m h)
  have hHi := fHi h
  have hLo := fLo h
  rcases inR y 4 (by omega) with ⟨w, hw, rfl⟩ | hy
  · refine e_J_behind (br_f (nI_pos (by omega)) (br_t (nI_le (b := 3) (by omega) (by omega)) ?_))
    rcases inM x hG.2.1 with ⟨m, m4, hm, rfl⟩ | hx
    · have hf : sN (ws I none m) (gw I) < 2 ^ 62 := by have := ws_S hm0 (al := none) hm m4 hb.2; omega
      have bb1 := bst_b hm0 (f := ws I none m) (many := nv I 1) (r := 1) (A := [])
      have bb2 := bst_b hm0 (f := ws I none m) (many := nv I 1) (r := 0) (A := [bst I (ws I none m) (nv I 1) 1 []])
      refine j_canT h m4 hm (bt (j_layW hI hm (fun I1 L1 w1 => j_play2 hm0 w1 hf (fun I2 w2 p2 => ?_))))
      have e30 : I2 30 0 = nI (bst I (ws I none m) (nv I 1) 1 []) := p2 0 (by simp)
      have e31 : I2 30 1 = nI (bst I (ws I none m) (nv I 1) 0 [bst I (ws I none m) (nv I 1) 1 []]) := p2 1 (by simp)
      match w, hw with
      | 0, _ =>
        refine br_t rfl ⟨vp_in_nI (n := 0) (by omega) (by omega), ?_⟩
        rw [show Int32.toNatClampNeg (nI 0 / 2) = 0 from rfl, e30]
        refine e_M_behind (m_0t (j := 0) (n := 3) rfl (by omega) (by omega) (bt (m_allW hm0 (w2.2.tr kT) m4 hm (fun I3 L3 w3 => bt (m_laysBehind hm0 w3 hf (fun I4 w4 e1 e2 => br_t rfl ?_))))))
        rw [e1]; exact fin hI rfl w4.1
      | 1, _ =>
        refine br_f (by decide) ?_
        refine j_sh02 hm0 w2 p2 bb1 (by omega) (fun I5 w5 => ?_)
        exact e_M_behind (m_0t (j := 1) (n := 3) rfl (by omega) (by omega) (bt (m_allW hm0 (w5.2.tr kT) m4 hm (fun I3 L3 w3 => bt (m_laysBehind hm0 w3 hf (fun I4 w4 e1 e2 => br_f (by decide) (br_t rfl (fin hI rfl w4.1))))))))
      | 2, _ =>
        refine br_t (by decide) ⟨by rw [show (nI 2 / 2 : Int32) = nI 1 by decide]; exact vp_in_nI (by omega) (by omega), ?_⟩
        rw [show Int32.toNatClampNeg (nI 2 / 2) = 1 by decide, e31]
        refine e_M_behind (m_0t (j := 2) (n := 3) rfl (by omega) (by omega) (bt (m_allW hm0 (w2.2.tr kT) m4 hm (fun I3 L3 w3 => bt (m_laysBehind hm0 w3 hf (fun I4 w4 e1 e2 => br_f (by decide) (br_f (by decide) (br_t rfl ?_))))))))
        rw [e2]; exact fin hI rfl w4.1
      | 3, _ =>
        refine br_f (by decide) ?_
        rw [show (nI 3 / 2 : Int32) = 1 by decide]
        refine j_sh12 hm0 w2 p2 bb2 (by omega) (fun I5 w5 => ?_)
        refine e_M_behind (m_0t (j := 3) (n := 3) rfl (by omega) (by omega) (bt (m_allW hm0 (w5.2.tr kT) m4 hm (fun I3 L3 w3 => bt (m_laysBehind hm0 w3 hf (fun I4 w4 e1 e2 => br_f (by decide) (br_f (by decide) (br_f (by decide) ?_))))))))
        rw [e1, e2]
        exact m_ways (a := some (bst I (ws I none m) (nv I 1) 1 [])) (b := none) hm0 w4 (by omega) (fun x q => by cases q; omega) (fun x q => by cases q) (fin hI rfl w4.1)
    · exact j_canF h hx (bf (e_M_behind (m_0t (n := 3) rfl (by omega) (by omega) (bt (m_allF hT hx (bf (fin hI rfl kT)))))))
  · have M : mQ (C_M_behind g x y) (-2) I L c := e_M_behind (m_0f (n := 3) rfl (by omega) hy (bf (fin hI rfl kT)))
    refine e_J_behind (br_c (fun _ => M) (fun q => br_f (fun w => ?_) M))
    have hy' := hy.resolve_left q
    rw [Int32.le_iff_toInt_le] at w hy'
    rw [nI_toInt (by omega)] at hy'
    have e : (3 : Int32).toInt = 3 := rfl
    omega
theorem P_waits {x y : Int32} (hI : Inv I L c) : C_J_waits g x y I L c (mQ (C_M_waits g x y)) := by
  have h : FS0 I := hI.1
  have hm0 := FS0.m h
  have hT : FM (gm_u I 59 0 0) := FM.k (FS0.m h) (kT (L := L))
  have hG := fG h
  have hb := gw_b (FS0.m h)
  have hHi := fHi h
  have hLo := fLo h
  rcases inR y 2 (by omega) with ⟨w, hw, rfl⟩ | hy
  · refine e_J_waits (br_f (nI_pos (by omega)) (br_t (nI_le (b := 1) (by omega) (by omega)) ?_))
    rcases inM x hG.2.1 with ⟨m, m4, hm, rfl⟩ | hx
    · have hf : sN (ws I none m) (gw I) < 2 ^ 62 := by have := ws_S hm0 (al := none) hm m4 hb.2; omega
      have bb1 := bst_b hm0 (f := ws I none m) (many := nv I 1) (r := 0) (A := [])
      have bb2 := bst_b hm0 (f := ws I none m) (many := nv I 1) (r := 0) (A := [bst I (ws I none m) (nv I 1) 0 []])
      have bb3 := bst_b hm0 (f := ws I none m) (many := nv I 1) (r := 1) (A := [])
      have bb4 := bst_b hm0 (f := ws I none m) (many := nv I 1) (r := 0) (A := [bst I (ws I none m) (nv I 1) 1 []])
      have MM : ∀ (I5 : mI) (L5 : mL) (Q : Int64 → mI → mL → gm_cfg → Prop), Keep I L I5 L5 → (∀ (I6 : mI) (L6 : mL), MW I L I6 L6 (ws I none m) → ((nI w = 1 → Q (lN (shr I (ws I none m) (nv I 1) (bst I (ws I none m) (nv I 1) 0 [bst I (ws I none m) (nv I 1) 0 []]) [bst I (ws I none m) (nv I 1) 0 []] [])) I6 L6 c) ∧ (¬ nI w = 1 → C_M_laysBehind g I6 L6 c (fun r24 I21 L22 c23 => ((((lN (shr I (ws I none m) (nv I 1) (bst I (ws I none m) (nv I 1) 0 [bst I (ws I none m) (nv I 1) 0 []]) [bst I (ws I none m) (nv I 1) 0 []] [])) : Int64) ≤ r24 → Q 0 I21 L22 c23) ∧ (¬ ((lN (shr I (ws I none m) (nv I 1) (bst I (ws I none m) (nv I 1) 0 [bst I (ws I none m) (nv I 1) 0 []]) [bst I (ws I none m) (nv I 1) 0 []] [])) : Int64) ≤ r24 → Q 1 I21 L22 c23)))))) → C_M_waits g (nI m) (nI w) I5 L5 c Q := by
        intro I5 L5 Q k5 hq
        exact e_M_waits (m_0t (n := 1) rfl (by omega) (by omega) (bt (m_allW hm0 (k5.tr kT) m4 hm (fun I3 L3 w3 => bt (m_bestBy (a := none) hm0 w3 hf (fun x q => by cases q) (m_bestBy (a := some (bst I (ws I none m) (nv I 1) 0 [])) hm0 w3 hf (fun x q => by cases q; omega) (m_ways (a := some (bst I (ws I none m) (nv I 1) 0 [])) (b := none) hm0 w3 (Nat.le_trans bb2.2 (by omega)) (fun x q => by cases q; omega) (fun x q => by cases q) (hq I3 L3 w3))))))))
      refine j_canT h m4 hm (bt (j_layW hI hm (fun I1 L1 w1 => j_play1 hm0 w1 hf (fun I2 w2 p2 => j_play12 hm0 w2 hf (by omega) p2 (fun I3 w3 p3 => j_sh12 hm0 w3 p3 bb2 (by omega) (fun I4 w4 => ?_))))))
      match w, hw with
      | 1, _ => exact br_t rfl (MM I4 L1 _ w4.2 (fun I6 L6 w6 => br_t rfl (fin hI rfl w6.1)))
      | 0, _ =>
        refine br_f (by decide) (j_play2 hm0 w4 hf (fun I5 w5 p5 => j_sh02 hm0 w5 p5 bb3 (by omega) (fun I7 w7 => ?_)))
        refine br_c (fun z => ?_) (fun z => ?_)
        · exact MM I7 L1 _ w7.2 (fun I6 L6 w6 => br_f (by decide) (m_laysBehind hm0 w6 hf (fun I8 w8 _ _ => br_t z (fin hI rfl w8.1))))
        · exact MM I7 L1 _ w7.2 (fun I6 L6 w6 => br_f (by decide) (m_laysBehind hm0 w6 hf (fun I8 w8 _ _ => br_f z (fin hI rfl w8.1))))
    · exact j_canF h hx (bf (e_M_waits (m_0t (n := 1) rfl (by omega) (by omega) (bt (m_allF hT hx (bf (fin hI rfl kT)))))))
  · have M : mQ (C_M_waits g x y) (-2) I L c := e_M_waits (m_0f (n := 1) rfl (by omega) hy (bf (fin hI rfl kT)))
    refine e_J_waits (br_c (fun _ => M) (fun q => br_f (fun w => ?_) M))
    have hy' := hy.resolve_left q
    rw [Int32.le_iff_toInt_le] at w hy'
    rw [nI_toInt (by omega)] at hy'
    have e : (1 : Int32).toInt = 1 := rfl
    omega
end Be
