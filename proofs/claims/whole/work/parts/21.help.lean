/-! small rows: numbers, branches; the smallest methods of both sides -/
theorem bt {A B : Prop} (h : B) : ((true : Bool) = false → A) ∧ ((true : Bool) = true → B) := ⟨fun q => (by cases q), fun _ => h⟩
theorem bf {A B : Prop} (h : A) : ((false : Bool) = false → A) ∧ ((false : Bool) = true → B) := ⟨fun _ => h, fun q => (by cases q)⟩
theorem ixa (a k : Nat) (h : a + k < 2 ^ 31) : Int32.toNatClampNeg (nI a + nI k) = a + k := by rw [nI_add, nI_clamp h]
theorem via (a k n : Nat) (h : a + k < n) (hn : n < 2 ^ 31) : vp_in (nI a + nI k) n := by rw [nI_add]; exact vp_in_nI h hn
/-- an argument is in range, or not -/
theorem inR (x : Int32) (n : Nat) (hn : n < 2 ^ 31) : (∃ j, j < n ∧ x = nI j) ∨ x < 0 ∨ nI n ≤ x := by
  rcases pk_ix x hn with h | h | h
  · exact Or.inr (Or.inl h)
  · exact Or.inr (Or.inr h)
  · exact Or.inl h
theorem out_t {x : Int32} {n : Nat} (hn : n < 2 ^ 31) (h : x < 0 ∨ nI n ≤ x) : ¬ (0 ≤ x.toInt ∧ x.toInt < n) := by
  rcases h with h | h
  · have := Int32.lt_iff_toInt_lt.mp h
    have e : (0 : Int32).toInt = 0 := rfl
    omega
  · have := Int32.le_iff_toInt_le.mp h
    rw [nI_toInt hn] at this
    omega
/-- an argument from a to b -/
theorem inAB (x : Int32) (a b : Nat) (hab : a ≤ b) (hb : b < 2 ^ 31 - 1) : (∃ j, a ≤ j ∧ j ≤ b ∧ x = nI j) ∨ x < nI a ∨ nI b < x := by
  rcases inR x (b + 1) (by omega) with ⟨j, h1, rfl⟩ | h | h
  · rcases Nat.lt_or_ge j a with q | q
    · exact Or.inr (Or.inl (nI_lt q (by omega)))
    · exact Or.inl ⟨j, q, by omega, rfl⟩
  · refine Or.inr (Or.inl ?_)
    have h1 := Int32.lt_iff_toInt_lt.mp h
    have e : (0 : Int32).toInt = 0 := rfl
    rw [Int32.lt_iff_toInt_lt, nI_toInt (by omega)]
    omega
  · refine Or.inr (Or.inr ?_)
    have h1 := Int32.le_iff_toInt_le.mp h
    rw [nI_toInt (by omega)] at h1
    rw [Int32.lt_iff_toInt_lt, nI_toInt (by omega)]
    omega
section H1
variable {g : gm_G} {I : mI} {L : mL} {c : gm_cfg}
/-! within -/
theorem m_within {Q : Bool → mI → mL → gm_cfg → Prop} {x lo hi : Int64} (k1 : lo.toInt ≤ x.toInt → x.toInt ≤ hi.toInt → Q true I L c) (k2 : ¬ (lo.toInt ≤ x.toInt ∧ x.toInt ≤ hi.toInt) → Q false I L c) : C_M_within g x lo hi I L c Q := by
  refine e_M_within ⟨fun z => k2 ?_, fun z => ⟨fun z2 => k2 ?_, fun z2 => k1 ?_ ?_⟩⟩
  · have := Int64.lt_iff_toInt_lt.mp z
    omega
  · have := Int64.lt_iff_toInt_lt.mp z2
    omega
  · rw [Int64.lt_iff_toInt_lt] at z
    omega
  · rw [Int64.lt_iff_toInt_lt] at z2
    omega
/-- an int in nI a .. nI b -/
theorem m_wt {Q : Bool → mI → mL → gm_cfg → Prop} {j a b : Nat} {lo hi : Int64} (hlo : lo.toInt = a) (hhi : hi.toInt = b) (h1 : a ≤ j) (h2 : j ≤ b) (hb : b < 2 ^ 31) (hq : Q true I L c) : C_M_within g (Int32.toInt64 (nI j)) lo hi I L c Q := by
  refine m_within (fun _ _ => hq) (fun z => absurd ?_ z)
  rw [Int32.toInt_toInt64, nI_toInt (by omega), hlo, hhi]
  omega
theorem m_wf {Q : Bool → mI → mL → gm_cfg → Prop} {x : Int32} {a b : Nat} {lo hi : Int64} (hlo : lo.toInt = a) (hhi : hi.toInt = b) (ha : a < 2 ^ 31) (hb : b < 2 ^ 31) (h : x < nI a ∨ nI b < x) (hq : Q false I L c) : C_M_within g (Int32.toInt64 x) lo hi I L c Q := by
  refine m_within (fun z1 z2 => absurd h ?_) (fun _ => hq)
  rw [Int32.toInt_toInt64, hlo] at z1
  rw [Int32.toInt_toInt64, hhi] at z2
  rw [Int32.lt_iff_toInt_lt, Int32.lt_iff_toInt_lt, nI_toInt ha, nI_toInt hb]
  omega
/-- 0 .. n - 1, n a number that may be 0 -/
theorem m_nt {Q : Bool → mI → mL → gm_cfg → Prop} {j n : Nat} (h : j < n) (hn : n < 2 ^ 31) (hq : Q true I L c) : C_M_within g (Int32.toInt64 (nI j)) 0 (Int32.toInt64 (nI n - 1)) I L c Q := by
  obtain ⟨m, rfl⟩ : ∃ m, n = m + 1 := ⟨n - 1, by omega⟩
  rw [nI_pred]
  exact m_wt (a := 0) (b := m) rfl (by rw [Int32.toInt_toInt64, nI_toInt (by omega)]) (by omega) (by omega) (by omega) hq
theorem m_nf {Q : Bool → mI → mL → gm_cfg → Prop} {x : Int32} {n : Nat} (hn : n < 2 ^ 31) (h : x < 0 ∨ nI n ≤ x) (hq : Q false I L c) : C_M_within g (Int32.toInt64 x) 0 (Int32.toInt64 (nI n - 1)) I L c Q := by
  refine m_within (fun z1 z2 => absurd (out_t hn h) ?_) (fun _ => hq)
  have e1 : (nI n - 1).toInt = (n : Int) - 1 := by
    have := pk_sub_toInt (a := n) (b := 1)
    rcases Nat.eq_zero_or_pos n with rfl | hp
    · rfl
    · obtain ⟨m, rfl⟩ : ∃ m, n = m + 1 := ⟨n - 1, by omega⟩
      rw [nI_pred, nI_toInt (by omega)]
      omega
  rw [Int32.toInt_toInt64] at z1 z2
  rw [Int32.toInt_toInt64, e1] at z2
  have e0 : (0 : Int64).toInt = 0 := rfl
  omega
end H1
/-- the fete in use -/
abbrev FS0 (I : mI) : Prop := FS I 16 17 18 19 20 21 22 0
theorem FS0.k {I I' : mI} {L L' : mL} (h : FS0 I) (k : Keep I L I' L') : FS0 I' := FS_congr (k.row fun _ => rfl) (k.row fun _ => rfl) (k.row fun _ => rfl) (k.row fun _ => rfl) (k.row fun _ => rfl) (k.row fun _ => rfl) (k.row fun _ => rfl) (k.row fun _ => rfl) h
theorem nv_k {I I' : mI} {L L' : mL} (k : Keep I L I' L') : nv I' = nv I := by
  funext j
  unfold nv
  rw [k.row (o := 60) fun _ => rfl]
theorem I60_k {I I' : mI} {L L' : mL} (k : Keep I L I' L') : I' 60 = I 60 := k.row fun _ => rfl
section F
variable {I : mI} (h : FS0 I)
theorem fN (h : FS0 I) : I 60 0 = nI (nv I 0) ∧ nv I 0 ≤ 6 ∧ I 16 5 = nI (nv I 0) := ⟨h.1.1.1, h.1.1.2, h.1.2.trans h.1.1.1⟩
theorem fG (h : FS0 I) : I 60 1 = nI (nv I 1) ∧ nv I 1 ≤ 40 ∧ I 20 2 = nI (nv I 1) := ⟨h.2.1.1.1, h.2.1.1.2, h.2.1.2.trans h.2.1.1.1⟩
theorem fLo (h : FS0 I) : I 60 2 = nI (nv I 2) ∧ nv I 2 ≤ 999 ∧ 1 ≤ nv I 2 ∧ I 16 0 = nI (nv I 2) := ⟨h.2.2.1.1.1, h.2.2.1.1.2, h.2.2.1.2.1, h.2.2.1.2.2.trans h.2.2.1.1.1⟩
theorem fHi (h : FS0 I) : I 60 3 = nI (nv I 3) ∧ nv I 3 ≤ nv I 2 + 199 ∧ nv I 2 ≤ nv I 3 ∧ I 16 1 = nI (nv I 3) := ⟨h.2.2.2.1.1.1, h.2.2.2.1.1.2, h.2.2.2.1.2.1, h.2.2.2.1.2.2.trans h.2.2.2.1.1.1⟩
theorem fPr (h : FS0 I) : I 60 4 = nI (nv I 4) ∧ nv I 4 ≤ 99 ∧ I 16 10 = nI (nv I 4) := ⟨h.2.2.2.2.1.1.1, h.2.2.2.2.1.1.2, h.2.2.2.2.1.2.trans h.2.2.2.2.1.1.1⟩
theorem fPz (h : FS0 I) : I 60 5 = nI (nv I 5) ∧ nv I 5 ≤ 9999 ∧ I 16 11 = nI (nv I 5) := ⟨h.2.2.2.2.2.1.1.1, h.2.2.2.2.2.1.1.2, h.2.2.2.2.2.1.2.trans h.2.2.2.2.2.1.1.1⟩
theorem fJr (h : FS0 I) : I 60 6 = nI (nv I 6) ∧ nv I 6 ≤ 999 ∧ I 16 12 = nI (nv I 6) := ⟨h.2.2.2.2.2.2.1.1.1, h.2.2.2.2.2.2.1.1.2, h.2.2.2.2.2.2.1.2.trans h.2.2.2.2.2.2.1.1.1⟩
theorem fHd (h : FS0 I) : I 60 7 = nI (nv I 7) ∧ nv I 7 ≤ 1 ∧ I 16 9 = nI (nv I 7) := ⟨h.2.2.2.2.2.2.2.1.1.1, h.2.2.2.2.2.2.2.1.1.2, h.2.2.2.2.2.2.2.1.2.trans h.2.2.2.2.2.2.2.1.1.1⟩
theorem fLi (h : FS0 I) : I 16 13 = I 60 8 := h.2.2.2.2.2.2.2.2.1
theorem fPri (h : FS0 I) : (I 16 2 = 0 ∧ I 60 10 = -1) ∨ (I 16 2 = 1 ∧ I 60 9 = nI (nv I 9) ∧ nv I 9 ≤ 999 ∧ I 16 3 = nI (nv I 9) ∧ I 60 10 = nI (nv I 10) ∧ nv I 10 ≤ 8 ∧ I 16 4 = nI (nv I 10)) := by
  rcases h.2.2.2.2.2.2.2.2.2.1 with q | ⟨q1, q2, q3, q4, q5⟩
  · exact Or.inl q
  · exact Or.inr ⟨q1, q2.1, q2.2, q3.trans q2.1, q4.1, q4.2, q5.trans q4.1⟩
theorem fGs (h : FS0 I) {j : Nat} (hj : j < nv I 0) : (I 60 (11 + j) = nI (nv I (11 + j)) ∧ nv I (11 + j) ≤ 200 ∧ I 17 j = nI (nv I (11 + j))) ∧ (I 60 (17 + j) = nI (nv I (17 + j)) ∧ nv I (17 + j) ≤ 20 ∧ I 18 j = nI (nv I (17 + j))) ∧ (I 60 (23 + j) = nI (nv I (23 + j)) ∧ nv I (23 + j) ≤ 10 ∧ I 19 j = nI (nv I (23 + j))) := by
  obtain ⟨⟨a1, a2, a3⟩, ⟨b1, b2⟩, ⟨c1, c2⟩⟩ := h.2.2.2.2.2.2.2.2.2.2.1 j hj
  rw [show 0 + 11 + j = 11 + j by omega] at a1 a2 a3
  rw [show 0 + 17 + j = 17 + j by omega] at b1 b2
  rw [show 0 + 23 + j = 23 + j by omega] at c1 c2
  exact ⟨⟨a1.1, a1.2, a3.trans a1.1⟩, ⟨b1.1, b1.2, b2.trans b1.1⟩, ⟨c1.1, c1.2, c2.trans c1.1⟩⟩
theorem fNu (h : FS0 I) {k : Nat} (hk : k < nv I 1) : (I 60 (69 + k) = nI (nv I (69 + k)) ∧ nv I (69 + k) ≤ 2000 ∧ I 21 k = nI (nv I (69 + k))) ∧ (I 60 (29 + k) = nI (nv I (29 + k)) ∧ nv I (29 + k) < nv I 0 ∧ I 22 k = nI (nv I (29 + k))) := by
  obtain ⟨⟨a1, a2⟩, ⟨b1, b2, b3⟩⟩ := h.2.2.2.2.2.2.2.2.2.2.2 k hk
  rw [show 0 + 69 + k = 69 + k by omega] at a1 a2
  rw [show 0 + 29 + k = 29 + k by omega] at b1 b2 b3
  exact ⟨⟨a1.1, a1.2, a2.trans a1.1⟩, ⟨b1.1, b2, b3.trans b1.1⟩⟩
end F
/-- what the reference's row alone keeps -/
def FM (I : mI) : Prop := isN I 0 6 ∧ isN I 1 40 ∧ (isN I 2 999 ∧ 1 ≤ nv I 2) ∧ (isN I 3 (nv I 2 + 199) ∧ nv I 2 ≤ nv I 3) ∧ isN I 4 99 ∧ isN I 5 9999 ∧ isN I 6 999 ∧ isN I 7 1 ∧
  (I 60 10 = -1 ∨ (isN I 9 999 ∧ isN I 10 8)) ∧ (∀ j, j < nv I 0 → (isN I (11 + j) 200 ∧ 1 ≤ nv I (11 + j)) ∧ isN I (17 + j) 20 ∧ isN I (23 + j) 10) ∧
  (∀ k, k < nv I 1 → isN I (69 + k) 2000 ∧ isN I (29 + k) 5 ∧ nv I (29 + k) < nv I 0)
theorem FS0.m {I : mI} (h : FS0 I) : FM I := by
  obtain ⟨a0, a1, a2, a3, a4, a5, a6, a7, a8, a9, a10, a11⟩ := h
  refine ⟨a0.1, a1.1, ⟨a2.1, a2.2.1⟩, ⟨a3.1, a3.2.1⟩, a4.1, a5.1, a6.1, a7.1, ?_, fun j hj => ?_, fun k hk => ?_⟩
  · rcases a9 with q | q
    · exact Or.inl q.2
    · exact Or.inr ⟨q.2.1, q.2.2.2.1⟩
  · have := a10 j hj
    rw [show 0 + 11 + j = 11 + j by omega, show 0 + 17 + j = 17 + j by omega, show 0 + 23 + j = 23 + j by omega] at this
    exact ⟨⟨this.1.1, this.1.2.1⟩, this.2.1.1, this.2.2.1⟩
  · have := a11 k hk
    rw [show 0 + 69 + k = 69 + k by omega, show 0 + 29 + k = 29 + k by omega] at this
    exact ⟨this.1.1, this.2.1, this.2.2.1⟩
section G
variable {I : mI}
theorem gNn (h : FM I) : I 60 0 = nI (nv I 0) ∧ nv I 0 ≤ 6 ∧ True := ⟨h.1.1, h.1.2, trivial⟩
theorem gG (h : FM I) : I 60 1 = nI (nv I 1) ∧ nv I 1 ≤ 40 ∧ True := ⟨h.2.1.1, h.2.1.2, trivial⟩
theorem gLo (h : FM I) : I 60 2 = nI (nv I 2) ∧ nv I 2 ≤ 999 ∧ 1 ≤ nv I 2 ∧ True := ⟨h.2.2.1.1.1, h.2.2.1.1.2, h.2.2.1.2, trivial⟩
theorem gHi (h : FM I) : I 60 3 = nI (nv I 3) ∧ nv I 3 ≤ nv I 2 + 199 ∧ nv I 2 ≤ nv I 3 ∧ True := ⟨h.2.2.2.1.1.1, h.2.2.2.1.1.2, h.2.2.2.1.2, trivial⟩
theorem gPr (h : FM I) : I 60 4 = nI (nv I 4) ∧ nv I 4 ≤ 99 ∧ True := ⟨h.2.2.2.2.1.1, h.2.2.2.2.1.2, trivial⟩
theorem gPz (h : FM I) : I 60 5 = nI (nv I 5) ∧ nv I 5 ≤ 9999 ∧ True := ⟨h.2.2.2.2.2.1.1, h.2.2.2.2.2.1.2, trivial⟩
theorem gJr (h : FM I) : I 60 6 = nI (nv I 6) ∧ nv I 6 ≤ 999 ∧ True := ⟨h.2.2.2.2.2.2.1.1, h.2.2.2.2.2.2.1.2, trivial⟩
theorem gHd (h : FM I) : I 60 7 = nI (nv I 7) ∧ nv I 7 ≤ 1 ∧ True := ⟨h.2.2.2.2.2.2.2.1.1, h.2.2.2.2.2.2.2.1.2, trivial⟩
theorem gPri (h : FM I) : (True ∧ I 60 10 = -1) ∨ (True ∧ I 60 9 = nI (nv I 9) ∧ nv I 9 ≤ 999 ∧ True ∧ I 60 10 = nI (nv I 10) ∧ nv I 10 ≤ 8 ∧ True) := by
  rcases h.2.2.2.2.2.2.2.2.1 with q | q
  · exact Or.inl ⟨trivial, q⟩
  · exact Or.inr ⟨trivial, q.1.1, q.1.2, trivial, q.2.1, q.2.2, trivial⟩
theorem gGs (h : FM I) {j : Nat} (hj : j < nv I 0) : (I 60 (11 + j) = nI (nv I (11 + j)) ∧ nv I (11 + j) ≤ 200 ∧ True) ∧ (I 60 (17 + j) = nI (nv I (17 + j)) ∧ nv I (17 + j) ≤ 20 ∧ True) ∧ (I 60 (23 + j) = nI (nv I (23 + j)) ∧ nv I (23 + j) ≤ 10 ∧ True) := by
  obtain ⟨a, b, c⟩ := h.2.2.2.2.2.2.2.2.2.1 j hj
  exact ⟨⟨a.1.1, a.1.2, trivial⟩, ⟨b.1, b.2, trivial⟩, ⟨c.1, c.2, trivial⟩⟩
theorem gNu (h : FM I) {k : Nat} (hk : k < nv I 1) : (I 60 (69 + k) = nI (nv I (69 + k)) ∧ nv I (69 + k) ≤ 2000 ∧ True) ∧ (I 60 (29 + k) = nI (nv I (29 + k)) ∧ nv I (29 + k) < nv I 0 ∧ True) := by
  obtain ⟨a, b, c⟩ := h.2.2.2.2.2.2.2.2.2.2 k hk
  exact ⟨⟨a.1, a.2, trivial⟩, ⟨b.1, c, trivial⟩⟩
end G
theorem FM_c {I I' : mI} (e : ∀ k, k < 110 → I' 60 k = I 60 k) (h : FM I) : FM I' := by
  have n : ∀ k, k < 110 → nv I' k = nv I k := fun k hk => by unfold nv; rw [e k hk]
  have s : ∀ k m, k < 110 → isN I k m → isN I' k m := fun k m hk q => by unfold isN at *; rw [n k hk, e k hk]; exact q
  obtain ⟨a0, a1, a2, a3, a4, a5, a6, a7, a9, a10, a11⟩ := h
  have h6 := a0.2
  have h40 := a1.2
  refine ⟨s _ _ (by omega) a0, s _ _ (by omega) a1, ⟨s _ _ (by omega) a2.1, by rw [n 2 (by omega)]; exact a2.2⟩, ⟨by rw [n 2 (by omega)]; exact s _ _ (by omega) a3.1, by rw [n 2 (by omega), n 3 (by omega)]; exact a3.2⟩, s _ _ (by omega) a4, s _ _ (by omega) a5, s _ _ (by omega) a6, s _ _ (by omega) a7, ?_, ?_, ?_⟩
  · rw [e 10 (by omega)]
    rcases a9 with q | q
    · exact Or.inl q
    · exact Or.inr ⟨s _ _ (by omega) q.1, s _ _ (by omega) q.2⟩
  · intro j hj
    rw [n 0 (by omega)] at hj
    obtain ⟨b1, b2, b3⟩ := a10 j hj
    exact ⟨⟨s _ _ (by omega) b1.1, by rw [n _ (by omega)]; exact b1.2⟩, s _ _ (by omega) b2, s _ _ (by omega) b3⟩
  · intro k hk
    rw [n 1 (by omega)] at hk
    obtain ⟨b1, b2, b3⟩ := a11 k hk
    exact ⟨s _ _ (by omega) b1, s _ _ (by omega) b2, by rw [n _ (by omega), n 0 (by omega)]; exact b3⟩
theorem FM.k {I I' : mI} {L L' : mL} (h : FM I) (k : Keep I L I' L') : FM I' := FM_c (fun j _ => k.1 60 j rfl) h
/-- the place that the reference calls 'thrown' -/
theorem kT {I : mI} {L : mL} : Keep I L (gm_u I 59 0 0) L := Keep.u rfl
/-- how far two numbers are apart -/
def ad (a b : Nat) : Nat := (a - b) + (b - a)
theorem ad_abs {a b : Nat} (ha : a < 2 ^ 30) (hb : b < 2 ^ 30) : (if 0 ≤ (nI a - nI b) then (nI a - nI b) else 0 - (nI a - nI b) : Int32) = nI (ad a b) := by
  unfold ad
  rcases Nat.le_total b a with h | h
  · rw [pk_sub h, if_pos (nI_pos' (by omega))]
    congr 1; omega
  · rcases Nat.eq_or_lt_of_le h with e | e
    · subst e
      rw [pk_sub (Nat.le_refl _), if_pos (nI_pos' (by omega))]
      congr 1; omega
    · have h1 : nI a - nI b < 0 := pk_sneg hb e
      rw [if_neg (fun q => by
        rw [Int32.lt_iff_toInt_lt] at h1
        rw [Int32.le_iff_toInt_le] at q
        have e0 : (0 : Int32).toInt = 0 := rfl
        omega)]
      have e2 : (0 : Int32) - (nI a - nI b) = nI b - nI a := by
        rw [Int32.zero_sub, Int32.neg_sub]
      rw [e2, pk_sub h]
      congr 1; omega
section H2
variable {g : gm_G} {I : mI} {L : mL} {c : gm_cfg}
theorem m_off {Q : Int32 → mI → mL → gm_cfg → Prop} {a b : Nat} (ha : a < 2 ^ 30) (hb : b < 2 ^ 30) (hq : Q (nI (ad a b)) I L c) : C_M_off g (nI a) (nI b) I L c Q := by
  refine e_M_off ⟨fun z => ?_, fun z => ?_⟩
  · have := nle z (by omega) (by omega)
    rw [pk_sub this, show b - a = ad a b by unfold ad; omega]; exact hq
  · have := nnle z (by omega)
    rw [pk_sub (by omega : b ≤ a), show a - b = ad a b by unfold ad; omega]; exact hq
theorem m_numberOf {Q : Int32 → mI → mL → gm_cfg → Prop} {k : Nat} (h : FM I) (hk : k < nv I 1) (hq : Q (nI (nv I (69 + k))) I L c) : C_M_numberOf g (nI k) I L c Q := by
  have h1 := (gG h).2.1
  refine e_M_numberOf ⟨via 69 k 330 (by omega) (by omega), ?_⟩
  have e : Int32.toNatClampNeg (69 + nI k) = 69 + k := ixa 69 k (by omega)
  rw [e, (gNu h hk).1.1]
  exact hq
theorem m_isGuesserT {Q : Bool → mI → mL → gm_cfg → Prop} {j : Nat} (h : FM I) (hj : j < nv I 0) (hq : Q true I L c) : C_M_isGuesser g (Int32.toInt64 (nI j)) I L c Q := by
  refine e_M_isGuesser ?_
  rw [(gNn h).1]
  exact m_nt hj (by have := (gNn h).2.1; omega) hq
theorem m_isGuesserF {Q : Bool → mI → mL → gm_cfg → Prop} {x : Int32} (h : FM I) (hx : x < 0 ∨ nI (nv I 0) ≤ x) (hq : Q false I L c) : C_M_isGuesser g (Int32.toInt64 x) I L c Q := by
  refine e_M_isGuesser ?_
  rw [(gNn h).1]
  exact m_nf (by have := (gNn h).2.1; omega) hx hq
theorem m_isGuessT {Q : Bool → mI → mL → gm_cfg → Prop} {j : Nat} (h : FM I) (hj : j < nv I 1) (hq : Q true I L c) : C_M_isGuess g (nI j) I L c Q := by
  refine e_M_isGuess ?_
  rw [(gG h).1]
  exact m_nt hj (by have := (gG h).2.1; omega) hq
theorem m_isGuessF {Q : Bool → mI → mL → gm_cfg → Prop} {x : Int32} (h : FM I) (hx : x < 0 ∨ nI (nv I 1) ≤ x) (hq : Q false I L c) : C_M_isGuess g x I L c Q := by
  refine e_M_isGuess ?_
  rw [(gG h).1]
  exact m_nf (by have := (gG h).2.1; omega) hx hq
theorem j_hasT {Q : Bool → mI → mL → gm_cfg → Prop} {j : Nat} (h : FS0 I) (hj : j < nv I 0) (hq : Q true I L c) : C_Fe16_has g (nI j) I L c Q := by
  have h6 := (fN h).2.1
  refine e_Fe16_has (br_f (nI_pos (by omega)) (br_f ?_ (br_f (fun z => ?_) hq)))
  · rw [(fN h).2.2]; exact nI_ge hj (by omega)
  · have := nle (a := 6) z (by omega) (by omega)
    omega
theorem j_hasF {Q : Bool → mI → mL → gm_cfg → Prop} {x : Int32} (h : FS0 I) (hx : x < 0 ∨ nI (nv I 0) ≤ x) (hq : Q false I L c) : C_Fe16_has g x I L c Q := by
  refine e_Fe16_has (br_c (fun _ => hq) (fun z => br_t ?_ hq))
  rw [(fN h).2.2]
  exact hx.resolve_left z
theorem j_shT {Q : Bool → mI → mL → gm_cfg → Prop} {j : Nat} (h : FS0 I) (hj : j < nv I 1) (hq : Q true I L c) : C_Sh20_has g (nI j) I L c Q := by
  have h6 := (fG h).2.1
  refine e_Sh20_has (br_f (nI_pos (by omega)) (br_f ?_ (br_f (fun z => ?_) hq)))
  · rw [(fG h).2.2]; exact nI_ge hj (by omega)
  · have := nle (a := 40) z (by omega) (by omega)
    omega
theorem j_shF {Q : Bool → mI → mL → gm_cfg → Prop} {x : Int32} (h : FS0 I) (hx : x < 0 ∨ nI (nv I 1) ≤ x) (hq : Q false I L c) : C_Sh20_has g x I L c Q := by
  refine e_Sh20_has (br_c (fun _ => hq) (fun z => br_t ?_ hq))
  rw [(fG h).2.2]
  exact hx.resolve_left z
theorem j_isJarT {Q : Bool → mI → mL → gm_cfg → Prop} {j : Nat} (h1 : 1 ≤ j) (h2 : j ≤ 999) (hq : Q true I L c) : C_J_isJar g (nI j) I L c Q := by
  refine e_J_isJar (br_f (fun z => ?_) (br_f (fun z => ?_) hq))
  · have := nlt (b := 1) z (by omega) (by omega); omega
  · have := nlt (a := 999) z (by omega) (by omega); omega
theorem j_isJarF {Q : Bool → mI → mL → gm_cfg → Prop} {x : Int32} (hx : x < nI 1 ∨ nI 999 < x) (hq : Q false I L c) : C_J_isJar g x I L c Q :=
  e_J_isJar (br_c (fun _ => hq) (fun z => br_t (hx.resolve_left z) hq))
theorem j_isNumT {Q : Bool → mI → mL → gm_cfg → Prop} {j : Nat} (h2 : j ≤ 2000) (hq : Q true I L c) : C_J_isNumber g (nI j) I L c Q := by
  refine e_J_isNumber (br_f (nI_pos (by omega)) (br_f (fun z => ?_) hq))
  have := nlt (a := 2000) z (by omega) (by omega); omega
theorem j_isNumF {Q : Bool → mI → mL → gm_cfg → Prop} {x : Int32} (hx : x < nI 0 ∨ nI 2000 < x) (hq : Q false I L c) : C_J_isNumber g x I L c Q :=
  e_J_isNumber (br_c (fun _ => hq) (fun z => br_t (hx.resolve_left z) hq))
theorem j_spT {Q : Bool → mI → mL → gm_cfg → Prop} {t : Nat} (h : FS0 I) (h1 : nv I 2 ≤ t) (h2 : t ≤ nv I 3) (hq : Q true I L c) : C_Fe16_spans g (nI t) I L c Q := by
  have a1 := fLo h
  have a2 := fHi h
  refine e_Fe16_spans (br_f (fun z => ?_) (br_f (fun z => ?_) hq))
  · rw [a1.2.2.2] at z; have := nlt z (by omega) (by omega); omega
  · rw [a2.2.2.2] at z; have := nlt z (by omega) (by omega); omega
theorem j_spF {Q : Bool → mI → mL → gm_cfg → Prop} {x : Int32} (h : FS0 I) (hx : x < nI (nv I 2) ∨ nI (nv I 3) < x) (hq : Q false I L c) : C_Fe16_spans g x I L c Q := by
  refine e_Fe16_spans (br_c (fun _ => hq) (fun z => br_t ?_ hq))
  rw [(fHi h).2.2.2]
  rw [(fLo h).2.2.2] at z
  exact hx.resolve_left z
theorem m_grT {Q : Bool → mI → mL → gm_cfg → Prop} {t : Nat} (h : FM I) (h1 : nv I 2 ≤ t) (h2 : t ≤ nv I 3) (hq : Q true I L c) : C_M_isGrid g (nI t) I L c Q := by
  have a1 := gLo h
  have a2 := gHi h
  refine e_M_isGrid ?_
  rw [a1.1, a2.1]
  exact m_wt (by rw [Int32.toInt_toInt64, nI_toInt (by omega)]) (by rw [Int32.toInt_toInt64, nI_toInt (by omega)]) h1 h2 (by omega) hq
theorem m_grF {Q : Bool → mI → mL → gm_cfg → Prop} {x : Int32} (h : FM I) (hx : x < nI (nv I 2) ∨ nI (nv I 3) < x) (hq : Q false I L c) : C_M_isGrid g x I L c Q := by
  have a1 := gLo h
  have a2 := gHi h
  refine e_M_isGrid ?_
  rw [a1.1, a2.1]
  exact m_wf (by rw [Int32.toInt_toInt64, nI_toInt (by omega)]) (by rw [Int32.toInt_toInt64, nI_toInt (by omega)]) (by omega) (by omega) hx hq
end H2
