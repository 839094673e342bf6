/-! calls that change the fete, the list, the rows, the images -/
/-- cells that stay -/
def KO {α : Type} (p : Nat → Bool) (I I' : Nat → Nat → α) : Prop := ∀ o, p o = true → I' o = I o
theorem KO.rf {α : Type} {p : Nat → Bool} {I : Nat → Nat → α} : KO p I I := fun _ _ => rfl
theorem KO.tr {α : Type} {p : Nat → Bool} {I I' I'' : Nat → Nat → α} (h : KO p I I') (h' : KO p I' I'') : KO p I I'' := fun o q => (h' o q).trans (h o q)
theorem KO.u {α : Type} {p : Nat → Bool} {I I' : Nat → Nat → α} {o k : Nat} {v : α} (e : p o = false) (h : KO p I I') : KO p I (gm_u I' o k v) := fun o' q => by
  by_cases z : o' = o
  · subst z; rw [e] at q; cases q
  · rw [gm_u_ne _ _ _ z]; exact h o' q
theorem KO.up {α : Type} {p : Nat → Bool} {I I' : Nat → Nat → α} {o : Nat} {f : Nat → α} (e : p o = false) (h : KO p I I') : KO p I (va_up I' o f) := fun o' q => by
  by_cases z : o' = o
  · subst z; rw [e] at q; cases q
  · simp only [va_up, if_neg z]; exact h o' q
/-- a run of places filled -/
def fl {α : Type} (L : Nat → Nat → α) (p a : Nat) (f : Nat → α) (i : Nat) : Nat → Nat → α := va_up L p (fun k => if a ≤ k ∧ k < a + i then f (k - a) else L p k)
theorem fl_0 {α : Type} (L : Nat → Nat → α) (p a : Nat) (f : Nat → α) : fl L p a f 0 = L := by
  funext o k
  unfold fl va_up
  split
  · rename_i e; subst e
    show (if a ≤ k ∧ k < a + 0 then f (k - a) else L o k) = L o k
    rw [if_neg (by omega)]
  · rfl
theorem fl_s {α : Type} (L : Nat → Nat → α) (p a : Nat) (f : Nat → α) (i : Nat) : gm_u (fl L p a f i) p (a + i) (f i) = fl L p a f (i + 1) := by
  funext o k
  unfold gm_u fl va_up
  by_cases e : o = p
  · subst e
    rw [if_pos rfl, if_pos rfl, if_pos rfl]
    by_cases z : k = a + i
    · subst z
      rw [if_pos rfl, if_pos (by omega), show a + i - a = i by omega]
    · rw [if_neg z]
      by_cases z2 : a ≤ k ∧ k < a + i
      · rw [if_pos z2, if_pos (by omega)]
      · rw [if_neg z2, if_neg (by omega)]
  · rw [if_neg e, if_neg e, if_neg e]
theorem fl_in {α : Type} {L : Nat → Nat → α} {p a : Nat} {f : Nat → α} {i k : Nat} (h : k < i) : fl L p a f i p (a + k) = f k := by
  unfold fl va_up
  rw [if_pos rfl, if_pos (by omega), show a + k - a = k by omega]
theorem fl_out {α : Type} {L : Nat → Nat → α} {p a : Nat} {f : Nat → α} {i k : Nat} (h : k < a ∨ a + i ≤ k) : fl L p a f i p k = L p k := by
  unfold fl va_up
  rw [if_pos rfl, if_neg (by omega)]
theorem fl_ne {α : Type} {L : Nat → Nat → α} {p a : Nat} {f : Nat → α} {i o : Nat} (h : o ≠ p) : fl L p a f i o = L o := by
  unfold fl va_up
  rw [if_neg h]
theorem KO.fl {α : Type} {p : Nat → Bool} {I I' : Nat → Nat → α} {o a i : Nat} {f : Nat → α} (e : p o = false) (h : KO p I I') : KO p I (fl I' o a f i) := KO.up e h
/-! a fete and its list elsewhere -/
def fld (k : Nat) : Bool := k ≤ 5 || (9 ≤ k && k ≤ 13)
theorem FS_tr {I I' : mI} {f a1 a2 a3 sh nu wr off f' b1 b2 b3 sh' nu' wr' off' : Nat} (h60 : ∀ k, k < 110 → I' 60 (off' + k) = I 60 (off + k)) (hf : ∀ k, fld k = true → I' f' k = I f k) (h1 : ∀ j, j < 6 → I' b1 j = I a1 j) (h2 : ∀ j, j < 6 → I' b2 j = I a2 j) (h3 : ∀ j, j < 6 → I' b3 j = I a3 j) (hs : I' sh' 2 = I sh 2) (hn : ∀ k, k < 40 → I' nu' k = I nu k) (hw : ∀ k, k < 40 → I' wr' k = I wr k) (h : FS I f a1 a2 a3 sh nu wr off) : FS I' f' b1 b2 b3 sh' nu' wr' off' := by
  have n : ∀ k, k < 110 → nv I' (off' + k) = nv I (off + k) := fun k hk => by unfold nv; rw [h60 k hk]
  have s : ∀ k m, k < 110 → isN I (off + k) m → isN I' (off' + k) m := fun k m hk q => by unfold isN at *; rw [n k hk, h60 k hk]; exact q
  have n0 : nv I' off' = nv I off := n 0 (by omega)
  have s0 : ∀ m, isN I off m → isN I' off' m := fun m => s 0 m (by omega)
  have e0 : I' 60 off' = I 60 off := h60 0 (by omega)
  obtain ⟨c0, c1, c2, c3, c4, c5, c6, c7, c8, c9, c10, c11⟩ := h
  have l6 := c0.1.2
  have l40 := c1.1.2
  refine ⟨⟨s0 _ c0.1, by rw [hf 5 rfl, e0]; exact c0.2⟩, ⟨s 1 _ (by omega) c1.1, by rw [hs, h60 1 (by omega)]; exact c1.2⟩, ⟨s 2 _ (by omega) c2.1, by rw [n 2 (by omega)]; exact c2.2.1, by rw [hf 0 rfl, h60 2 (by omega)]; exact c2.2.2⟩, ⟨by rw [n 2 (by omega)]; exact s 3 _ (by omega) c3.1, by rw [n 2 (by omega), n 3 (by omega)]; exact c3.2.1, by rw [hf 1 rfl, h60 3 (by omega)]; exact c3.2.2⟩, ⟨s 4 _ (by omega) c4.1, by rw [hf 10 rfl, h60 4 (by omega)]; exact c4.2⟩, ⟨s 5 _ (by omega) c5.1, by rw [hf 11 rfl, h60 5 (by omega)]; exact c5.2⟩, ⟨s 6 _ (by omega) c6.1, by rw [hf 12 rfl, h60 6 (by omega)]; exact c6.2⟩, ⟨s 7 _ (by omega) c7.1, by rw [hf 9 rfl, h60 7 (by omega)]; exact c7.2⟩, by rw [hf 13 rfl, h60 8 (by omega)]; exact c8, ?_, ?_, ?_⟩
  · rw [hf 2 rfl, hf 3 rfl, hf 4 rfl, h60 9 (by omega), h60 10 (by omega)]
    rcases c9 with q | q
    · exact Or.inl q
    · exact Or.inr ⟨q.1, s 9 _ (by omega) q.2.1, q.2.2.1, s 10 _ (by omega) q.2.2.2.1, q.2.2.2.2⟩
  · intro j hj
    rw [n0] at hj
    obtain ⟨d1, d2, d3⟩ := c10 j hj
    have r1 : off' + 11 + j = off' + (11 + j) := by omega
    have r2 : off' + 17 + j = off' + (17 + j) := by omega
    have r3 : off' + 23 + j = off' + (23 + j) := by omega
    have t1 : off + 11 + j = off + (11 + j) := by omega
    have t2 : off + 17 + j = off + (17 + j) := by omega
    have t3 : off + 23 + j = off + (23 + j) := by omega
    rw [t1] at d1
    rw [t2] at d2
    rw [t3] at d3
    rw [r1, r2, r3, h1 j (by omega), h2 j (by omega), h3 j (by omega), h60 _ (by omega), h60 _ (by omega), h60 _ (by omega), n _ (by omega)]
    exact ⟨⟨s _ _ (by omega) d1.1, d1.2⟩, ⟨s _ _ (by omega) d2.1, d2.2⟩, ⟨s _ _ (by omega) d3.1, d3.2⟩⟩
  · intro k hk
    rw [n 1 (by omega)] at hk
    obtain ⟨d1, d2⟩ := c11 k hk
    have r1 : off' + 69 + k = off' + (69 + k) := by omega
    have r2 : off' + 29 + k = off' + (29 + k) := by omega
    have t1 : off + 69 + k = off + (69 + k) := by omega
    have t2 : off + 29 + k = off + (29 + k) := by omega
    rw [t1] at d1
    rw [t2] at d2
    rw [r1, r2, hn k (by omega), hw k (by omega), h60 _ (by omega), h60 _ (by omega), n _ (by omega), n0]
    exact ⟨⟨s _ _ (by omega) d1.1, d1.2⟩, ⟨s _ _ (by omega) d2.1, d2.2.1, d2.2.2⟩⟩
theorem FS_sm {I I' : mI} {f a1 a2 a3 sh nu wr off : Nat} (h60 : ∀ k, k < 110 → I' 60 (off + k) = I 60 (off + k)) (hf : I' f = I f) (h1 : I' a1 = I a1) (h2 : I' a2 = I a2) (h3 : I' a3 = I a3) (hs : I' sh = I sh) (hn : I' nu = I nu) (hw : I' wr = I wr) (h : FS I f a1 a2 a3 sh nu wr off) : FS I' f a1 a2 a3 sh nu wr off :=
  FS_tr h60 (fun k _ => by rw [hf]) (fun k _ => by rw [h1]) (fun k _ => by rw [h2]) (fun k _ => by rw [h3]) (by rw [hs]) (fun k _ => by rw [hn]) (fun k _ => by rw [hw]) h
theorem IM_c {I I' : mI} {o f a1 a2 a3 sh nu wr i : Nat} (h0 : I' o = I o) (h61 : I' 61 i = I 61 i) (h60 : ∀ k, k < 110 → I' 60 (110 * (i + 1) + k) = I 60 (110 * (i + 1) + k)) (hf : I' f = I f) (h1 : I' a1 = I a1) (h2 : I' a2 = I a2) (h3 : I' a3 = I a3) (hs : I' sh = I sh) (hn : I' nu = I nu) (hw : I' wr = I wr) (h : IM I o f a1 a2 a3 sh nu wr i) : IM I' o f a1 a2 a3 sh nu wr i := by
  unfold IM at *
  rw [h0, h61]
  rcases h with q | q
  · exact Or.inl q
  · exact Or.inr ⟨q.1, q.2.1, FS_sm h60 hf h1 h2 h3 hs hn hw q.2.2⟩
theorem RW_c {I I' : mI} {L L' : mL} {o p r : Nat} (h1 : I' o = I o) (h2 : I' 71 r = I 71 r) (h3 : I' 72 r = I 72 r) (h4 : L' p = L p) (h5 : ∀ k, k < 40 → L' 73 (40 * r + k) = L 73 (40 * r + k)) (h : RW I L o p r) : RW I' L' o p r := by
  unfold RW at *
  rw [h1, h2, h3, h4]
  rcases h with q | ⟨n, s, q1, q2, q3, q4, q5, q6, q7⟩
  · exact Or.inl q
  · exact Or.inr ⟨n, s, q1, q2, q3, q4, q5, q6, fun k hk => by rw [h5 k (by omega)]; exact q7 k hk⟩
/-- cells of the rows and images -/
def oRI (o : Nat) : Bool := o == 35 || o == 37 || o == 39 || o == 41 || (43 ≤ o && o ≤ 58) || o == 61 || o == 71 || o == 72 || o == 7
theorem SZ_k {I I' : mI} (e : I' 7 = I 7) (h : SZ I) : SZ I' := by unfold SZ at *; rw [e]; exact h
theorem Inv.setF {I I' : mI} {L L' : mL} {c c' : gm_cfg} (h : Inv I L c) (hf : FS0 I') (ht : TP I') (h6 : I' 6 0 = I' 59 13 ∧ I' 6 1 = I' 59 14) (h60 : ∀ k, 110 ≤ k → I' 60 k = I 60 k) (hr : KO oRI I I') (hL : KO perL L L') (hc : CF c') (h25 : L' 25 0 = L 25 0 := by rfl) : Inv I' L' c' := by
  obtain ⟨-, -, -, ⟨r0, r1, r2, r3⟩, ⟨m0, m1⟩, -, sz, l0⟩ := h
  have R := hr
  have X := hL
  refine ⟨hf, ht, h6, ⟨?_, ?_, ?_, ?_⟩, ⟨?_, ?_⟩, hc, SZ_k (hr 7 rfl) sz, h25.trans l0⟩
  · exact RW_congr (R 35 rfl) (R 71 rfl) (R 72 rfl) (X 36 rfl) (X 73 rfl) r0
  · exact RW_congr (R 37 rfl) (R 71 rfl) (R 72 rfl) (X 38 rfl) (X 73 rfl) r1
  · exact RW_congr (R 39 rfl) (R 71 rfl) (R 72 rfl) (X 40 rfl) (X 73 rfl) r2
  · exact RW_congr (R 41 rfl) (R 71 rfl) (R 72 rfl) (X 42 rfl) (X 73 rfl) r3
  · exact IM_c (R 43 rfl) (by rw [R 61 rfl]) (fun k _ => h60 _ (by omega)) (R 44 rfl) (R 45 rfl) (R 46 rfl) (R 47 rfl) (R 48 rfl) (R 49 rfl) (R 50 rfl) m0
  · exact IM_c (R 51 rfl) (by rw [R 61 rfl]) (fun k _ => h60 _ (by omega)) (R 52 rfl) (R 53 rfl) (R 54 rfl) (R 55 rfl) (R 56 rfl) (R 57 rfl) (R 58 rfl) m1
/-- what jar, write, strike leave -/
theorem FS0_up {I I' : mI} (h : FS0 I) (e : ∀ k, k < 29 → k ≠ 1 → k ≠ 6 → I' 60 k = I 60 k) (ef : ∀ k, fld k = true → k ≠ 12 → I' 16 k = I 16 k) (e17 : I' 17 = I 17) (e18 : I' 18 = I 18) (e19 : I' 19 = I 19) (hj : isN I' 6 999 ∧ I' 16 12 = I' 60 6) (hs : isN I' 1 40 ∧ I' 20 2 = I' 60 1) (hl : ∀ k, k < nv I' 1 → (isN I' (69 + k) 2000 ∧ I' 21 k = I' 60 (69 + k)) ∧ (isN I' (29 + k) 5 ∧ nv I' (29 + k) < nv I 0 ∧ I' 22 k = I' 60 (29 + k))) : FS0 I' := by
  have n : ∀ k, k < 29 → k ≠ 1 → k ≠ 6 → nv I' k = nv I k := fun k q1 q2 q3 => by unfold nv; rw [e k q1 q2 q3]
  have s : ∀ k m, k < 29 → k ≠ 1 → k ≠ 6 → isN I k m → isN I' k m := fun k m q1 q2 q3 q => by unfold isN at *; rw [n k q1 q2 q3, e k q1 q2 q3]; exact q
  obtain ⟨c0, c1, c2, c3, c4, c5, c6, c7, c8, c9, c10, c11⟩ := h
  have l6 := c0.1.2
  refine ⟨⟨s 0 _ (by omega) (by omega) (by omega) c0.1, by rw [ef 5 rfl (by omega), e 0 (by omega) (by omega) (by omega)]; exact c0.2⟩, hs, ⟨s 2 _ (by omega) (by omega) (by omega) c2.1, by rw [n (0 + 2) (by omega) (by omega) (by omega)]; exact c2.2.1, by rw [ef 0 rfl (by omega), e (0 + 2) (by omega) (by omega) (by omega)]; exact c2.2.2⟩, ⟨by rw [n (0 + 2) (by omega) (by omega) (by omega)]; exact s 3 _ (by omega) (by omega) (by omega) c3.1, by rw [n (0 + 2) (by omega) (by omega) (by omega), n (0 + 3) (by omega) (by omega) (by omega)]; exact c3.2.1, by rw [ef 1 rfl (by omega), e (0 + 3) (by omega) (by omega) (by omega)]; exact c3.2.2⟩, ⟨s 4 _ (by omega) (by omega) (by omega) c4.1, by rw [ef 10 rfl (by omega), e (0 + 4) (by omega) (by omega) (by omega)]; exact c4.2⟩, ⟨s 5 _ (by omega) (by omega) (by omega) c5.1, by rw [ef 11 rfl (by omega), e (0 + 5) (by omega) (by omega) (by omega)]; exact c5.2⟩, hj, ⟨s 7 _ (by omega) (by omega) (by omega) c7.1, by rw [ef 9 rfl (by omega), e (0 + 7) (by omega) (by omega) (by omega)]; exact c7.2⟩, by rw [ef 13 rfl (by omega), e (0 + 8) (by omega) (by omega) (by omega)]; exact c8, ?_, ?_, ?_⟩
  · rw [ef 2 rfl (by omega), ef 3 rfl (by omega), ef 4 rfl (by omega), e (0 + 9) (by omega) (by omega) (by omega), e (0 + 10) (by omega) (by omega) (by omega)]
    rcases c9 with q | q
    · exact Or.inl q
    · exact Or.inr ⟨q.1, s 9 _ (by omega) (by omega) (by omega) q.2.1, q.2.2.1, s 10 _ (by omega) (by omega) (by omega) q.2.2.2.1, q.2.2.2.2⟩
  · intro j hj
    rw [n 0 (by omega) (by omega) (by omega)] at hj
    obtain ⟨d1, d2, d3⟩ := c10 j hj
    rw [e17, e18, e19, e _ (by omega) (by omega) (by omega), e _ (by omega) (by omega) (by omega), e _ (by omega) (by omega) (by omega), n _ (by omega) (by omega) (by omega)]
    exact ⟨⟨s _ _ (by omega) (by omega) (by omega) d1.1, d1.2⟩, ⟨s _ _ (by omega) (by omega) (by omega) d2.1, d2.2⟩, ⟨s _ _ (by omega) (by omega) (by omega) d3.1, d3.2⟩⟩
  · intro k hk
    have := hl k hk
    rw [show 0 + 69 + k = 69 + k by omega, show 0 + 29 + k = 29 + k by omega, n 0 (by omega) (by omega) (by omega)]
    exact this
theorem isN_of {I : mI} {k m j : Nat} (e : I 60 k = nI j) (hj : j ≤ m) (hm : m < 2 ^ 31) : isN I k m ∧ nv I k = j := by
  have q : nv I k = j := by unfold nv; rw [e, nI_clamp (by omega)]
  exact ⟨⟨by rw [q]; exact e, by omega⟩, q⟩
section S
variable {g : gm_G} {I : mI} {L : mL} {c : gm_cfg}
theorem P_jar {x : Int32} (hI : Inv I L c) : C_J_jar g x I L c (mQ (C_M_jar g x)) := by
  have h : FS0 I := hI.1
  have hJ := fJr h
  have fx : ∀ t, t ≤ 999 → Inv (gm_u (gm_u (gm_u I 16 12 (nI t)) 59 0 0) 60 6 (nI t)) L c := by
    intro t ht
    have e : ∀ k, k ≠ 6 → (gm_u (gm_u (gm_u I 16 12 (nI t)) 59 0 0) 60 6 (nI t)) 60 k = I 60 k := by
      intro k hk
      rw [gm_u_ne2 _ _ _ _ hk]
      rfl
    refine hI.setF (FS0_up h (fun k _ _ q => e k q) (fun k _ q => ?_) rfl rfl rfl ⟨(isN_of (j := t) rfl ht (by omega)).1, rfl⟩ h.2.1 (fun k hk => ?_)) (TP_congr rfl rfl rfl rfl hI.2.1) hI.2.2.1 (fun k hk => e k (by omega)) (KO.u rfl (KO.u rfl (KO.u rfl KO.rf))) KO.rf hI.cf
    · show gm_u I 16 12 (nI t) 16 k = _
      exact gm_u_ne2 _ _ _ _ q
    · have hk' : k < nv I 1 := hk
      have hn := fNu h hk'
      have hb := (fG h).2.1
      have h6 := (fN h).2.1
      have e1 := e (69 + k) (by omega)
      have e2 := e (29 + k) (by omega)
      have s1 := isN_of (m := 2000) (e1.trans hn.1.1) hn.1.2.1 (by omega)
      have s2 := isN_of (m := 5) (e2.trans hn.2.1) (by omega) (by omega)
      exact ⟨⟨s1.1, by rw [e1]; exact hn.1.2.2.trans hn.1.1.symm⟩, s2.1, by rw [s2.2]; exact hn.2.2.1, by rw [e2]; exact hn.2.2.2.trans hn.2.1.symm⟩
  have M : ∀ t, t ≤ 999 → mQ (C_M_jar g (nI t)) (I 16 12) (gm_u I 16 12 (nI t)) L c := by
    intro t ht
    exact e_M_jar (m_0t (n := 999) rfl (by omega) ht (bt ⟨hJ.2.2.trans hJ.1.symm, fx t ht⟩))
  rcases inAB x 0 999 (by omega) (by omega) with ⟨t, h1, h2, rfl⟩ | hx
  · refine e_J_jar (br_c (fun z => M t h2) (fun z => ?_))
    have hz : 1 ≤ t := by
      rcases Nat.eq_zero_or_pos t with q | q
      · subst q; exact absurd rfl z
      · exact q
    exact j_isJarT hz h2 (bt (M t h2))
  · refine e_J_jar (br_f ?_ (j_isJarF ?_ (bf (e_M_jar (m_wf (a := 0) (b := 999) rfl rfl (by omega) (by omega) hx (bf (fin hI rfl kT)))))))
    · rintro rfl
      rcases hx with q | q
      · exact absurd q (by decide)
      · exact absurd q (by decide)
    · rcases hx with q | q
      · refine Or.inl ?_
        rw [Int32.lt_iff_toInt_lt, nI_toInt (by omega)] at q
        rw [Int32.lt_iff_toInt_lt, nI_toInt (by omega)]
        omega
      · exact Or.inr q
/-! the list grows -/
def aJ (I : mI) (n w v : Nat) : mI := gm_u (gm_u (gm_u I 21 n (nI v)) 22 n (nI w)) 20 2 (nI (n + 1))
def aM (I : mI) (n w v : Nat) : mI := gm_u (gm_u (gm_u I 60 (29 + n) (nI w)) 60 (69 + n) (nI v)) 60 1 (nI (n + 1))
theorem aM_60 (I : mI) (n w v k : Nat) : aM I n w v 60 k = if k = 1 then nI (n + 1) else if k = 69 + n then nI v else if k = 29 + n then nI w else I 60 k := by
  simp [aM, gm_u, va_up]
theorem j_add {Q : mI → mL → gm_cfg → Prop} {n w v : Nat} (hs : I 20 2 = nI n) (hn : n < 40) (hq : Q (aJ I n w v) L c) : C_Sh20_add g (nI w) (nI v) I L c Q := by
  refine e_Sh20_add ?_
  rw [hs]
  refine br_f (nI_ge (b := 40) hn (by omega)) ⟨vp_in_nI hn (by omega), vp_in_nI hn (by omega), ?_⟩
  rw [nI_clamp (by omega), nI_1]
  exact hq
theorem m_adds {Q : mI → mL → gm_cfg → Prop} {n w v : Nat} (hs : I 60 1 = nI n) (hn : n < 40) (hq : Q (aM I n w v) L c) : C_M_adds g (nI w) (nI v) I L c Q := by
  have e1 : Int32.toNatClampNeg (29 + nI n) = 29 + n := ixa 29 n (by omega)
  have e2 : Int32.toNatClampNeg (69 + nI n) = 69 + n := ixa 69 n (by omega)
  refine e_M_adds ?_
  rw [hs, e1]
  have e3 : gm_u I 60 (29 + n) (nI w) 60 1 = nI n := by rw [gm_u_ne2 _ _ _ _ (by omega)]; exact hs
  rw [e3, e2]
  have e4 : gm_u (gm_u I 60 (29 + n) (nI w)) 60 (69 + n) (nI v) 60 1 = nI n := by rw [gm_u_ne2 _ _ _ _ (by omega)]; exact e3
  rw [e4, nI_1]
  exact ⟨via 29 n 330 (by omega) (by omega), via 69 n 330 (by omega) (by omega), hq⟩
theorem P_write {x y : Int32} (hI : Inv I L c) : C_J_write g x y I L c (mQ (C_M_write g x y)) := by
  have h : FS0 I := hI.1
  have hT : FM (gm_u I 59 0 0) := FM.k (FS0.m h) (kT (L := L))
  have hN := fN h
  have hG := fG h
  rcases inR x (nv I 0) (by omega) with ⟨w, hw, rfl⟩ | hx
  · refine e_J_write (j_hasT h hw (bt ?_))
    rcases inAB y 0 2000 (by omega) (by omega) with ⟨v, v1, v2, rfl⟩ | hy
    · refine j_isNumT v2 (bt ?_)
      rcases Nat.lt_or_ge (nv I 1) 40 with q | q
      · refine br_t (by rw [hG.2.2]; exact nI_lt (b := 40) q (by omega)) (j_add hG.2.2 q ?_)
        have hT2 : FM (gm_u (aJ I (nv I 1) w v) 59 0 0) := FM_c (I := I) (fun k _ => rfl) (FS0.m h)
        refine e_M_write (m_isGuesserT hT2 hw (bt (m_0t (n := 2000) rfl (by omega) v2 (bt (br_f (fun z => ?_) (m_adds (n := nv I 1) hG.1 q ?_))))))
        · have z' : I 60 1 = 40 := z
          rw [hG.1] at z'
          have := neq (b := 40) z' (by omega) (by omega)
          omega
        · generalize hn : nv I 1 = n at q
          have E := aM_60 (gm_u (aJ I n w v) 59 0 0) n w v
          have E1 : aM (gm_u (aJ I n w v) 59 0 0) n w v 60 1 = nI (n + 1) := by rw [E, if_pos rfl]
          have N1 := (isN_of (m := 40) E1 (by omega) (by omega))
          refine ⟨E1.symm, hI.setF (FS0_up h (fun k q1 q2 _ => ?_) (fun k _ q => rfl) rfl rfl rfl ⟨?_, ?_⟩ ⟨N1.1, E1.symm⟩ (fun k hk => ?_)) (TP_congr rfl rfl rfl rfl hI.2.1) hI.2.2.1 (fun k hk => ?_) (KO.u rfl (KO.u rfl (KO.u rfl (KO.u rfl (KO.u rfl (KO.u rfl (KO.u rfl KO.rf))))))) KO.rf hI.cf⟩
          · rw [E, if_neg q2, if_neg (by omega), if_neg (by omega)]; rfl
          · refine (isN_of (j := nv I 6) ?_ (fJr h).2.1 (by omega)).1
            rw [E, if_neg (by omega), if_neg (by omega), if_neg (by omega)]; exact (fJr h).1
          · rw [E, if_neg (by omega), if_neg (by omega), if_neg (by omega)]; exact h.2.2.2.2.2.2.1.2
          · rw [N1.2] at hk
            rcases Nat.lt_or_ge k n with z | z
            · have hkn : k < nv I 1 := by omega
              have hm := fNu h hkn
              have e1 : aM (gm_u (aJ I n w v) 59 0 0) n w v 60 (69 + k) = I 60 (69 + k) := by
                rw [E, if_neg (by omega), if_neg (by omega), if_neg (by omega)]; rfl
              have e2 : aM (gm_u (aJ I n w v) 59 0 0) n w v 60 (29 + k) = I 60 (29 + k) := by
                rw [E, if_neg (by omega), if_neg (by omega), if_neg (by omega)]; rfl
              have s1 := isN_of (m := 2000) (e1.trans hm.1.1) hm.1.2.1 (by omega)
              have s2 := isN_of (m := 5) (e2.trans hm.2.1) (by omega) (by omega)
              have j1 : aM (gm_u (aJ I n w v) 59 0 0) n w v 21 k = I 21 k := by
                show gm_u I 21 n (nI v) 21 k = _
                exact gm_u_ne2 _ _ _ _ (by omega)
              have j2 : aM (gm_u (aJ I n w v) 59 0 0) n w v 22 k = I 22 k := by
                show gm_u (gm_u I 21 n (nI v)) 22 n (nI w) 22 k = _
                rw [gm_u_ne2 _ _ _ _ (by omega)]; rfl
              exact ⟨⟨s1.1, by rw [e1, j1]; exact hm.1.2.2.trans hm.1.1.symm⟩, s2.1, by rw [s2.2]; exact hm.2.2.1, by rw [e2, j2]; exact hm.2.2.2.trans hm.2.1.symm⟩
            · have hk2 : k = n := by omega
              subst hk2
              have e1 : aM (gm_u (aJ I k w v) 59 0 0) k w v 60 (69 + k) = nI v := by
                rw [E, if_neg (by omega), if_pos rfl]
              have e2 : aM (gm_u (aJ I k w v) 59 0 0) k w v 60 (29 + k) = nI w := by
                rw [E, if_neg (by omega), if_neg (by omega), if_pos rfl]
              have s1 := isN_of (m := 2000) e1 v2 (by omega)
              have s2 := isN_of (m := 5) e2 (by omega) (by omega)
              have j1 : aM (gm_u (aJ I k w v) 59 0 0) k w v 21 k = nI v := by
                show gm_u I 21 k (nI v) 21 k = _
                exact gm_u_eq _ _ _ _
              have j2 : aM (gm_u (aJ I k w v) 59 0 0) k w v 22 k = nI w := by
                show gm_u (gm_u I 21 k (nI v)) 22 k (nI w) 22 k = _
                exact gm_u_eq _ _ _ _
              exact ⟨⟨s1.1, by rw [e1, j1]⟩, s2.1, by rw [s2.2]; exact hw, by rw [e2, j2]⟩
          · rw [E, if_neg (by omega), if_neg (by omega), if_neg (by omega)]; rfl
      · have e40 : nv I 1 = 40 := by omega
        refine br_f (by rw [hG.2.2]; exact nI_nlt (b := 40) q (by omega)) (e_M_write (m_isGuesserT hT hw (bt (m_0t (n := 2000) rfl (by omega) v2 (bt (br_t (show I 60 1 = 40 by rw [hG.1, e40]; rfl) (fin hI rfl kT)))))))
    · exact j_isNumF hy (bf (e_M_write (m_isGuesserT hT hw (bt (m_wf (a := 0) (b := 2000) rfl rfl (by omega) (by omega) hy (bf (fin hI rfl kT)))))))
  · exact e_J_write (j_hasF h hx (bf (e_M_write (m_isGuesserF hT hx (bf (fin hI rfl kT))))))
theorem P_strike {x : Int32} (hI : Inv I L c) : C_J_strike g x I L c (mQ (C_M_strike g x)) := by
  have h : FS0 I := hI.1
  have hG := fG h
  have e60 : I 60 1 = nI (nv I 1) := hG.1
  rcases inAB x 0 (nv I 1) (by omega) (by omega) with ⟨n, n1, n2, rfl⟩ | hx
  · refine e_J_strike (br_f (nI_pos (by omega)) (br_t (by rw [hG.2.2]; exact nI_le n2 (by omega)) ?_))
    rw [hG.2.2, pk_sub n2]
    have fx : ∀ I1 : mI, (∀ k, k ≠ 1 → I1 60 k = I 60 k) → I1 60 1 = nI (nv I 1 - n) → I1 20 2 = nI (nv I 1 - n) → I1 16 = I 16 → I1 17 = I 17 → I1 18 = I 18 → I1 19 = I 19 → I1 21 = I 21 → I1 22 = I 22 → FS0 I1 := by
      intro I1 e e1 e2 e3 e4 e5 e6 e7 e8
      have N1 := isN_of (m := 40) e1 (by omega) (by omega)
      have ej : nv I1 6 = nv I 6 := by unfold nv; rw [e 6 (by omega)]
      refine FS0_up h (fun k _ q _ => e k q) (fun k _ _ => by rw [e3]) e4 e5 e6 ⟨(isN_of (m := 999) (j := nv I 6) (by rw [e 6 (by omega)]; exact (fJr h).1) (fJr h).2.1 (by omega)).1, by rw [e3, e 6 (by omega)]; exact h.2.2.2.2.2.2.1.2⟩ ⟨N1.1, e2.trans e1.symm⟩ (fun k hk => ?_)
      rw [N1.2] at hk
      have hm := fNu h (k := k) (by omega)
      have h6 := (fN h).2.1
      have q1 := e (69 + k) (by omega)
      have q2 := e (29 + k) (by omega)
      have s1 := isN_of (m := 2000) (q1.trans hm.1.1) hm.1.2.1 (by omega)
      have s2 := isN_of (m := 5) (q2.trans hm.2.1) (by omega) (by omega)
      exact ⟨⟨s1.1, by rw [q1, e7]; exact hm.1.2.2.trans hm.1.1.symm⟩, s2.1, by rw [s2.2]; exact hm.2.2.1, by rw [q2, e8]; exact hm.2.2.2.trans hm.2.1.symm⟩
    refine e_Sh20_cutTo (br_f (nI_pos (by omega)) (br_c (fun z => ?_) (fun z => ?_)))
    · rw [hG.2.2] at z ⊢
      have hn0 : n = 0 := by have := nle z (by omega) (by omega); omega
      refine e_M_strike ?_
      rw [e60]
      refine m_0t (n := nv I 1) (by rw [Int32.toInt_toInt64, nI_toInt (by omega)]) (by omega) n2 (bt ?_)
      rw [show (gm_u I 59 0 0) 60 1 = nI (nv I 1) from e60, pk_sub n2]
      refine ⟨by rw [hn0]; rfl, hI.setF (fx _ (fun k q => by rw [gm_u_ne2 _ _ _ _ q]; rfl) rfl (by show I 20 2 = _; rw [hG.2.2, hn0]; rfl) rfl rfl rfl rfl rfl rfl) (TP_congr rfl rfl rfl rfl hI.2.1) hI.2.2.1 (fun k hk => by rw [gm_u_ne2 _ _ _ _ (by omega)]; rfl) (KO.u rfl (KO.u rfl KO.rf)) KO.rf hI.cf⟩
    · refine e_M_strike ?_
      rw [show (gm_u I 20 2 (nI (nv I 1 - n))) 60 1 = nI (nv I 1) from e60]
      refine m_0t (n := nv I 1) (by rw [Int32.toInt_toInt64, nI_toInt (by omega)]) (by omega) n2 (bt ?_)
      rw [show (gm_u (gm_u I 20 2 (nI (nv I 1 - n))) 59 0 0) 60 1 = nI (nv I 1) from e60, pk_sub n2]
      refine ⟨rfl, hI.setF (fx _ (fun k q => by rw [gm_u_ne2 _ _ _ _ q]; rfl) rfl rfl rfl rfl rfl rfl rfl rfl) (TP_congr rfl rfl rfl rfl hI.2.1) hI.2.2.1 (fun k hk => by rw [gm_u_ne2 _ _ _ _ (by omega)]; rfl) (KO.u rfl (KO.u rfl (KO.u rfl KO.rf))) KO.rf hI.cf⟩
  · have M : mQ (C_M_strike g x) (-3) I L c := by
      refine e_M_strike ?_
      rw [e60]
      exact m_wf (a := 0) (b := nv I 1) rfl (by rw [Int32.toInt_toInt64, nI_toInt (by omega)]) (by omega) (by omega) hx (bf (fin hI rfl kT))
    refine e_J_strike (br_c (fun _ => M) (fun z => br_f ?_ M))
    rw [hG.2.2]
    intro q
    rcases hx with w | w
    · exact z w
    · rw [Int32.lt_iff_toInt_lt] at w
      rw [Int32.le_iff_toInt_le] at q
      omega
end S
