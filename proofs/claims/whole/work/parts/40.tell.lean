/-! lists that grow on one side, rows told -/
def p60 (o : Nat) : Bool := o != 59 && o != 60
def p20 (o : Nat) : Bool := o != 20 && o != 21 && o != 22
/-- the reference's list: n numbers f by h -/
def EM (I0 I : mI) (n : Nat) (f h : Nat → Nat) : Prop := I 60 1 = nI n ∧ (∀ k, k < n → I 60 (69 + k) = nI (f k) ∧ I 60 (29 + k) = nI (h k)) ∧ (∀ k, k < 29 → k ≠ 1 → I 60 k = I0 60 k) ∧ (∀ k, 110 ≤ k → I 60 k = I0 60 k)
/-- the class's list -/
def EJ (I0 I : mI) (n : Nat) (f h : Nat → Nat) : Prop := I 20 2 = nI n ∧ (∀ k, k < n → I 21 k = nI (f k) ∧ I 22 k = nI (h k)) ∧ KO p20 I0 I
theorem EM_add {I0 I : mI} {n : Nat} {f h : Nat → Nat} (e : EM I0 I n f h) (hn : n < 40) : EM I0 (aM I n (h n) (f n)) (n + 1) f h := by
  obtain ⟨e1, e2, e3, e4⟩ := e
  have E := aM_60 I n (h n) (f n)
  refine ⟨by rw [E, if_pos rfl], fun k hk => ?_, fun k k1 k2 => ?_, fun k hk => ?_⟩
  · rcases Nat.lt_or_ge k n with q | q
    · rw [E, E, if_neg (by omega), if_neg (by omega), if_neg (by omega), if_neg (by omega), if_neg (by omega), if_neg (by omega)]
      exact e2 k q
    · have : k = n := by omega
      subst this
      rw [E, E, if_neg (by omega), if_pos rfl, if_neg (by omega), if_neg (by omega), if_pos rfl]
      exact ⟨rfl, rfl⟩
  · rw [E, if_neg k2, if_neg (by omega), if_neg (by omega)]
    exact e3 k k1 k2
  · rw [E, if_neg (by omega), if_neg (by omega), if_neg (by omega)]
    exact e4 k hk
theorem EJ_add {I0 I : mI} {n : Nat} {f h : Nat → Nat} (e : EJ I0 I n f h) : EJ I0 (aJ I n (h n) (f n)) (n + 1) f h := by
  obtain ⟨e1, e2, e3⟩ := e
  refine ⟨rfl, fun k hk => ?_, KO.u rfl (KO.u rfl (KO.u rfl e3))⟩
  rcases Nat.lt_or_ge k n with q | q
  · refine ⟨?_, ?_⟩
    · show gm_u I 21 n (nI (f n)) 21 k = _
      rw [gm_u_ne2 _ _ _ _ (by omega)]; exact (e2 k q).1
    · show gm_u (gm_u I 21 n (nI (f n))) 22 n (nI (h n)) 22 k = _
      rw [gm_u_ne2 _ _ _ _ (by omega)]; exact (e2 k q).2
  · have : k = n := by omega
    subst this
    refine ⟨?_, ?_⟩
    · show gm_u I 21 k (nI (f k)) 21 k = _
      exact gm_u_eq _ _ _ _
    · show gm_u (gm_u I 21 k (nI (f k))) 22 k (nI (h k)) 22 k = _
      exact gm_u_eq _ _ _ _
theorem EM_nv {I0 I : mI} {n : Nat} {f h : Nat → Nat} (e : EM I0 I n f h) (hn : n ≤ 40) : nv I 1 = n ∧ (∀ k, k < 29 → k ≠ 1 → nv I k = nv I0 k) := by
  obtain ⟨e1, e2, e3, e4⟩ := e
  refine ⟨?_, fun k k1 k2 => ?_⟩
  · unfold nv; rw [e1, nI_clamp (by omega)]
  · unfold nv; rw [e3 k k1 k2]
theorem EM_nu {I0 I : mI} {n : Nat} {f h : Nat → Nat} (e : EM I0 I n f h) {k : Nat} (hk : k < n) (hf : f k ≤ 2000) : nu I k = f k := by
  show nv I (69 + k) = _
  unfold nv; rw [(e.2.1 k hk).1, nI_clamp (by omega)]
theorem EM_FM {I0 I : mI} {n : Nat} {f h : Nat → Nat} (h0 : FM I0) (e : EM I0 I n f h) (hn : n ≤ 40) (hf : ∀ k, k < n → f k ≤ 2000 ∧ h k < nv I0 0) : FM I := by
  obtain ⟨n1, n2⟩ := EM_nv e hn
  obtain ⟨e1, e2, e3, e4⟩ := e
  have s : ∀ k m, k < 29 → k ≠ 1 → isN I0 k m → isN I k m := fun k m q1 q2 q => by unfold isN at *; rw [n2 k q1 q2, e3 k q1 q2]; exact q
  obtain ⟨a0, a1, a2, a3, a4, a5, a6, a7, a9, a10, a11⟩ := h0
  have h6 := a0.2
  refine ⟨s 0 _ (by omega) (by omega) a0, (isN_of e1 hn (by omega)).1, ⟨s 2 _ (by omega) (by omega) a2.1, by rw [n2 2 (by omega) (by omega)]; exact a2.2⟩, ⟨by rw [n2 2 (by omega) (by omega)]; exact s 3 _ (by omega) (by omega) a3.1, by rw [n2 2 (by omega) (by omega), n2 3 (by omega) (by omega)]; exact a3.2⟩, s 4 _ (by omega) (by omega) a4, s 5 _ (by omega) (by omega) a5, s 6 _ (by omega) (by omega) a6, s 7 _ (by omega) (by omega) a7, ?_, ?_, ?_⟩
  · rw [e3 10 (by omega) (by omega)]
    rcases a9 with q | q
    · exact Or.inl q
    · exact Or.inr ⟨s 9 _ (by omega) (by omega) q.1, s 10 _ (by omega) (by omega) q.2⟩
  · intro j hj
    rw [n2 0 (by omega) (by omega)] at hj
    obtain ⟨b1, b2, b3⟩ := a10 j hj
    exact ⟨⟨s _ _ (by omega) (by omega) b1.1, by rw [n2 _ (by omega) (by omega)]; exact b1.2⟩, s _ _ (by omega) (by omega) b2, s _ _ (by omega) (by omega) b3⟩
  · intro k hk
    rw [n1] at hk
    obtain ⟨f1, f2⟩ := hf k hk
    obtain ⟨g1, g2⟩ := e2 k hk
    have s2 := isN_of (m := 5) g2 (by omega) (by omega)
    exact ⟨(isN_of g1 f1 (by omega)).1, s2.1, by rw [s2.2, n2 0 (by omega) (by omega)]; exact f2⟩
/-- both lists grown alike -/
theorem EE_FS {I0 I : mI} {n : Nat} {f h : Nat → Nat} (h0 : FS0 I0) (e : EM I0 I n f h) (hn : n ≤ 40) (hf : ∀ k, k < n → f k ≤ 2000 ∧ h k < nv I0 0) (j1 : I 20 2 = nI n) (j2 : ∀ k, k < n → I 21 k = nI (f k) ∧ I 22 k = nI (h k)) (j3 : I 16 = I0 16 ∧ I 17 = I0 17 ∧ I 18 = I0 18 ∧ I 19 = I0 19) : FS0 I := by
  obtain ⟨n1, n2⟩ := EM_nv e hn
  have hN := (fN h0).2.1
  have hJ := fJr h0
  refine FS0_up h0 (fun k k1 k2 _ => e.2.2.1 k k1 k2) (fun k _ _ => by rw [j3.1]) j3.2.1 j3.2.2.1 j3.2.2.2 ⟨(isN_of (j := nv I0 6) (by rw [e.2.2.1 6 (by omega) (by omega)]; exact hJ.1) hJ.2.1 (by omega)).1, by rw [j3.1, e.2.2.1 6 (by omega) (by omega)]; exact h0.2.2.2.2.2.2.1.2⟩ ⟨(isN_of e.1 hn (by omega)).1, j1.trans e.1.symm⟩ (fun k hk => ?_)
  rw [n1] at hk
  obtain ⟨f1, f2⟩ := hf k hk
  obtain ⟨g1, g2⟩ := e.2.1 k hk
  obtain ⟨d1, d2⟩ := j2 k hk
  have s2 := isN_of (m := 5) g2 (by omega) (by omega)
  exact ⟨⟨(isN_of g1 f1 (by omega)).1, d1.trans g1.symm⟩, s2.1, by rw [s2.2]; exact f2, d2.trans g2.symm⟩
theorem EM_0 {I : mI} (h : FM I) : EM I I (nv I 1) (nu I) (wr I) := ⟨(gG h).1, fun k hk => ⟨(gNu h hk).1.1, (gNu h hk).2.1⟩, fun _ _ _ => rfl, fun _ _ => rfl⟩
theorem EM_k {I0 I I' : mI} {n : Nat} {f h : Nat → Nat} (e : EM I0 I n f h) (q : I' 60 = I 60) : EM I0 I' n f h := by
  unfold EM at *
  rw [q]
  exact e
theorem EM_f {I0 I : mI} {n : Nat} {f h f' h' : Nat → Nat} (e : EM I0 I n f h) (q : ∀ k, k < n → f k = f' k ∧ h k = h' k) : EM I0 I n f' h' := ⟨e.1, fun k hk => by rw [← (q k hk).1, ← (q k hk).2]; exact e.2.1 k hk, e.2.2⟩
theorem EJ_0 {I : mI} (h : FS0 I) : EJ I I (nv I 1) (nu I) (wr I) := ⟨(fG h).2.2, fun k hk => ⟨(fNu h hk).1.2.2, (fNu h hk).2.2.2⟩, KO.rf⟩
theorem EJ_f {I0 I : mI} {n : Nat} {f h f' h' : Nat → Nat} (e : EJ I0 I n f h) (q : ∀ k, k < n → f k = f' k ∧ h k = h' k) : EJ I0 I n f' h' := ⟨e.1, fun k hk => by rw [← (q k hk).1, ← (q k hk).2]; exact e.2.1 k hk, e.2.2⟩
theorem sN_c {f f' : Nat → Nat} : ∀ n, (∀ k, k < n → f k = f' k) → sN f n = sN f' n
  | 0, _ => rfl
  | n + 1, h => by
    show sN f n + f n = sN f' n + f' n
    rw [sN_c n (fun k hk => h k (by omega)), h n (by omega)]
theorem mn_c {f f' : Nat → Nat} {n : Nat} (h : ∀ k, k < n → f k = f' k) : mn f n = mn f' n := by unfold mn; rw [sN_c n h]
/-! told numbers -/
/-- what x tells: w writes v -/
def GT (N : Nat) (x : Int64) (w v : Nat) : Prop := w < N ∧ v ≤ 2000 ∧ x = lN (10000 * w + v)
def BT (N : Nat) (x : Int64) : Prop := x < 0 ∨ ∃ k, k < 2 ^ 63 ∧ x = lN k ∧ (10000 * N ≤ k ∨ 2000 < k % 10000)
theorem GB (N : Nat) (x : Int64) : (∃ w v, GT N x w v) ∨ BT N x := by
  by_cases h : x < 0
  · exact Or.inr (Or.inl h)
  · obtain ⟨k, k1, rfl⟩ := pk_lOf h
    by_cases q : 10000 * N ≤ k
    · exact Or.inr (Or.inr ⟨k, k1, rfl, Or.inl q⟩)
    · by_cases q2 : 2000 < k % 10000
      · exact Or.inr (Or.inr ⟨k, k1, rfl, Or.inr q2⟩)
      · exact Or.inl ⟨k / 10000, k % 10000, by omega, by omega, by congr 1; omega⟩
theorem GT_BT {N : Nat} {x : Int64} {w v : Nat} (hN : N ≤ 6) (h : GT N x w v) (b : BT N x) : False := by
  obtain ⟨h1, h2, rfl⟩ := h
  rcases b with b | ⟨k, k1, k2, k3⟩
  · have := (pk_lLT (a := 10000 * w + v) (b := 0) (by omega) (by omega)).mp b
    omega
  · have := (pk_lEQ (a := 10000 * w + v) (b := k) (by omega) k1).mp k2
    omega
section Te
variable {g : gm_G} {I : mI} {L : mL} {c : gm_cfg}
theorem j_tellG {Q : Int32 → mI → mL → gm_cfg → Prop} {x : Int64} {w v n : Nat} (h : FS0 I) (hx : GT (nv I 0) x w v) (hn : n < 2 ^ 20) (hq : Q (if n < 40 then 0 else 2) I L c) : C_J_tellFault g x (nI n) I L c Q := by
  obtain ⟨h1, h2, rfl⟩ := hx
  have hN := fN h
  refine e_J_tellFault ?_
  rw [hN.2.2, nI_l (by omega), show (10000 * lN (nv I 0) : Int64) = lN (10000 * nv I 0) from lN_mul 10000 _]
  refine br_f (fun z => ?_) (br_f (fun z => ?_) (e_J_toldNumber ?_))
  · have := (pk_lLT (b := 0) (by omega) (by omega)).mp z; omega
  · have := (pk_lLE (by omega) (by omega)).mp z; omega
  · rw [show lN (10000 * w + v) - lN (10000 * w + v) / 10000 * 10000 = lN ((10000 * w + v) % 10000) from pk_lRem (b := 10000) (by omega) (by omega) (by omega), lN_i, show (10000 * w + v) % 10000 = v by omega]
    refine j_isNumT h2 (bt (pk_lt n 40 (fun z => ?_) (fun z => ?_)))
    · rw [if_pos z] at hq; exact hq
    · rw [if_neg (by omega)] at hq; exact hq
theorem j_tellB {Q : Int32 → mI → mL → gm_cfg → Prop} {x : Int64} {y : Int32} (h : FS0 I) (hx : BT (nv I 0) x) (hq : Q 1 I L c) : C_J_tellFault g x y I L c Q := by
  have hN := fN h
  refine e_J_tellFault (br_c (fun _ => hq) (fun z => ?_))
  obtain ⟨k, k1, rfl, k3⟩ := hx.resolve_left z
  rw [hN.2.2, nI_l (by omega), show (10000 * lN (nv I 0) : Int64) = lN (10000 * nv I 0) from lN_mul 10000 _]
  refine br_c (fun _ => hq) (fun z2 => e_J_toldNumber ?_)
  have z3 : ¬ 10000 * nv I 0 ≤ k := fun q => z2 ((pk_lLE (by omega) k1).mpr q)
  rw [show lN k - lN k / 10000 * 10000 = lN (k % 10000) from pk_lRem (b := 10000) k1 (by omega) (by omega), lN_i]
  exact j_isNumF (Or.inr (nI_lt (a := 2000) (by omega) (by omega))) (bf hq)
/-- a told row: m can be written, those tell f h behind the list -/
def TR (I : mI) (T : Nat → Int64) (n m : Nat) (f h : Nat → Nat) : Prop := m ≤ n ∧ nv I 1 + m ≤ 40 ∧ (∀ i, i < m → GT (nv I 0) (T i) (h (nv I 1 + i)) (f (nv I 1 + i))) ∧ (m < n → BT (nv I 0) (T m) ∨ ((∃ w v, GT (nv I 0) (T m) w v) ∧ 40 ≤ nv I 1 + m)) ∧ (∀ k, k < nv I 1 → f k = nu I k ∧ h k = wr I k)
theorem TR_ex (h0 : FM I) (T : Nat → Int64) (n : Nat) (hn : n ≤ 40) : ∃ m f h, TR I T n m f h := by
  have hG := gG h0
  have ex : ∀ i, ∃ p : Nat × Nat, (∃ w v, GT (nv I 0) (T i) w v) → GT (nv I 0) (T i) p.1 p.2 := by
    intro i
    by_cases q : ∃ w v, GT (nv I 0) (T i) w v
    · obtain ⟨w, v, q⟩ := q
      exact ⟨(w, v), fun _ => q⟩
    · exact ⟨(0, 0), fun u => absurd u q⟩
  obtain ⟨p, hp⟩ : ∃ p : Nat → Nat × Nat, ∀ i, (∃ w v, GT (nv I 0) (T i) w v) → GT (nv I 0) (T i) (p i).1 (p i).2 := ⟨fun i => Classical.choose (ex i), fun i => Classical.choose_spec (ex i)⟩
  obtain ⟨m, m1, m2, m3⟩ := SR_ex (fun i => BT (nv I 0) (T i) ∨ 40 ≤ nv I 1 + i) n
  refine ⟨m, fun k => if k < nv I 1 then nu I k else (p (k - nv I 1)).2, fun k => if k < nv I 1 then wr I k else (p (k - nv I 1)).1, m1, ?_, fun i hi => ?_, fun hm => ?_, fun k hk => ⟨if_pos hk, if_pos hk⟩⟩
  · rcases Nat.eq_zero_or_pos m with q | q
    · omega
    · have := m2 (m - 1) (by omega)
      have : ¬ 40 ≤ nv I 1 + (m - 1) := fun z => this (Or.inr z)
      omega
  · show GT _ _ (if nv I 1 + i < nv I 1 then _ else _) (if nv I 1 + i < nv I 1 then _ else _)
    rw [if_neg (by omega), if_neg (by omega), show nv I 1 + i - nv I 1 = i by omega]
    refine hp i ?_
    rcases GB (nv I 0) (T i) with q | q
    · exact q
    · exact absurd (Or.inl q) (m2 i hi)
  · rcases GB (nv I 0) (T m) with q | q
    · rcases m3 hm with z | z
      · exact Or.inl z
      · exact Or.inr ⟨q, z⟩
    · exact Or.inl q
/-- which fault -/
def fk (I : mI) (T : Nat → Int64) (n m : Nat) (y : Int32) : Prop := (m = n ∧ y = 0) ∨ (m < n ∧ BT (nv I 0) (T m) ∧ y = 1) ∨ (m < n ∧ ¬ BT (nv I 0) (T m) ∧ y = 2)
theorem fk_ex (I : mI) (T : Nat → Int64) (n m : Nat) (hm : m ≤ n) : ∃ y, fk I T n m y := by
  rcases Nat.lt_or_ge m n with q | q
  · by_cases z : BT (nv I 0) (T m)
    · exact ⟨1, Or.inr (Or.inl ⟨q, z, rfl⟩)⟩
    · exact ⟨2, Or.inr (Or.inr ⟨q, z, rfl⟩)⟩
  · exact ⟨0, Or.inl ⟨by omega, rfl⟩⟩
/-- the reference writes all it can -/
theorem m_writesAll {I0 : mI} {Q : Int32 → mI → mL → gm_cfg → Prop} {r n m : Nat} {T : Nat → Int64} {f h : Nat → Nat} {y : Int32} (h0 : FM I0) (hr : r < 4) (hn : n ≤ 40) (h72 : I 72 r = nI n) (hT : ∀ i, i < n → L 73 (40 * r + i) = T i) (ht : TR I0 T n m f h) (hy : fk I0 T n m y) (e : EM I0 I (nv I0 1) f h) (hq : ∀ I' : mI, EM I0 I' (nv I0 1 + m) f h → KO p60 I I' → I' 59 16 = y → I' 59 5 = I 59 5 → I' 59 13 = I 59 13 → I' 59 14 = I 59 14 → Q (nI m) I' L c) : C_M_writesAll g (nI r) I L c Q := by
  obtain ⟨t1, t2, t3, t4, t5⟩ := ht
  have hN := gNn h0
  have T4 : Int32.toNatClampNeg (nI r) = r := nI_clamp (by omega)
  have v4 : vp_in (nI r) 4 := vp_in_nI hr (by omega)
  have fb : ∀ k, k < nv I0 1 + m → f k ≤ 2000 ∧ h k < nv I0 0 := fun k hk => by
    rcases Nat.lt_or_ge k (nv I0 1) with q | q
    · rw [(t5 k q).1, (t5 k q).2]
      exact ⟨(gNu h0 q).1.2.1, (gNu h0 q).2.2.1⟩
    · have := t3 (k - nv I0 1) (by omega)
      rw [show nv I0 1 + (k - nv I0 1) = k by omega] at this
      exact ⟨this.2.1, this.1⟩
  refine e_M_writesAll ?_
  have key := lp0 (P := fun i => ∀ I' : mI, EM I0 I' (nv I0 1 + i) f h → KO p60 I I' → I' 59 16 = 0 → I' 59 5 = I 59 5 → I' 59 13 = I 59 13 → I' 59 14 = I 59 14 → Z_M_writesAll g Q 7 [(0, .ref 59), (1, .int (nI r)), (2, .int (nI i))] [] I' L c) m ?_ ?_
  · exact key _ (EM_k e rfl) (KO.u rfl KO.rf) rfl rfl rfl rfl
  · intro I' e1 k1 w1 w2 w3 w4
    have fm : FM I' := EM_FM h0 e1 t2 fb
    obtain ⟨n1, n2⟩ := EM_nv e1 t2
    refine r_M_writesAll_7 ⟨v4, ?_⟩
    rw [T4, show I' 72 r = nI n by rw [k1 72 rfl]; exact h72]
    rcases Nat.lt_or_ge m n with q | q
    · obtain ⟨a1, a2⟩ := i40 r m hr (by omega)
      refine br_f (nI_ge q (by omega)) ⟨a1, ?_⟩
      rw [a2, hT m q]
      rcases t4 q with b | ⟨⟨w, v, b⟩, b2⟩
      · have ey : y = 1 := by
          rcases hy with z | z | z
          · omega
          · exact z.2.2
          · exact absurd b z.2.1
        have fin1 : ∀ I2 : mI, I2 = I' → Q (nI m) (gm_u I2 59 16 1) L c := fun I2 e2 => by
          rw [e2]
          exact hq _ (EM_k e1 rfl) (KO.u rfl k1) (by rw [ey]; rfl) w2 w3 w4
        refine br_c (fun _ => fin1 _ rfl) (fun z => ?_)
        obtain ⟨k, k1', kx, k3⟩ := b.resolve_left z
        rw [kx]
        rcases Nat.lt_or_ge k (10000 * nv I0 0) with u | u
        · rw [show (lN k / 10000 : Int64) = lN (k / 10000) from pk_lDiv (b := 10000) k1' (by omega) (by omega), ← nI_l (n := k / 10000) (by omega)]
          refine m_isGuesserT fm (by rw [n2 0 (by omega) (by omega)]; omega) (bt ?_)
          rw [nI_l (n := k / 10000) (by omega)]
          refine br_f (fun z2 => ?_) (fin1 _ rfl)
          rw [show lN k - lN (k / 10000) * 10000 = lN (k % 10000) by
            have := pk_lRem (a := k) (b := 10000) k1' (by omega) (by omega)
            rw [show (lN k / lN 10000 : Int64) = lN (k / 10000) from pk_lDiv (b := 10000) k1' (by omega) (by omega)] at this
            exact this] at z2
          have := (pk_lLE (b := 2000) (by omega) (by omega)).mp z2
          omega
        · refine e_M_isGuesser ?_
          refine m_within (fun z1 z2 => absurd z2 ?_) (fun _ => bf (fin1 _ rfl))
          have hNm := gNn fm
          rw [hNm.1, show (lN k / 10000 : Int64) = lN (k / 10000) from pk_lDiv (b := 10000) k1' (by omega) (by omega), pk_lT (by omega), Int32.toInt_toInt64]
          have e9 : (nI (nv I' 0) - 1).toInt = (nv I' 0 : Int) - 1 := by
            rcases Nat.eq_zero_or_pos (nv I' 0) with hp | hp
            · rw [hp]; rfl
            · obtain ⟨m', hm'⟩ : ∃ m', nv I' 0 = m' + 1 := ⟨nv I' 0 - 1, by omega⟩
              rw [hm', nI_pred, nI_toInt (by omega)]; omega
          rw [e9, n2 0 (by omega) (by omega)]
          omega
      · have ey : y = 2 := by
          rcases hy with z | z | z
          · omega
          · exact absurd z.2.1 (fun u => GT_BT (by omega) b u)
          · exact z.2.2
        obtain ⟨b3, b4, b5⟩ := b
        rw [b5]
        refine br_f (fun z => ?_) ?_
        · have := (pk_lLT (b := 0) (by omega) (by omega)).mp z; omega
        · rw [show (lN (10000 * w + v) / 10000 : Int64) = lN ((10000 * w + v) / 10000) from pk_lDiv (b := 10000) (by omega) (by omega) (by omega), show (10000 * w + v) / 10000 = w by omega, ← nI_l (n := w) (by omega)]
          refine m_isGuesserT fm (by rw [n2 0 (by omega) (by omega)]; omega) (bt ?_)
          rw [nI_l (n := w) (by omega), show lN (10000 * w + v) - lN w * 10000 = lN v by
            rw [show (lN w * 10000 : Int64) = lN (w * 10000) from lN_mul w 10000, lN_sub (by omega)]; congr 1; omega]
          refine br_t ((pk_lLE (b := 2000) (by omega) (by omega)).mpr b4) (br_t ?_ ?_)
          · rw [e1.1, show nv I0 1 + m = 40 by omega]; rfl
          · exact hq _ (EM_k e1 rfl) (KO.u rfl k1) (by rw [ey]; rfl) w2 w3 w4
    · have em : m = n := by omega
      have ey : y = 0 := by
        rcases hy with z | z | z
        · exact z.2
        · omega
        · omega
      refine br_t (nI_le (by omega) (by omega)) ⟨v4, ?_⟩
      rw [← em]
      exact hq I' e1 k1 (by rw [ey]; exact w1) w2 w3 w4
  · intro i hi ih I' e1 k1 w1 w2 w3 w4
    have fm : FM I' := EM_FM h0 e1 (by omega) (fun k hk => fb k (by omega))
    obtain ⟨n1, n2⟩ := EM_nv e1 (by omega)
    obtain ⟨b3, b4, b5⟩ := t3 i hi
    obtain ⟨a1, a2⟩ := i40 r i hr (by omega)
    refine r_M_writesAll_7 ⟨v4, ?_⟩
    rw [T4, show I' 72 r = nI n by rw [k1 72 rfl]; exact h72]
    refine br_f (nI_ge (by omega) (by omega)) ⟨a1, ?_⟩
    rw [a2, hT i (by omega), b5]
    generalize hw : h (nv I0 1 + i) = w at b3
    generalize hv : f (nv I0 1 + i) = v at b4
    refine br_f (fun z => ?_) ?_
    · have := (pk_lLT (b := 0) (by omega) (by omega)).mp z; omega
    · rw [show (lN (10000 * w + v) / 10000 : Int64) = lN ((10000 * w + v) / 10000) from pk_lDiv (b := 10000) (by omega) (by omega) (by omega), show (10000 * w + v) / 10000 = w by omega, ← nI_l (n := w) (by omega)]
      refine m_isGuesserT fm (by rw [n2 0 (by omega) (by omega)]; omega) (bt ?_)
      rw [nI_l (n := w) (by omega), show lN (10000 * w + v) - lN w * 10000 = lN v by
        rw [show (lN w * 10000 : Int64) = lN (w * 10000) from lN_mul w 10000, lN_sub (by omega)]; congr 1; omega, lN_i]
      refine br_t ((pk_lLE (b := 2000) (by omega) (by omega)).mpr b4) (br_f (fun z => ?_) ?_)
      · rw [e1.1] at z
        have := neq (b := 40) z (by omega) (by omega)
        omega
      · rw [show (nI (10000 * w + v) / 10000 : Int32) = nI ((10000 * w + v) / 10000) from pk_div (d := 10000) (by omega) (by omega) (by omega), show (10000 * w + v) / 10000 = w by omega, show (nI (10000 * w + v) - nI w * 10000 : Int32) = nI v by
          rw [show (nI w * 10000 : Int32) = nI (w * 10000) from pk_mul w 10000, pk_sub (by omega)]; congr 1; omega]
        refine m_adds (n := nv I0 1 + i) e1.1 (by omega) ?_
        rw [nI_1]
        refine ih _ ?_ (KO.u rfl (KO.u rfl (KO.u rfl (KO.u rfl k1)))) rfl w2 w3 w4
        have := EM_add (EM_k e1 (I' := gm_u I' 59 16 0) rfl) (by omega)
        rw [hw, hv] at this
        exact this
/-- keep and again -/
theorem m_keeps {Q : mI → mL → gm_cfg → Prop} (hq : Q (fl I 64 0 (I 60) 110) L c) : C_M_keeps g I L c Q := by
  refine e_M_keeps ?_
  have key : Z_M_keeps g Q 2 [(0, .ref 59), (1, .int (nI 0))] [] (fl I 64 0 (I 60) 0) L c := by
    refine lp0 (P := fun i => Z_M_keeps g Q 2 [(0, .ref 59), (1, .int (nI i))] [] (fl I 64 0 (I 60) i) L c) 110 ?_ ?_
    · exact r_M_keeps_2 (br_t (by decide) hq)
    · intro i hi ih
      refine r_M_keeps_2 (br_f (nI_ge (b := 110) hi (by omega)) ⟨vp_in_nI (by omega) (by omega), vp_in_nI (by omega) (by omega), ?_⟩)
      rw [nI_clamp (by omega), nI_1, fl_ne (by omega)]
      have := fl_s I 64 0 (I 60) i
      rw [Nat.zero_add] at this
      rw [← this] at ih
      exact ih
  rw [fl_0] at key
  exact key
theorem m_again {Q : mI → mL → gm_cfg → Prop} (hq : Q (fl I 60 0 (I 64) 110) L c) : C_M_isAgain g I L c Q := by
  refine e_M_isAgain ?_
  have key : Z_M_isAgain g Q 2 [(0, .ref 59), (1, .int (nI 0))] [] (fl I 60 0 (I 64) 0) L c := by
    refine lp0 (P := fun i => Z_M_isAgain g Q 2 [(0, .ref 59), (1, .int (nI i))] [] (fl I 60 0 (I 64) i) L c) 110 ?_ ?_
    · exact r_M_isAgain_2 (br_t (by decide) hq)
    · intro i hi ih
      refine r_M_isAgain_2 (br_f (nI_ge (b := 110) hi (by omega)) ⟨vp_in_nI (by omega) (by omega), vp_in_nI (by omega) (by omega), ?_⟩)
      rw [nI_clamp (by omega), nI_1, fl_ne (by omega)]
      have := fl_s I 60 0 (I 64) i
      rw [Nat.zero_add] at this
      rw [← this] at ih
      exact ih
  rw [fl_0] at key
  exact key
theorem j_writable35 {Q : Int32 → mI → mL → gm_cfg → Prop} {n m : Nat} {f h : Nat → Nat} (h0 : FS0 I) (e1 : I 35 1 = nI n) (hn : n ≤ 40) (ht : TR I (L 36) n m f h) (hq : Q (nI m) I L c) : C_J_writable_35 g I L c Q := by
  obtain ⟨t1, t2, t3, t4, t5⟩ := ht
  have hG := fG h0
  have hN := fN h0
  refine e_J_writable_35 ?_
  refine lp0 (P := fun i => Z_J_writable_35 g Q 2 [(0, .ref 0), (1, .ref 35), (2, .int (nI i))] [] I L c) m ?_ ?_
  · refine r_J_writable_35_2 ?_
    rw [e1, hG.2.2]
    rcases Nat.lt_or_ge m n with q | q
    · refine br_f (nI_ge q (by omega)) ⟨vp_in_nI (by omega) (by omega), ?_⟩
      rw [nI_clamp (by omega), nI_add]
      rcases t4 q with b | ⟨⟨w, v, b⟩, b2⟩
      · exact j_tellB h0 b (br_f (by decide) hq)
      · refine j_tellG h0 b (by omega) ?_
        rw [if_neg (by omega)]
        exact br_f (by decide) hq
    · have : m = n := by omega
      subst this
      exact br_t (nI_le (Nat.le_refl _) (by omega)) hq
  · intro i hi ih
    refine r_J_writable_35_2 ?_
    rw [e1, hG.2.2]
    refine br_f (nI_ge (by omega) (by omega)) ⟨vp_in_nI (by omega) (by omega), ?_⟩
    rw [nI_clamp (by omega), nI_add]
    refine j_tellG h0 (t3 i hi) (by omega) ?_
    rw [if_pos (by omega), nI_1]
    exact br_t rfl ih
theorem n_perform35 (hI : Inv I L c) (hw : RW I L 35 36 0) : C_Ro35_isMissing g I L c (fun b8 I5 L6 c7 => ((b8 = false → (C_J_writable_35 g I5 L6 c7 (fun r12 I9 L10 c11 => Z_J_perform g (mQ (C_M_perform g (nI 0))) 36 [(0, .ref 0), (1, .int 0), (2, .ref 35), (3, .int r12), (4, .int 0)] [] I9 L10 c11))) ∧ (b8 = true → mQ (C_M_perform g (nI 0)) (-6) I5 L6 c7))) := by
  have T : Int32.toNatClampNeg (nI 0) = 0 := rfl
  have h : FS0 I := hI.1
  have hm0 := FS0.m h
  have hG := fG h
  have hN := fN h
  rcases hw with ⟨e1, e2⟩ | ⟨n, s, hn, hs, e1, e2, e3, e4, e5⟩
  · refine j_missT35 e1 (bt (e_M_perform (m_0t (n := 3) rfl (by omega) (by omega) (bt ⟨vp_in_nI (by omega) (by omega), br_t ?_ (fin hI rfl kT)⟩))))
    rw [T]; exact e2
  · obtain ⟨m, f, k, ht⟩ := TR_ex hm0 (L 36) n hn
    obtain ⟨y, hy⟩ := fk_ex I (L 36) n m ht.1
    refine j_missF35 e1 hn (bf (j_writable35 h e1 hn ht ?_))
    have ht' := ht
    obtain ⟨t1, t2, t3, t4, t5⟩ := ht'
    have fb : ∀ j, j < nv I 1 + m → f j ≤ 2000 ∧ k j < nv I 0 := fun j hj => by
      rcases Nat.lt_or_ge j (nv I 1) with q | q
      · rw [(t5 j q).1, (t5 j q).2]
        exact ⟨(gNu hm0 q).1.2.1, (gNu hm0 q).2.2.1⟩
      · have := t3 (j - nv I 1) (by omega)
        rw [show nv I 1 + (j - nv I 1) = j by omega] at this
        exact ⟨this.2.1, this.1⟩
    have key := lp0 (P := fun i => ∀ I1 : mI, EJ I I1 (nv I 1 + i) f k → Z_J_perform g (mQ (C_M_perform g (nI 0))) 36 [(0, .ref 0), (1, .int 0), (2, .ref 35), (3, .int (nI m)), (4, .int (nI i))] [] I1 L c) m ?_ ?_
    · exact key I (EJ_f (EJ_0 h) (fun j hj => ⟨(t5 j hj).1.symm, (t5 j hj).2.symm⟩))
    · intro I1 j1
      refine r_J_perform_36_35 (br_t (nI_le (Nat.le_refl _) (by omega)) ?_)
      have e60 : (gm_u I1 59 0 0) 60 = I 60 := j1.2.2 60 rfl
      have ne : ¬ I 71 0 = -1 := by rw [e4]; exact nIm1 (by omega)
      refine e_M_perform (m_0t (n := 3) rfl (by omega) (by omega) (bt ⟨vp_in_nI (by omega) (by omega), br_f ?_ ?_⟩))
      · rw [T]; show ¬ I1 71 0 = -1; rw [j1.2.2 71 rfl]; exact ne
      · refine m_writesAll (I0 := I) (n := n) (m := m) (T := L 36) (f := f) (h := k) (y := y) hm0 (by omega) hn ?_ (fun i hi => (e5 i hi).symm) ht hy (EM_f (EM_k (EM_0 hm0) e60) (fun j hj => ⟨(t5 j hj).1.symm, (t5 j hj).2.symm⟩)) (fun I2 a1 a2 a3 a4 a5 a6 => ⟨rfl, ?_⟩)
        · show I1 72 0 = _
          rw [j1.2.2 72 rfl]; exact e2
        · have O : ∀ o, p60 o = true → I2 o = I1 o := fun o q => (a2 o q).trans (gm_u_ne _ _ _ (by simp [p60] at q; omega))
          refine hI.setF (EE_FS h a1 t2 fb ?_ (fun j hj => ?_) ⟨?_, ?_, ?_, ?_⟩) (TP_congr ?_ ?_ ?_ ?_ hI.2.1) ⟨?_, ?_⟩ a1.2.2.2 (fun o q => ?_) KO.rf hI.cf
          · rw [O 20 rfl]; exact j1.1
          · rw [O 21 rfl, O 22 rfl]; exact j1.2.1 j hj
          · rw [O 16 rfl]; exact j1.2.2 16 rfl
          · rw [O 17 rfl]; exact j1.2.2 17 rfl
          · rw [O 18 rfl]; exact j1.2.2 18 rfl
          · rw [O 19 rfl]; exact j1.2.2 19 rfl
          · rw [O 0 rfl, j1.2.2 0 rfl]
          · rw [O 1 rfl, j1.2.2 1 rfl]
          · rw [a4]; show I1 59 5 = _; rw [j1.2.2 59 rfl]
          · rw [O 62 rfl, j1.2.2 62 rfl]
          · rw [O 6 rfl, j1.2.2 6 rfl, a5]; show _ = I1 59 13; rw [j1.2.2 59 rfl]; exact hI.2.2.1.1
          · rw [O 6 rfl, j1.2.2 6 rfl, a6]; show _ = I1 59 14; rw [j1.2.2 59 rfl]; exact hI.2.2.1.2
          · have q2 : o ≠ 59 ∧ o ≠ 60 ∧ o ≠ 20 ∧ o ≠ 21 ∧ o ≠ 22 := by
              refine ⟨?_, ?_, ?_, ?_, ?_⟩ <;> (rintro rfl; cases q)
            rw [O o (by simp [p60]; omega), j1.2.2 o (by simp [p20]; omega)]
    · intro i hi ih I1 j1
      obtain ⟨b3, b4, b5⟩ := t3 i hi
      refine r_J_perform_36_35 (br_f (nI_ge hi (by omega)) ⟨vp_in_nI (by omega) (by omega), e_J_toldGuesser ⟨vp_in_nI (by omega) (by omega), e_J_toldNumber ?_⟩⟩)
      have c1 : k (nv I 1 + i) < 6 := by omega
      rw [nI_clamp (by omega), b5, show (lN (10000 * k (nv I 1 + i) + f (nv I 1 + i)) / 10000 : Int64) = lN (k (nv I 1 + i)) by
        rw [show (lN (10000 * k (nv I 1 + i) + f (nv I 1 + i)) / 10000 : Int64) = lN ((10000 * k (nv I 1 + i) + f (nv I 1 + i)) / 10000) from pk_lDiv (b := 10000) (by omega) (by omega) (by omega)]
        congr 1; omega, show (lN (10000 * k (nv I 1 + i) + f (nv I 1 + i)) - lN (k (nv I 1 + i)) * 10000 : Int64) = lN (f (nv I 1 + i)) by
          rw [show (lN (k (nv I 1 + i)) * 10000 : Int64) = lN (k (nv I 1 + i) * 10000) from lN_mul _ 10000, lN_sub (by omega)]; congr 1; omega, lN_i, lN_i, nI_1]
      exact j_add j1.1 (by omega) (ih _ (EJ_add j1))
theorem n_judge35 {w : Nat} (hI : Inv I L c) (hw2 : w < 3) (hw : RW I L 35 36 0) : C_Ro35_isMissing g I L c (fun b8 I5 L6 c7 => ((b8 = false → (C_J_writable_35 g I5 L6 c7 (fun r12 I9 L10 c11 => ((nI w = 0 → (((I9 35 1) ≤ r12 → mQ (C_M_judge g (nI 0) (nI w)) (-1) I9 L10 c11) ∧ (¬ (I9 35 1) ≤ r12 → mQ (C_M_judge g (nI 0) (nI w)) r12 I9 L10 c11))) ∧ (¬ nI w = 0 → ((nI w = 1 → (((I9 35 1) ≤ r12 → mQ (C_M_judge g (nI 0) (nI w)) 0 I9 L10 c11) ∧ (¬ (I9 35 1) ≤ r12 → (vp_in r12 40 ∧ (C_J_tellFault g (L10 36 (Int32.toNatClampNeg r12)) ((I9 20 2) + r12) I9 L10 c11 (fun r16 I13 L14 c15 => mQ (C_M_judge g (nI 0) (nI w)) r16 I13 L14 c15)))))) ∧ (¬ nI w = 1 → (C_J_meanWith_35 g r12 I9 L10 c11 (fun r20 I17 L18 c19 => mQ (C_M_judge g (nI 0) (nI w)) r20 I17 L18 c19))))))))) ∧ (b8 = true → mQ (C_M_judge g (nI 0) (nI w)) (-6) I5 L6 c7))) := by
  have T : Int32.toNatClampNeg (nI 0) = 0 := rfl
  have h : FS0 I := hI.1
  have hm0 := FS0.m h
  have hG := fG h
  have hN := fN h
  rcases hw with ⟨e1, e2⟩ | ⟨n, s, hn, hs, e1, e2, e3, e4, e5⟩
  · refine j_missT35 e1 (bt (e_M_judge (m_0t (n := 3) rfl (by omega) (by omega) (bt (m_0t (n := 2) rfl (by omega) (by omega) (bt ⟨vp_in_nI (by omega) (by omega), br_t ?_ (fin hI rfl kT)⟩))))))
    rw [T]; exact e2
  · obtain ⟨m, f, k, ht⟩ := TR_ex hm0 (L 36) n hn
    obtain ⟨y, hy⟩ := fk_ex I (L 36) n m ht.1
    refine j_missF35 e1 hn (bf (j_writable35 h e1 hn ht ?_))
    have ht' := ht
    obtain ⟨t1, t2, t3, t4, t5⟩ := ht'
    have fb : ∀ j, j < nv I 1 + m → f j ≤ 2000 ∧ k j < nv I 0 := fun j hj => by
      rcases Nat.lt_or_ge j (nv I 1) with q | q
      · rw [(t5 j q).1, (t5 j q).2]
        exact ⟨(gNu hm0 q).1.2.1, (gNu hm0 q).2.2.1⟩
      · have := t3 (j - nv I 1) (by omega)
        rw [show nv I 1 + (j - nv I 1) = j by omega] at this
        exact ⟨this.2.1, this.1⟩
    have ne : ¬ I 71 0 = -1 := by rw [e4]; exact nIm1 (by omega)
    have M : ∀ v : Int32, (match w with | 0 => v = if m = n then -1 else nI m | 1 => v = y | _ => v = mn f (nv I 1 + m)) → mQ (C_M_judge g (nI 0) (nI w)) v I L c := by
      intro v hv
      refine e_M_judge (m_0t (n := 3) rfl (by omega) (by omega) (bt (m_0t (n := 2) rfl (by omega) (by omega) (bt ⟨vp_in_nI (by omega) (by omega), br_f (by rw [T]; exact ne) (m_keeps ?_)⟩))))
      refine m_writesAll (I0 := I) (n := n) (m := m) (T := L 36) (f := f) (h := k) (y := y) hm0 (by omega) hn e2 (fun i hi => (e5 i hi).symm) ht hy (EM_f (EM_k (EM_0 hm0) (fl_ne (by omega))) (fun j hj => ⟨(t5 j hj).1.symm, (t5 j hj).2.symm⟩)) (fun I2 a1 a2 a3 a4 a5 a6 => ?_)
      have fm : FM I2 := EM_FM hm0 a1 t2 fb
      obtain ⟨n1, n2⟩ := EM_nv a1 t2
      rw [a1.1]
      refine m_meanOf fm (by omega) (m_again ?_)
      rw [show mn (nu I2) (nv I 1 + m) = mn f (nv I 1 + m) from mn_c (fun j hj => EM_nu a1 hj (fb j hj).1)]
      have kp : Keep I L (fl I2 60 0 (I2 64) 110) L := by
        refine ⟨fun o j q => ?_, fun _ _ => rfl, rfl⟩
        by_cases q60 : o = 60
        · subst q60
          rcases Nat.lt_or_ge j 110 with z | z
          · have := fl_in (L := I2) (p := 60) (a := 0) (f := I2 64) (i := 110) (k := j) z
            rw [Nat.zero_add] at this
            rw [this, a2 64 rfl]
            have := fl_in (L := gm_u I 59 0 0) (p := 64) (a := 0) (f := (gm_u I 59 0 0) 60) (i := 110) (k := j) z
            rw [Nat.zero_add] at this
            rw [this]; rfl
          · rw [fl_out (by omega)]
            exact a1.2.2.2 j z
        · rw [fl_ne q60]
          by_cases q59 : o = 59
          · subst q59
            have : j = 5 ∨ j = 13 ∨ j = 14 := by
              simp [per] at q; omega
            rcases this with rfl | rfl | rfl
            · rw [a4]; rfl
            · rw [a5]; rfl
            · rw [a6]; rfl
          · rw [a2 o (by simp [p60]; omega)]
            have q64 : o ≠ 64 := by rintro rfl; cases q
            rw [fl_ne q64, gm_u_ne _ _ _ q59]
      have e16 : (fl I2 60 0 (I2 64) 110) 59 16 = y := by rw [fl_ne (by omega)]; exact a3
      rw [e16]
      match w, hw2 with
      | 0, _ =>
        refine br_t rfl ?_
        rcases hy with ⟨z1, z2⟩ | ⟨z1, z2, z3⟩ | ⟨z1, z2, z3⟩
        · have hv' : v = if m = n then -1 else nI m := hv
          rw [if_pos z1] at hv'
          exact br_t z2 (fin hI hv' kp)
        · have hv' : v = if m = n then -1 else nI m := hv
          rw [if_neg (by omega)] at hv'
          exact br_f (by rw [z3]; decide) (fin hI hv' kp)
        · have hv' : v = if m = n then -1 else nI m := hv
          rw [if_neg (by omega)] at hv'
          exact br_f (by rw [z3]; decide) (fin hI hv' kp)
      | 1, _ => exact br_f (by decide) (br_t rfl (fin hI hv kp))
      | 2, _ => exact br_f (by decide) (br_f (by decide) (fin hI hv kp))
    rw [e1]
    match w, hw2 with
    | 0, _ =>
      refine br_t rfl (pk_le n m (fun z => M _ ?_) (fun z => M _ ?_))
      · show -1 = if m = n then -1 else nI m
        rw [if_pos (by omega)]
      · show nI m = if m = n then -1 else nI m
        rw [if_neg (by omega)]
    | 1, _ =>
      refine br_f (by decide) (br_t rfl (pk_le n m (fun z => M _ ?_) (fun z => ⟨vp_in_nI (by omega) (by omega), ?_⟩)))
      · show 0 = y
        rcases hy with ⟨z1, z2⟩ | ⟨z1, z2, z3⟩ | ⟨z1, z2, z3⟩
        · exact z2.symm
        · omega
        · omega
      · rw [nI_clamp (by omega), hG.2.2, nI_add]
        rcases hy with ⟨z1, z2⟩ | ⟨z1, z2, z3⟩ | ⟨z1, z2, z3⟩
        · omega
        · exact j_tellB h z2 (M _ z3.symm)
        · rcases t4 z1 with b | ⟨⟨w, v, b⟩, b2⟩
          · exact absurd b z2
          · refine j_tellG h b (by omega) ?_
            rw [if_neg (by omega)]
            exact M _ z3.symm
    | 2, _ =>
      refine br_f (by decide) (br_f (by decide) (e_J_meanWith_35 ?_))
      have M2 := M (mn f (nv I 1 + m)) rfl
      rw [hG.2.2, nI_add]
      refine pk_eq (nv I 1 + m) 0 (fun z => ?_) (fun z => j_sumOf h (Nat.le_refl _) ?_)
      · rw [show mn f (nv I 1 + m) = -1 by unfold mn; rw [if_pos z]] at M2
        exact M2
      · rw [sN_c (f' := f) (nv I 1) (fun j hj => (t5 j hj).1.symm)]
        refine lp0 (P := fun i => Z_J_meanWith_35 g _ 35 [(0, .ref 0), (1, .ref 35), (2, .int (nI m)), (3, .int (nI (nv I 1 + m))), (4, .int (nI (sN f (nv I 1 + i)))), (5, .int (nI i))] [] I L c) m ?_ ?_
        · have sb := sN_le (f := f) (B := 2000) (nv I 1 + m) (fun j hj => (fb j hj).1)
          have : (nv I 1 + m) * 2000 ≤ 40 * 2000 := Nat.mul_le_mul_right _ t2
          refine r_J_meanWith_35_35 (br_t (nI_le (Nat.le_refl _) (by omega)) ⟨nI_ne0 (by omega) (by omega), ?_⟩)
          rw [pk_div (by omega) (by omega) (by omega)]
          rw [show mn f (nv I 1 + m) = nI (sN f (nv I 1 + m) / (nv I 1 + m)) by unfold mn; rw [if_neg z]] at M2
          exact M2
        · intro i hi ih
          obtain ⟨b3, b4, b5⟩ := t3 i hi
          refine r_J_meanWith_35_35 (br_f (nI_ge hi (by omega)) ⟨vp_in_nI (by omega) (by omega), e_J_toldNumber ?_⟩)
          have c1 : k (nv I 1 + i) < 6 := by omega
          rw [nI_clamp (by omega), b5, show lN (10000 * k (nv I 1 + i) + f (nv I 1 + i)) - lN (10000 * k (nv I 1 + i) + f (nv I 1 + i)) / 10000 * 10000 = lN ((10000 * k (nv I 1 + i) + f (nv I 1 + i)) % 10000) from pk_lRem (b := 10000) (by omega) (by omega) (by omega), show (10000 * k (nv I 1 + i) + f (nv I 1 + i)) % 10000 = f (nv I 1 + i) by omega, lN_i, nI_add, nI_1]
          exact ih
theorem j_writable37 {Q : Int32 → mI → mL → gm_cfg → Prop} {n m : Nat} {f h : Nat → Nat} (h0 : FS0 I) (e1 : I 37 1 = nI n) (hn : n ≤ 40) (ht : TR I (L 38) n m f h) (hq : Q (nI m) I L c) : C_J_writable_37 g I L c Q := by
  obtain ⟨t1, t2, t3, t4, t5⟩ := ht
  have hG := fG h0
  have hN := fN h0
  refine e_J_writable_37 ?_
  refine lp0 (P := fun i => Z_J_writable_37 g Q 2 [(0, .ref 0), (1, .ref 37), (2, .int (nI i))] [] I L c) m ?_ ?_
  · refine r_J_writable_37_2 ?_
    rw [e1, hG.2.2]
    rcases Nat.lt_or_ge m n with q | q
    · refine br_f (nI_ge q (by omega)) ⟨vp_in_nI (by omega) (by omega), ?_⟩
      rw [nI_clamp (by omega), nI_add]
      rcases t4 q with b | ⟨⟨w, v, b⟩, b2⟩
      · exact j_tellB h0 b (br_f (by decide) hq)
      · refine j_tellG h0 b (by omega) ?_
        rw [if_neg (by omega)]
        exact br_f (by decide) hq
    · have : m = n := by omega
      subst this
      exact br_t (nI_le (Nat.le_refl _) (by omega)) hq
  · intro i hi ih
    refine r_J_writable_37_2 ?_
    rw [e1, hG.2.2]
    refine br_f (nI_ge (by omega) (by omega)) ⟨vp_in_nI (by omega) (by omega), ?_⟩
    rw [nI_clamp (by omega), nI_add]
    refine j_tellG h0 (t3 i hi) (by omega) ?_
    rw [if_pos (by omega), nI_1]
    exact br_t rfl ih
theorem n_perform37 (hI : Inv I L c) (hw : RW I L 37 38 1) : C_Ro37_isMissing g I L c (fun b8 I5 L6 c7 => ((b8 = false → (C_J_writable_37 g I5 L6 c7 (fun r12 I9 L10 c11 => Z_J_perform g (mQ (C_M_perform g (nI 1))) 36 [(0, .ref 0), (1, .int 1), (2, .ref 37), (3, .int r12), (4, .int 0)] [] I9 L10 c11))) ∧ (b8 = true → mQ (C_M_perform g (nI 1)) (-6) I5 L6 c7))) := by
  have T : Int32.toNatClampNeg (nI 1) = 1 := rfl
  have h : FS0 I := hI.1
  have hm0 := FS0.m h
  have hG := fG h
  have hN := fN h
  rcases hw with ⟨e1, e2⟩ | ⟨n, s, hn, hs, e1, e2, e3, e4, e5⟩
  · refine j_missT37 e1 (bt (e_M_perform (m_0t (n := 3) rfl (by omega) (by omega) (bt ⟨vp_in_nI (by omega) (by omega), br_t ?_ (fin hI rfl kT)⟩))))
    rw [T]; exact e2
  · obtain ⟨m, f, k, ht⟩ := TR_ex hm0 (L 38) n hn
    obtain ⟨y, hy⟩ := fk_ex I (L 38) n m ht.1
    refine j_missF37 e1 hn (bf (j_writable37 h e1 hn ht ?_))
    have ht' := ht
    obtain ⟨t1, t2, t3, t4, t5⟩ := ht'
    have fb : ∀ j, j < nv I 1 + m → f j ≤ 2000 ∧ k j < nv I 0 := fun j hj => by
      rcases Nat.lt_or_ge j (nv I 1) with q | q
      · rw [(t5 j q).1, (t5 j q).2]
        exact ⟨(gNu hm0 q).1.2.1, (gNu hm0 q).2.2.1⟩
      · have := t3 (j - nv I 1) (by omega)
        rw [show nv I 1 + (j - nv I 1) = j by omega] at this
        exact ⟨this.2.1, this.1⟩
    have key := lp0 (P := fun i => ∀ I1 : mI, EJ I I1 (nv I 1 + i) f k → Z_J_perform g (mQ (C_M_perform g (nI 1))) 36 [(0, .ref 0), (1, .int 1), (2, .ref 37), (3, .int (nI m)), (4, .int (nI i))] [] I1 L c) m ?_ ?_
    · exact key I (EJ_f (EJ_0 h) (fun j hj => ⟨(t5 j hj).1.symm, (t5 j hj).2.symm⟩))
    · intro I1 j1
      refine r_J_perform_36_37 (br_t (nI_le (Nat.le_refl _) (by omega)) ?_)
      have e60 : (gm_u I1 59 0 0) 60 = I 60 := j1.2.2 60 rfl
      have ne : ¬ I 71 1 = -1 := by rw [e4]; exact nIm1 (by omega)
      refine e_M_perform (m_0t (n := 3) rfl (by omega) (by omega) (bt ⟨vp_in_nI (by omega) (by omega), br_f ?_ ?_⟩))
      · rw [T]; show ¬ I1 71 1 = -1; rw [j1.2.2 71 rfl]; exact ne
      · refine m_writesAll (I0 := I) (n := n) (m := m) (T := L 38) (f := f) (h := k) (y := y) hm0 (by omega) hn ?_ (fun i hi => (e5 i hi).symm) ht hy (EM_f (EM_k (EM_0 hm0) e60) (fun j hj => ⟨(t5 j hj).1.symm, (t5 j hj).2.symm⟩)) (fun I2 a1 a2 a3 a4 a5 a6 => ⟨rfl, ?_⟩)
        · show I1 72 1 = _
          rw [j1.2.2 72 rfl]; exact e2
        · have O : ∀ o, p60 o = true → I2 o = I1 o := fun o q => (a2 o q).trans (gm_u_ne _ _ _ (by simp [p60] at q; omega))
          refine hI.setF (EE_FS h a1 t2 fb ?_ (fun j hj => ?_) ⟨?_, ?_, ?_, ?_⟩) (TP_congr ?_ ?_ ?_ ?_ hI.2.1) ⟨?_, ?_⟩ a1.2.2.2 (fun o q => ?_) KO.rf hI.cf
          · rw [O 20 rfl]; exact j1.1
          · rw [O 21 rfl, O 22 rfl]; exact j1.2.1 j hj
          · rw [O 16 rfl]; exact j1.2.2 16 rfl
          · rw [O 17 rfl]; exact j1.2.2 17 rfl
          · rw [O 18 rfl]; exact j1.2.2 18 rfl
          · rw [O 19 rfl]; exact j1.2.2 19 rfl
          · rw [O 0 rfl, j1.2.2 0 rfl]
          · rw [O 1 rfl, j1.2.2 1 rfl]
          · rw [a4]; show I1 59 5 = _; rw [j1.2.2 59 rfl]
          · rw [O 62 rfl, j1.2.2 62 rfl]
          · rw [O 6 rfl, j1.2.2 6 rfl, a5]; show _ = I1 59 13; rw [j1.2.2 59 rfl]; exact hI.2.2.1.1
          · rw [O 6 rfl, j1.2.2 6 rfl, a6]; show _ = I1 59 14; rw [j1.2.2 59 rfl]; exact hI.2.2.1.2
          · have q2 : o ≠ 59 ∧ o ≠ 60 ∧ o ≠ 20 ∧ o ≠ 21 ∧ o ≠ 22 := by
              refine ⟨?_, ?_, ?_, ?_, ?_⟩ <;> (rintro rfl; cases q)
            rw [O o (by simp [p60]; omega), j1.2.2 o (by simp [p20]; omega)]
    · intro i hi ih I1 j1
      obtain ⟨b3, b4, b5⟩ := t3 i hi
      refine r_J_perform_36_37 (br_f (nI_ge hi (by omega)) ⟨vp_in_nI (by omega) (by omega), e_J_toldGuesser ⟨vp_in_nI (by omega) (by omega), e_J_toldNumber ?_⟩⟩)
      have c1 : k (nv I 1 + i) < 6 := by omega
      rw [nI_clamp (by omega), b5, show (lN (10000 * k (nv I 1 + i) + f (nv I 1 + i)) / 10000 : Int64) = lN (k (nv I 1 + i)) by
        rw [show (lN (10000 * k (nv I 1 + i) + f (nv I 1 + i)) / 10000 : Int64) = lN ((10000 * k (nv I 1 + i) + f (nv I 1 + i)) / 10000) from pk_lDiv (b := 10000) (by omega) (by omega) (by omega)]
        congr 1; omega, show (lN (10000 * k (nv I 1 + i) + f (nv I 1 + i)) - lN (k (nv I 1 + i)) * 10000 : Int64) = lN (f (nv I 1 + i)) by
          rw [show (lN (k (nv I 1 + i)) * 10000 : Int64) = lN (k (nv I 1 + i) * 10000) from lN_mul _ 10000, lN_sub (by omega)]; congr 1; omega, lN_i, lN_i, nI_1]
      exact j_add j1.1 (by omega) (ih _ (EJ_add j1))
theorem n_judge37 {w : Nat} (hI : Inv I L c) (hw2 : w < 3) (hw : RW I L 37 38 1) : C_Ro37_isMissing g I L c (fun b8 I5 L6 c7 => ((b8 = false → (C_J_writable_37 g I5 L6 c7 (fun r12 I9 L10 c11 => ((nI w = 0 → (((I9 37 1) ≤ r12 → mQ (C_M_judge g (nI 1) (nI w)) (-1) I9 L10 c11) ∧ (¬ (I9 37 1) ≤ r12 → mQ (C_M_judge g (nI 1) (nI w)) r12 I9 L10 c11))) ∧ (¬ nI w = 0 → ((nI w = 1 → (((I9 37 1) ≤ r12 → mQ (C_M_judge g (nI 1) (nI w)) 0 I9 L10 c11) ∧ (¬ (I9 37 1) ≤ r12 → (vp_in r12 40 ∧ (C_J_tellFault g (L10 38 (Int32.toNatClampNeg r12)) ((I9 20 2) + r12) I9 L10 c11 (fun r16 I13 L14 c15 => mQ (C_M_judge g (nI 1) (nI w)) r16 I13 L14 c15)))))) ∧ (¬ nI w = 1 → (C_J_meanWith_37 g r12 I9 L10 c11 (fun r20 I17 L18 c19 => mQ (C_M_judge g (nI 1) (nI w)) r20 I17 L18 c19))))))))) ∧ (b8 = true → mQ (C_M_judge g (nI 1) (nI w)) (-6) I5 L6 c7))) := by
  have T : Int32.toNatClampNeg (nI 1) = 1 := rfl
  have h : FS0 I := hI.1
  have hm0 := FS0.m h
  have hG := fG h
  have hN := fN h
  rcases hw with ⟨e1, e2⟩ | ⟨n, s, hn, hs, e1, e2, e3, e4, e5⟩
  · refine j_missT37 e1 (bt (e_M_judge (m_0t (n := 3) rfl (by omega) (by omega) (bt (m_0t (n := 2) rfl (by omega) (by omega) (bt ⟨vp_in_nI (by omega) (by omega), br_t ?_ (fin hI rfl kT)⟩))))))
    rw [T]; exact e2
  · obtain ⟨m, f, k, ht⟩ := TR_ex hm0 (L 38) n hn
    obtain ⟨y, hy⟩ := fk_ex I (L 38) n m ht.1
    refine j_missF37 e1 hn (bf (j_writable37 h e1 hn ht ?_))
    have ht' := ht
    obtain ⟨t1, t2, t3, t4, t5⟩ := ht'
    have fb : ∀ j, j < nv I 1 + m → f j ≤ 2000 ∧ k j < nv I 0 := fun j hj => by
      rcases Nat.lt_or_ge j (nv I 1) with q | q
      · rw [(t5 j q).1, (t5 j q).2]
        exact ⟨(gNu hm0 q).1.2.1, (gNu hm0 q).2.2.1⟩
      · have := t3 (j - nv I 1) (by omega)
        rw [show nv I 1 + (j - nv I 1) = j by omega] at this
        exact ⟨this.2.1, this.1⟩
    have ne : ¬ I 71 1 = -1 := by rw [e4]; exact nIm1 (by omega)
    have M : ∀ v : Int32, (match w with | 0 => v = if m = n then -1 else nI m | 1 => v = y | _ => v = mn f (nv I 1 + m)) → mQ (C_M_judge g (nI 1) (nI w)) v I L c := by
      intro v hv
      refine e_M_judge (m_0t (n := 3) rfl (by omega) (by omega) (bt (m_0t (n := 2) rfl (by omega) (by omega) (bt ⟨vp_in_nI (by omega) (by omega), br_f (by rw [T]; exact ne) (m_keeps ?_)⟩))))
      refine m_writesAll (I0 := I) (n := n) (m := m) (T := L 38) (f := f) (h := k) (y := y) hm0 (by omega) hn e2 (fun i hi => (e5 i hi).symm) ht hy (EM_f (EM_k (EM_0 hm0) (fl_ne (by omega))) (fun j hj => ⟨(t5 j hj).1.symm, (t5 j hj).2.symm⟩)) (fun I2 a1 a2 a3 a4 a5 a6 => ?_)
      have fm : FM I2 := EM_FM hm0 a1 t2 fb
      obtain ⟨n1, n2⟩ := EM_nv a1 t2
      rw [a1.1]
      refine m_meanOf fm (by omega) (m_again ?_)
      rw [show mn (nu I2) (nv I 1 + m) = mn f (nv I 1 + m) from mn_c (fun j hj => EM_nu a1 hj (fb j hj).1)]
      have kp : Keep I L (fl I2 60 0 (I2 64) 110) L := by
        refine ⟨fun o j q => ?_, fun _ _ => rfl, rfl⟩
        by_cases q60 : o = 60
        · subst q60
          rcases Nat.lt_or_ge j 110 with z | z
          · have := fl_in (L := I2) (p := 60) (a := 0) (f := I2 64) (i := 110) (k := j) z
            rw [Nat.zero_add] at this
            rw [this, a2 64 rfl]
            have := fl_in (L := gm_u I 59 0 0) (p := 64) (a := 0) (f := (gm_u I 59 0 0) 60) (i := 110) (k := j) z
            rw [Nat.zero_add] at this
            rw [this]; rfl
          · rw [fl_out (by omega)]
            exact a1.2.2.2 j z
        · rw [fl_ne q60]
          by_cases q59 : o = 59
          · subst q59
            have : j = 5 ∨ j = 13 ∨ j = 14 := by
              simp [per] at q; omega
            rcases this with rfl | rfl | rfl
            · rw [a4]; rfl
            · rw [a5]; rfl
            · rw [a6]; rfl
          · rw [a2 o (by simp [p60]; omega)]
            have q64 : o ≠ 64 := by rintro rfl; cases q
            rw [fl_ne q64, gm_u_ne _ _ _ q59]
      have e16 : (fl I2 60 0 (I2 64) 110) 59 16 = y := by rw [fl_ne (by omega)]; exact a3
      rw [e16]
      match w, hw2 with
      | 0, _ =>
        refine br_t rfl ?_
        rcases hy with ⟨z1, z2⟩ | ⟨z1, z2, z3⟩ | ⟨z1, z2, z3⟩
        · have hv' : v = if m = n then -1 else nI m := hv
          rw [if_pos z1] at hv'
          exact br_t z2 (fin hI hv' kp)
        · have hv' : v = if m = n then -1 else nI m := hv
          rw [if_neg (by omega)] at hv'
          exact br_f (by rw [z3]; decide) (fin hI hv' kp)
        · have hv' : v = if m = n then -1 else nI m := hv
          rw [if_neg (by omega)] at hv'
          exact br_f (by rw [z3]; decide) (fin hI hv' kp)
      | 1, _ => exact br_f (by decide) (br_t rfl (fin hI hv kp))
      | 2, _ => exact br_f (by decide) (br_f (by decide) (fin hI hv kp))
    rw [e1]
    match w, hw2 with
    | 0, _ =>
      refine br_t rfl (pk_le n m (fun z => M _ ?_) (fun z => M _ ?_))
      · show -1 = if m = n then -1 else nI m
        rw [if_pos (by omega)]
      · show nI m = if m = n then -1 else nI m
        rw [if_neg (by omega)]
    | 1, _ =>
      refine br_f (by decide) (br_t rfl (pk_le n m (fun z => M _ ?_) (fun z => ⟨vp_in_nI (by omega) (by omega), ?_⟩)))
      · show 0 = y
        rcases hy with ⟨z1, z2⟩ | ⟨z1, z2, z3⟩ | ⟨z1, z2, z3⟩
        · exact z2.symm
        · omega
        · omega
      · rw [nI_clamp (by omega), hG.2.2, nI_add]
        rcases hy with ⟨z1, z2⟩ | ⟨z1, z2, z3⟩ | ⟨z1, z2, z3⟩
        · omega
        · exact j_tellB h z2 (M _ z3.symm)
        · rcases t4 z1 with b | ⟨⟨w, v, b⟩, b2⟩
          · exact absurd b z2
          · refine j_tellG h b (by omega) ?_
            rw [if_neg (by omega)]
            exact M _ z3.symm
    | 2, _ =>
      refine br_f (by decide) (br_f (by decide) (e_J_meanWith_37 ?_))
      have M2 := M (mn f (nv I 1 + m)) rfl
      rw [hG.2.2, nI_add]
      refine pk_eq (nv I 1 + m) 0 (fun z => ?_) (fun z => j_sumOf h (Nat.le_refl _) ?_)
      · rw [show mn f (nv I 1 + m) = -1 by unfold mn; rw [if_pos z]] at M2
        exact M2
      · rw [sN_c (f' := f) (nv I 1) (fun j hj => (t5 j hj).1.symm)]
        refine lp0 (P := fun i => Z_J_meanWith_37 g _ 35 [(0, .ref 0), (1, .ref 37), (2, .int (nI m)), (3, .int (nI (nv I 1 + m))), (4, .int (nI (sN f (nv I 1 + i)))), (5, .int (nI i))] [] I L c) m ?_ ?_
        · have sb := sN_le (f := f) (B := 2000) (nv I 1 + m) (fun j hj => (fb j hj).1)
          have : (nv I 1 + m) * 2000 ≤ 40 * 2000 := Nat.mul_le_mul_right _ t2
          refine r_J_meanWith_37_35 (br_t (nI_le (Nat.le_refl _) (by omega)) ⟨nI_ne0 (by omega) (by omega), ?_⟩)
          rw [pk_div (by omega) (by omega) (by omega)]
          rw [show mn f (nv I 1 + m) = nI (sN f (nv I 1 + m) / (nv I 1 + m)) by unfold mn; rw [if_neg z]] at M2
          exact M2
        · intro i hi ih
          obtain ⟨b3, b4, b5⟩ := t3 i hi
          refine r_J_meanWith_37_35 (br_f (nI_ge hi (by omega)) ⟨vp_in_nI (by omega) (by omega), e_J_toldNumber ?_⟩)
          have c1 : k (nv I 1 + i) < 6 := by omega
          rw [nI_clamp (by omega), b5, show lN (10000 * k (nv I 1 + i) + f (nv I 1 + i)) - lN (10000 * k (nv I 1 + i) + f (nv I 1 + i)) / 10000 * 10000 = lN ((10000 * k (nv I 1 + i) + f (nv I 1 + i)) % 10000) from pk_lRem (b := 10000) (by omega) (by omega) (by omega), show (10000 * k (nv I 1 + i) + f (nv I 1 + i)) % 10000 = f (nv I 1 + i) by omega, lN_i, nI_add, nI_1]
          exact ih
theorem j_writable39 {Q : Int32 → mI → mL → gm_cfg → Prop} {n m : Nat} {f h : Nat → Nat} (h0 : FS0 I) (e1 : I 39 1 = nI n) (hn : n ≤ 40) (ht : TR I (L 40) n m f h) (hq : Q (nI m) I L c) : C_J_writable_39 g I L c Q := by
  obtain ⟨t1, t2, t3, t4, t5⟩ := ht
  have hG := fG h0
  have hN := fN h0
  refine e_J_writable_39 ?_
  refine lp0 (P := fun i => Z_J_writable_39 g Q 2 [(0, .ref 0), (1, .ref 39), (2, .int (nI i))] [] I L c) m ?_ ?_
  · refine r_J_writable_39_2 ?_
    rw [e1, hG.2.2]
    rcases Nat.lt_or_ge m n with q | q
    · refine br_f (nI_ge q (by omega)) ⟨vp_in_nI (by omega) (by omega), ?_⟩
      rw [nI_clamp (by omega), nI_add]
      rcases t4 q with b | ⟨⟨w, v, b⟩, b2⟩
      · exact j_tellB h0 b (br_f (by decide) hq)
      · refine j_tellG h0 b (by omega) ?_
        rw [if_neg (by omega)]
        exact br_f (by decide) hq
    · have : m = n := by omega
      subst this
      exact br_t (nI_le (Nat.le_refl _) (by omega)) hq
  · intro i hi ih
    refine r_J_writable_39_2 ?_
    rw [e1, hG.2.2]
    refine br_f (nI_ge (by omega) (by omega)) ⟨vp_in_nI (by omega) (by omega), ?_⟩
    rw [nI_clamp (by omega), nI_add]
    refine j_tellG h0 (t3 i hi) (by omega) ?_
    rw [if_pos (by omega), nI_1]
    exact br_t rfl ih
theorem n_perform39 (hI : Inv I L c) (hw : RW I L 39 40 2) : C_Ro39_isMissing g I L c (fun b8 I5 L6 c7 => ((b8 = false → (C_J_writable_39 g I5 L6 c7 (fun r12 I9 L10 c11 => Z_J_perform g (mQ (C_M_perform g (nI 2))) 36 [(0, .ref 0), (1, .int 2), (2, .ref 39), (3, .int r12), (4, .int 0)] [] I9 L10 c11))) ∧ (b8 = true → mQ (C_M_perform g (nI 2)) (-6) I5 L6 c7))) := by
  have T : Int32.toNatClampNeg (nI 2) = 2 := rfl
  have h : FS0 I := hI.1
  have hm0 := FS0.m h
  have hG := fG h
  have hN := fN h
  rcases hw with ⟨e1, e2⟩ | ⟨n, s, hn, hs, e1, e2, e3, e4, e5⟩
  · refine j_missT39 e1 (bt (e_M_perform (m_0t (n := 3) rfl (by omega) (by omega) (bt ⟨vp_in_nI (by omega) (by omega), br_t ?_ (fin hI rfl kT)⟩))))
    rw [T]; exact e2
  · obtain ⟨m, f, k, ht⟩ := TR_ex hm0 (L 40) n hn
    obtain ⟨y, hy⟩ := fk_ex I (L 40) n m ht.1
    refine j_missF39 e1 hn (bf (j_writable39 h e1 hn ht ?_))
    have ht' := ht
    obtain ⟨t1, t2, t3, t4, t5⟩ := ht'
    have fb : ∀ j, j < nv I 1 + m → f j ≤ 2000 ∧ k j < nv I 0 := fun j hj => by
      rcases Nat.lt_or_ge j (nv I 1) with q | q
      · rw [(t5 j q).1, (t5 j q).2]
        exact ⟨(gNu hm0 q).1.2.1, (gNu hm0 q).2.2.1⟩
      · have := t3 (j - nv I 1) (by omega)
        rw [show nv I 1 + (j - nv I 1) = j by omega] at this
        exact ⟨this.2.1, this.1⟩
    have key := lp0 (P := fun i => ∀ I1 : mI, EJ I I1 (nv I 1 + i) f k → Z_J_perform g (mQ (C_M_perform g (nI 2))) 36 [(0, .ref 0), (1, .int 2), (2, .ref 39), (3, .int (nI m)), (4, .int (nI i))] [] I1 L c) m ?_ ?_
    · exact key I (EJ_f (EJ_0 h) (fun j hj => ⟨(t5 j hj).1.symm, (t5 j hj).2.symm⟩))
    · intro I1 j1
      refine r_J_perform_36_39 (br_t (nI_le (Nat.le_refl _) (by omega)) ?_)
      have e60 : (gm_u I1 59 0 0) 60 = I 60 := j1.2.2 60 rfl
      have ne : ¬ I 71 2 = -1 := by rw [e4]; exact nIm1 (by omega)
      refine e_M_perform (m_0t (n := 3) rfl (by omega) (by omega) (bt ⟨vp_in_nI (by omega) (by omega), br_f ?_ ?_⟩))
      · rw [T]; show ¬ I1 71 2 = -1; rw [j1.2.2 71 rfl]; exact ne
      · refine m_writesAll (I0 := I) (n := n) (m := m) (T := L 40) (f := f) (h := k) (y := y) hm0 (by omega) hn ?_ (fun i hi => (e5 i hi).symm) ht hy (EM_f (EM_k (EM_0 hm0) e60) (fun j hj => ⟨(t5 j hj).1.symm, (t5 j hj).2.symm⟩)) (fun I2 a1 a2 a3 a4 a5 a6 => ⟨rfl, ?_⟩)
        · show I1 72 2 = _
          rw [j1.2.2 72 rfl]; exact e2
        · have O : ∀ o, p60 o = true → I2 o = I1 o := fun o q => (a2 o q).trans (gm_u_ne _ _ _ (by simp [p60] at q; omega))
          refine hI.setF (EE_FS h a1 t2 fb ?_ (fun j hj => ?_) ⟨?_, ?_, ?_, ?_⟩) (TP_congr ?_ ?_ ?_ ?_ hI.2.1) ⟨?_, ?_⟩ a1.2.2.2 (fun o q => ?_) KO.rf hI.cf
          · rw [O 20 rfl]; exact j1.1
          · rw [O 21 rfl, O 22 rfl]; exact j1.2.1 j hj
          · rw [O 16 rfl]; exact j1.2.2 16 rfl
          · rw [O 17 rfl]; exact j1.2.2 17 rfl
          · rw [O 18 rfl]; exact j1.2.2 18 rfl
          · rw [O 19 rfl]; exact j1.2.2 19 rfl
          · rw [O 0 rfl, j1.2.2 0 rfl]
          · rw [O 1 rfl, j1.2.2 1 rfl]
          · rw [a4]; show I1 59 5 = _; rw [j1.2.2 59 rfl]
          · rw [O 62 rfl, j1.2.2 62 rfl]
          · rw [O 6 rfl, j1.2.2 6 rfl, a5]; show _ = I1 59 13; rw [j1.2.2 59 rfl]; exact hI.2.2.1.1
          · rw [O 6 rfl, j1.2.2 6 rfl, a6]; show _ = I1 59 14; rw [j1.2.2 59 rfl]; exact hI.2.2.1.2
          · have q2 : o ≠ 59 ∧ o ≠ 60 ∧ o ≠ 20 ∧ o ≠ 21 ∧ o ≠ 22 := by
              refine ⟨?_, ?_, ?_, ?_, ?_⟩ <;> (rintro rfl; cases q)
            rw [O o (by simp [p60]; omega), j1.2.2 o (by simp [p20]; omega)]
    · intro i hi ih I1 j1
      obtain ⟨b3, b4, b5⟩ := t3 i hi
      refine r_J_perform_36_39 (br_f (nI_ge hi (by omega)) ⟨vp_in_nI (by omega) (by omega), e_J_toldGuesser ⟨vp_in_nI (by omega) (by omega), e_J_toldNumber ?_⟩⟩)
      have c1 : k (nv I 1 + i) < 6 := by omega
      rw [nI_clamp (by omega), b5, show (lN (10000 * k (nv I 1 + i) + f (nv I 1 + i)) / 10000 : Int64) = lN (k (nv I 1 + i)) by
        rw [show (lN (10000 * k (nv I 1 + i) + f (nv I 1 + i)) / 10000 : Int64) = lN ((10000 * k (nv I 1 + i) + f (nv I 1 + i)) / 10000) from pk_lDiv (b := 10000) (by omega) (by omega) (by omega)]
        congr 1; omega, show (lN (10000 * k (nv I 1 + i) + f (nv I 1 + i)) - lN (k (nv I 1 + i)) * 10000 : Int64) = lN (f (nv I 1 + i)) by
          rw [show (lN (k (nv I 1 + i)) * 10000 : Int64) = lN (k (nv I 1 + i) * 10000) from lN_mul _ 10000, lN_sub (by omega)]; congr 1; omega, lN_i, lN_i, nI_1]
      exact j_add j1.1 (by omega) (ih _ (EJ_add j1))
theorem n_judge39 {w : Nat} (hI : Inv I L c) (hw2 : w < 3) (hw : RW I L 39 40 2) : C_Ro39_isMissing g I L c (fun b8 I5 L6 c7 => ((b8 = false → (C_J_writable_39 g I5 L6 c7 (fun r12 I9 L10 c11 => ((nI w = 0 → (((I9 39 1) ≤ r12 → mQ (C_M_judge g (nI 2) (nI w)) (-1) I9 L10 c11) ∧ (¬ (I9 39 1) ≤ r12 → mQ (C_M_judge g (nI 2) (nI w)) r12 I9 L10 c11))) ∧ (¬ nI w = 0 → ((nI w = 1 → (((I9 39 1) ≤ r12 → mQ (C_M_judge g (nI 2) (nI w)) 0 I9 L10 c11) ∧ (¬ (I9 39 1) ≤ r12 → (vp_in r12 40 ∧ (C_J_tellFault g (L10 40 (Int32.toNatClampNeg r12)) ((I9 20 2) + r12) I9 L10 c11 (fun r16 I13 L14 c15 => mQ (C_M_judge g (nI 2) (nI w)) r16 I13 L14 c15)))))) ∧ (¬ nI w = 1 → (C_J_meanWith_39 g r12 I9 L10 c11 (fun r20 I17 L18 c19 => mQ (C_M_judge g (nI 2) (nI w)) r20 I17 L18 c19))))))))) ∧ (b8 = true → mQ (C_M_judge g (nI 2) (nI w)) (-6) I5 L6 c7))) := by
  have T : Int32.toNatClampNeg (nI 2) = 2 := rfl
  have h : FS0 I := hI.1
  have hm0 := FS0.m h
  have hG := fG h
  have hN := fN h
  rcases hw with ⟨e1, e2⟩ | ⟨n, s, hn, hs, e1, e2, e3, e4, e5⟩
  · refine j_missT39 e1 (bt (e_M_judge (m_0t (n := 3) rfl (by omega) (by omega) (bt (m_0t (n := 2) rfl (by omega) (by omega) (bt ⟨vp_in_nI (by omega) (by omega), br_t ?_ (fin hI rfl kT)⟩))))))
    rw [T]; exact e2
  · obtain ⟨m, f, k, ht⟩ := TR_ex hm0 (L 40) n hn
    obtain ⟨y, hy⟩ := fk_ex I (L 40) n m ht.1
    refine j_missF39 e1 hn (bf (j_writable39 h e1 hn ht ?_))
    have ht' := ht
    obtain ⟨t1, t2, t3, t4, t5⟩ := ht'
    have fb : ∀ j, j < nv I 1 + m → f j ≤ 2000 ∧ k j < nv I 0 := fun j hj => by
      rcases Nat.lt_or_ge j (nv I 1) with q | q
      · rw [(t5 j q).1, (t5 j q).2]
        exact ⟨(gNu hm0 q).1.2.1, (gNu hm0 q).2.2.1⟩
      · have := t3 (j - nv I 1) (by omega)
        rw [show nv I 1 + (j - nv I 1) = j by omega] at this
        exact ⟨this.2.1, this.1⟩
    have ne : ¬ I 71 2 = -1 := by rw [e4]; exact nIm1 (by omega)
    have M : ∀ v : Int32, (match w with | 0 => v = if m = n then -1 else nI m | 1 => v = y | _ => v = mn f (nv I 1 + m)) → mQ (C_M_judge g (nI 2) (nI w)) v I L c := by
      intro v hv
      refine e_M_judge (m_0t (n := 3) rfl (by omega) (by omega) (bt (m_0t (n := 2) rfl (by omega) (by omega) (bt ⟨vp_in_nI (by omega) (by omega), br_f (by rw [T]; exact ne) (m_keeps ?_)⟩))))
      refine m_writesAll (I0 := I) (n := n) (m := m) (T := L 40) (f := f) (h := k) (y := y) hm0 (by omega) hn e2 (fun i hi => (e5 i hi).symm) ht hy (EM_f (EM_k (EM_0 hm0) (fl_ne (by omega))) (fun j hj => ⟨(t5 j hj).1.symm, (t5 j hj).2.symm⟩)) (fun I2 a1 a2 a3 a4 a5 a6 => ?_)
      have fm : FM I2 := EM_FM hm0 a1 t2 fb
      obtain ⟨n1, n2⟩ := EM_nv a1 t2
      rw [a1.1]
      refine m_meanOf fm (by omega) (m_again ?_)
      rw [show mn (nu I2) (nv I 1 + m) = mn f (nv I 1 + m) from mn_c (fun j hj => EM_nu a1 hj (fb j hj).1)]
      have kp : Keep I L (fl I2 60 0 (I2 64) 110) L := by
        refine ⟨fun o j q => ?_, fun _ _ => rfl, rfl⟩
        by_cases q60 : o = 60
        · subst q60
          rcases Nat.lt_or_ge j 110 with z | z
          · have := fl_in (L := I2) (p := 60) (a := 0) (f := I2 64) (i := 110) (k := j) z
            rw [Nat.zero_add] at this
            rw [this, a2 64 rfl]
            have := fl_in (L := gm_u I 59 0 0) (p := 64) (a := 0) (f := (gm_u I 59 0 0) 60) (i := 110) (k := j) z
            rw [Nat.zero_add] at this
            rw [this]; rfl
          · rw [fl_out (by omega)]
            exact a1.2.2.2 j z
        · rw [fl_ne q60]
          by_cases q59 : o = 59
          · subst q59
            have : j = 5 ∨ j = 13 ∨ j = 14 := by
              simp [per] at q; omega
            rcases this with rfl | rfl | rfl
            · rw [a4]; rfl
            · rw [a5]; rfl
            · rw [a6]; rfl
          · rw [a2 o (by simp [p60]; omega)]
            have q64 : o ≠ 64 := by rintro rfl; cases q
            rw [fl_ne q64, gm_u_ne _ _ _ q59]
      have e16 : (fl I2 60 0 (I2 64) 110) 59 16 = y := by rw [fl_ne (by omega)]; exact a3
      rw [e16]
      match w, hw2 with
      | 0, _ =>
        refine br_t rfl ?_
        rcases hy with ⟨z1, z2⟩ | ⟨z1, z2, z3⟩ | ⟨z1, z2, z3⟩
        · have hv' : v = if m = n then -1 else nI m := hv
          rw [if_pos z1] at hv'
          exact br_t z2 (fin hI hv' kp)
        · have hv' : v = if m = n then -1 else nI m := hv
          rw [if_neg (by omega)] at hv'
          exact br_f (by rw [z3]; decide) (fin hI hv' kp)
        · have hv' : v = if m = n then -1 else nI m := hv
          rw [if_neg (by omega)] at hv'
          exact br_f (by rw [z3]; decide) (fin hI hv' kp)
      | 1, _ => exact br_f (by decide) (br_t rfl (fin hI hv kp))
      | 2, _ => exact br_f (by decide) (br_f (by decide) (fin hI hv kp))
    rw [e1]
    match w, hw2 with
    | 0, _ =>
      refine br_t rfl (pk_le n m (fun z => M _ ?_) (fun z => M _ ?_))
      · show -1 = if m = n then -1 else nI m
        rw [if_pos (by omega)]
      · show nI m = if m = n then -1 else nI m
        rw [if_neg (by omega)]
    | 1, _ =>
      refine br_f (by decide) (br_t rfl (pk_le n m (fun z => M _ ?_) (fun z => ⟨vp_in_nI (by omega) (by omega), ?_⟩)))
      · show 0 = y
        rcases hy with ⟨z1, z2⟩ | ⟨z1, z2, z3⟩ | ⟨z1, z2, z3⟩
        · exact z2.symm
        · omega
        · omega
      · rw [nI_clamp (by omega), hG.2.2, nI_add]
        rcases hy with ⟨z1, z2⟩ | ⟨z1, z2, z3⟩ | ⟨z1, z2, z3⟩
        · omega
        · exact j_tellB h z2 (M _ z3.symm)
        · rcases t4 z1 with b | ⟨⟨w, v, b⟩, b2⟩
          · exact absurd b z2
          · refine j_tellG h b (by omega) ?_
            rw [if_neg (by omega)]
            exact M _ z3.symm
    | 2, _ =>
      refine br_f (by decide) (br_f (by decide) (e_J_meanWith_39 ?_))
      have M2 := M (mn f (nv I 1 + m)) rfl
      rw [hG.2.2, nI_add]
      refine pk_eq (nv I 1 + m) 0 (fun z => ?_) (fun z => j_sumOf h (Nat.le_refl _) ?_)
      · rw [show mn f (nv I 1 + m) = -1 by unfold mn; rw [if_pos z]] at M2
        exact M2
      · rw [sN_c (f' := f) (nv I 1) (fun j hj => (t5 j hj).1.symm)]
        refine lp0 (P := fun i => Z_J_meanWith_39 g _ 35 [(0, .ref 0), (1, .ref 39), (2, .int (nI m)), (3, .int (nI (nv I 1 + m))), (4, .int (nI (sN f (nv I 1 + i)))), (5, .int (nI i))] [] I L c) m ?_ ?_
        · have sb := sN_le (f := f) (B := 2000) (nv I 1 + m) (fun j hj => (fb j hj).1)
          have : (nv I 1 + m) * 2000 ≤ 40 * 2000 := Nat.mul_le_mul_right _ t2
          refine r_J_meanWith_39_35 (br_t (nI_le (Nat.le_refl _) (by omega)) ⟨nI_ne0 (by omega) (by omega), ?_⟩)
          rw [pk_div (by omega) (by omega) (by omega)]
          rw [show mn f (nv I 1 + m) = nI (sN f (nv I 1 + m) / (nv I 1 + m)) by unfold mn; rw [if_neg z]] at M2
          exact M2
        · intro i hi ih
          obtain ⟨b3, b4, b5⟩ := t3 i hi
          refine r_J_meanWith_39_35 (br_f (nI_ge hi (by omega)) ⟨vp_in_nI (by omega) (by omega), e_J_toldNumber ?_⟩)
          have c1 : k (nv I 1 + i) < 6 := by omega
          rw [nI_clamp (by omega), b5, show lN (10000 * k (nv I 1 + i) + f (nv I 1 + i)) - lN (10000 * k (nv I 1 + i) + f (nv I 1 + i)) / 10000 * 10000 = lN ((10000 * k (nv I 1 + i) + f (nv I 1 + i)) % 10000) from pk_lRem (b := 10000) (by omega) (by omega) (by omega), show (10000 * k (nv I 1 + i) + f (nv I 1 + i)) % 10000 = f (nv I 1 + i) by omega, lN_i, nI_add, nI_1]
          exact ih
theorem j_writable41 {Q : Int32 → mI → mL → gm_cfg → Prop} {n m : Nat} {f h : Nat → Nat} (h0 : FS0 I) (e1 : I 41 1 = nI n) (hn : n ≤ 40) (ht : TR I (L 42) n m f h) (hq : Q (nI m) I L c) : C_J_writable_41 g I L c Q := by
  obtain ⟨t1, t2, t3, t4, t5⟩ := ht
  have hG := fG h0
  have hN := fN h0
  refine e_J_writable_41 ?_
  refine lp0 (P := fun i => Z_J_writable_41 g Q 2 [(0, .ref 0), (1, .ref 41), (2, .int (nI i))] [] I L c) m ?_ ?_
  · refine r_J_writable_41_2 ?_
    rw [e1, hG.2.2]
    rcases Nat.lt_or_ge m n with q | q
    · refine br_f (nI_ge q (by omega)) ⟨vp_in_nI (by omega) (by omega), ?_⟩
      rw [nI_clamp (by omega), nI_add]
      rcases t4 q with b | ⟨⟨w, v, b⟩, b2⟩
      · exact j_tellB h0 b (br_f (by decide) hq)
      · refine j_tellG h0 b (by omega) ?_
        rw [if_neg (by omega)]
        exact br_f (by decide) hq
    · have : m = n := by omega
      subst this
      exact br_t (nI_le (Nat.le_refl _) (by omega)) hq
  · intro i hi ih
    refine r_J_writable_41_2 ?_
    rw [e1, hG.2.2]
    refine br_f (nI_ge (by omega) (by omega)) ⟨vp_in_nI (by omega) (by omega), ?_⟩
    rw [nI_clamp (by omega), nI_add]
    refine j_tellG h0 (t3 i hi) (by omega) ?_
    rw [if_pos (by omega), nI_1]
    exact br_t rfl ih
theorem n_perform41 (hI : Inv I L c) (hw : RW I L 41 42 3) : C_Ro41_isMissing g I L c (fun b8 I5 L6 c7 => ((b8 = false → (C_J_writable_41 g I5 L6 c7 (fun r12 I9 L10 c11 => Z_J_perform g (mQ (C_M_perform g (nI 3))) 36 [(0, .ref 0), (1, .int 3), (2, .ref 41), (3, .int r12), (4, .int 0)] [] I9 L10 c11))) ∧ (b8 = true → mQ (C_M_perform g (nI 3)) (-6) I5 L6 c7))) := by
  have T : Int32.toNatClampNeg (nI 3) = 3 := rfl
  have h : FS0 I := hI.1
  have hm0 := FS0.m h
  have hG := fG h
  have hN := fN h
  rcases hw with ⟨e1, e2⟩ | ⟨n, s, hn, hs, e1, e2, e3, e4, e5⟩
  · refine j_missT41 e1 (bt (e_M_perform (m_0t (n := 3) rfl (by omega) (by omega) (bt ⟨vp_in_nI (by omega) (by omega), br_t ?_ (fin hI rfl kT)⟩))))
    rw [T]; exact e2
  · obtain ⟨m, f, k, ht⟩ := TR_ex hm0 (L 42) n hn
    obtain ⟨y, hy⟩ := fk_ex I (L 42) n m ht.1
    refine j_missF41 e1 hn (bf (j_writable41 h e1 hn ht ?_))
    have ht' := ht
    obtain ⟨t1, t2, t3, t4, t5⟩ := ht'
    have fb : ∀ j, j < nv I 1 + m → f j ≤ 2000 ∧ k j < nv I 0 := fun j hj => by
      rcases Nat.lt_or_ge j (nv I 1) with q | q
      · rw [(t5 j q).1, (t5 j q).2]
        exact ⟨(gNu hm0 q).1.2.1, (gNu hm0 q).2.2.1⟩
      · have := t3 (j - nv I 1) (by omega)
        rw [show nv I 1 + (j - nv I 1) = j by omega] at this
        exact ⟨this.2.1, this.1⟩
    have key := lp0 (P := fun i => ∀ I1 : mI, EJ I I1 (nv I 1 + i) f k → Z_J_perform g (mQ (C_M_perform g (nI 3))) 36 [(0, .ref 0), (1, .int 3), (2, .ref 41), (3, .int (nI m)), (4, .int (nI i))] [] I1 L c) m ?_ ?_
    · exact key I (EJ_f (EJ_0 h) (fun j hj => ⟨(t5 j hj).1.symm, (t5 j hj).2.symm⟩))
    · intro I1 j1
      refine r_J_perform_36_41 (br_t (nI_le (Nat.le_refl _) (by omega)) ?_)
      have e60 : (gm_u I1 59 0 0) 60 = I 60 := j1.2.2 60 rfl
      have ne : ¬ I 71 3 = -1 := by rw [e4]; exact nIm1 (by omega)
      refine e_M_perform (m_0t (n := 3) rfl (by omega) (by omega) (bt ⟨vp_in_nI (by omega) (by omega), br_f ?_ ?_⟩))
      · rw [T]; show ¬ I1 71 3 = -1; rw [j1.2.2 71 rfl]; exact ne
      · refine m_writesAll (I0 := I) (n := n) (m := m) (T := L 42) (f := f) (h := k) (y := y) hm0 (by omega) hn ?_ (fun i hi => (e5 i hi).symm) ht hy (EM_f (EM_k (EM_0 hm0) e60) (fun j hj => ⟨(t5 j hj).1.symm, (t5 j hj).2.symm⟩)) (fun I2 a1 a2 a3 a4 a5 a6 => ⟨rfl, ?_⟩)
        · show I1 72 3 = _
          rw [j1.2.2 72 rfl]; exact e2
        · have O : ∀ o, p60 o = true → I2 o = I1 o := fun o q => (a2 o q).trans (gm_u_ne _ _ _ (by simp [p60] at q; omega))
          refine hI.setF (EE_FS h a1 t2 fb ?_ (fun j hj => ?_) ⟨?_, ?_, ?_, ?_⟩) (TP_congr ?_ ?_ ?_ ?_ hI.2.1) ⟨?_, ?_⟩ a1.2.2.2 (fun o q => ?_) KO.rf hI.cf
          · rw [O 20 rfl]; exact j1.1
          · rw [O 21 rfl, O 22 rfl]; exact j1.2.1 j hj
          · rw [O 16 rfl]; exact j1.2.2 16 rfl
          · rw [O 17 rfl]; exact j1.2.2 17 rfl
          · rw [O 18 rfl]; exact j1.2.2 18 rfl
          · rw [O 19 rfl]; exact j1.2.2 19 rfl
          · rw [O 0 rfl, j1.2.2 0 rfl]
          · rw [O 1 rfl, j1.2.2 1 rfl]
          · rw [a4]; show I1 59 5 = _; rw [j1.2.2 59 rfl]
          · rw [O 62 rfl, j1.2.2 62 rfl]
          · rw [O 6 rfl, j1.2.2 6 rfl, a5]; show _ = I1 59 13; rw [j1.2.2 59 rfl]; exact hI.2.2.1.1
          · rw [O 6 rfl, j1.2.2 6 rfl, a6]; show _ = I1 59 14; rw [j1.2.2 59 rfl]; exact hI.2.2.1.2
          · have q2 : o ≠ 59 ∧ o ≠ 60 ∧ o ≠ 20 ∧ o ≠ 21 ∧ o ≠ 22 := by
              refine ⟨?_, ?_, ?_, ?_, ?_⟩ <;> (rintro rfl; cases q)
            rw [O o (by simp [p60]; omega), j1.2.2 o (by simp [p20]; omega)]
    · intro i hi ih I1 j1
      obtain ⟨b3, b4, b5⟩ := t3 i hi
      refine r_J_perform_36_41 (br_f (nI_ge hi (by omega)) ⟨vp_in_nI (by omega) (by omega), e_J_toldGuesser ⟨vp_in_nI (by omega) (by omega), e_J_toldNumber ?_⟩⟩)
      have c1 : k (nv I 1 + i) < 6 := by omega
      rw [nI_clamp (by omega), b5, show (lN (10000 * k (nv I 1 + i) + f (nv I 1 + i)) / 10000 : Int64) = lN (k (nv I 1 + i)) by
        rw [show (lN (10000 * k (nv I 1 + i) + f (nv I 1 + i)) / 10000 : Int64) = lN ((10000 * k (nv I 1 + i) + f (nv I 1 + i)) / 10000) from pk_lDiv (b := 10000) (by omega) (by omega) (by omega)]
        congr 1; omega, show (lN (10000 * k (nv I 1 + i) + f (nv I 1 + i)) - lN (k (nv I 1 + i)) * 10000 : Int64) = lN (f (nv I 1 + i)) by
          rw [show (lN (k (nv I 1 + i)) * 10000 : Int64) = lN (k (nv I 1 + i) * 10000) from lN_mul _ 10000, lN_sub (by omega)]; congr 1; omega, lN_i, lN_i, nI_1]
      exact j_add j1.1 (by omega) (ih _ (EJ_add j1))
theorem n_judge41 {w : Nat} (hI : Inv I L c) (hw2 : w < 3) (hw : RW I L 41 42 3) : C_Ro41_isMissing g I L c (fun b8 I5 L6 c7 => ((b8 = false → (C_J_writable_41 g I5 L6 c7 (fun r12 I9 L10 c11 => ((nI w = 0 → (((I9 41 1) ≤ r12 → mQ (C_M_judge g (nI 3) (nI w)) (-1) I9 L10 c11) ∧ (¬ (I9 41 1) ≤ r12 → mQ (C_M_judge g (nI 3) (nI w)) r12 I9 L10 c11))) ∧ (¬ nI w = 0 → ((nI w = 1 → (((I9 41 1) ≤ r12 → mQ (C_M_judge g (nI 3) (nI w)) 0 I9 L10 c11) ∧ (¬ (I9 41 1) ≤ r12 → (vp_in r12 40 ∧ (C_J_tellFault g (L10 42 (Int32.toNatClampNeg r12)) ((I9 20 2) + r12) I9 L10 c11 (fun r16 I13 L14 c15 => mQ (C_M_judge g (nI 3) (nI w)) r16 I13 L14 c15)))))) ∧ (¬ nI w = 1 → (C_J_meanWith_41 g r12 I9 L10 c11 (fun r20 I17 L18 c19 => mQ (C_M_judge g (nI 3) (nI w)) r20 I17 L18 c19))))))))) ∧ (b8 = true → mQ (C_M_judge g (nI 3) (nI w)) (-6) I5 L6 c7))) := by
  have T : Int32.toNatClampNeg (nI 3) = 3 := rfl
  have h : FS0 I := hI.1
  have hm0 := FS0.m h
  have hG := fG h
  have hN := fN h
  rcases hw with ⟨e1, e2⟩ | ⟨n, s, hn, hs, e1, e2, e3, e4, e5⟩
  · refine j_missT41 e1 (bt (e_M_judge (m_0t (n := 3) rfl (by omega) (by omega) (bt (m_0t (n := 2) rfl (by omega) (by omega) (bt ⟨vp_in_nI (by omega) (by omega), br_t ?_ (fin hI rfl kT)⟩))))))
    rw [T]; exact e2
  · obtain ⟨m, f, k, ht⟩ := TR_ex hm0 (L 42) n hn
    obtain ⟨y, hy⟩ := fk_ex I (L 42) n m ht.1
    refine j_missF41 e1 hn (bf (j_writable41 h e1 hn ht ?_))
    have ht' := ht
    obtain ⟨t1, t2, t3, t4, t5⟩ := ht'
    have fb : ∀ j, j < nv I 1 + m → f j ≤ 2000 ∧ k j < nv I 0 := fun j hj => by
      rcases Nat.lt_or_ge j (nv I 1) with q | q
      · rw [(t5 j q).1, (t5 j q).2]
        exact ⟨(gNu hm0 q).1.2.1, (gNu hm0 q).2.2.1⟩
      · have := t3 (j - nv I 1) (by omega)
        rw [show nv I 1 + (j - nv I 1) = j by omega] at this
        exact ⟨this.2.1, this.1⟩
    have ne : ¬ I 71 3 = -1 := by rw [e4]; exact nIm1 (by omega)
    have M : ∀ v : Int32, (match w with | 0 => v = if m = n then -1 else nI m | 1 => v = y | _ => v = mn f (nv I 1 + m)) → mQ (C_M_judge g (nI 3) (nI w)) v I L c := by
      intro v hv
      refine e_M_judge (m_0t (n := 3) rfl (by omega) (by omega) (bt (m_0t (n := 2) rfl (by omega) (by omega) (bt ⟨vp_in_nI (by omega) (by omega), br_f (by rw [T]; exact ne) (m_keeps ?_)⟩))))
      refine m_writesAll (I0 := I) (n := n) (m := m) (T := L 42) (f := f) (h := k) (y := y) hm0 (by omega) hn e2 (fun i hi => (e5 i hi).symm) ht hy (EM_f (EM_k (EM_0 hm0) (fl_ne (by omega))) (fun j hj => ⟨(t5 j hj).1.symm, (t5 j hj).2.symm⟩)) (fun I2 a1 a2 a3 a4 a5 a6 => ?_)
      have fm : FM I2 := EM_FM hm0 a1 t2 fb
      obtain ⟨n1, n2⟩ := EM_nv a1 t2
      rw [a1.1]
      refine m_meanOf fm (by omega) (m_again ?_)
      rw [show mn (nu I2) (nv I 1 + m) = mn f (nv I 1 + m) from mn_c (fun j hj => EM_nu a1 hj (fb j hj).1)]
      have kp : Keep I L (fl I2 60 0 (I2 64) 110) L := by
        refine ⟨fun o j q => ?_, fun _ _ => rfl, rfl⟩
        by_cases q60 : o = 60
        · subst q60
          rcases Nat.lt_or_ge j 110 with z | z
          · have := fl_in (L := I2) (p := 60) (a := 0) (f := I2 64) (i := 110) (k := j) z
            rw [Nat.zero_add] at this
            rw [this, a2 64 rfl]
            have := fl_in (L := gm_u I 59 0 0) (p := 64) (a := 0) (f := (gm_u I 59 0 0) 60) (i := 110) (k := j) z
            rw [Nat.zero_add] at this
            rw [this]; rfl
          · rw [fl_out (by omega)]
            exact a1.2.2.2 j z
        · rw [fl_ne q60]
          by_cases q59 : o = 59
          · subst q59
            have : j = 5 ∨ j = 13 ∨ j = 14 := by
              simp [per] at q; omega
            rcases this with rfl | rfl | rfl
            · rw [a4]; rfl
            · rw [a5]; rfl
            · rw [a6]; rfl
          · rw [a2 o (by simp [p60]; omega)]
            have q64 : o ≠ 64 := by rintro rfl; cases q
            rw [fl_ne q64, gm_u_ne _ _ _ q59]
      have e16 : (fl I2 60 0 (I2 64) 110) 59 16 = y := by rw [fl_ne (by omega)]; exact a3
      rw [e16]
      match w, hw2 with
      | 0, _ =>
        refine br_t rfl ?_
        rcases hy with ⟨z1, z2⟩ | ⟨z1, z2, z3⟩ | ⟨z1, z2, z3⟩
        · have hv' : v = if m = n then -1 else nI m := hv
          rw [if_pos z1] at hv'
          exact br_t z2 (fin hI hv' kp)
        · have hv' : v = if m = n then -1 else nI m := hv
          rw [if_neg (by omega)] at hv'
          exact br_f (by rw [z3]; decide) (fin hI hv' kp)
        · have hv' : v = if m = n then -1 else nI m := hv
          rw [if_neg (by omega)] at hv'
          exact br_f (by rw [z3]; decide) (fin hI hv' kp)
      | 1, _ => exact br_f (by decide) (br_t rfl (fin hI hv kp))
      | 2, _ => exact br_f (by decide) (br_f (by decide) (fin hI hv kp))
    rw [e1]
    match w, hw2 with
    | 0, _ =>
      refine br_t rfl (pk_le n m (fun z => M _ ?_) (fun z => M _ ?_))
      · show -1 = if m = n then -1 else nI m
        rw [if_pos (by omega)]
      · show nI m = if m = n then -1 else nI m
        rw [if_neg (by omega)]
    | 1, _ =>
      refine br_f (by decide) (br_t rfl (pk_le n m (fun z => M _ ?_) (fun z => ⟨vp_in_nI (by omega) (by omega), ?_⟩)))
      · show 0 = y
        rcases hy with ⟨z1, z2⟩ | ⟨z1, z2, z3⟩ | ⟨z1, z2, z3⟩
        · exact z2.symm
        · omega
        · omega
      · rw [nI_clamp (by omega), hG.2.2, nI_add]
        rcases hy with ⟨z1, z2⟩ | ⟨z1, z2, z3⟩ | ⟨z1, z2, z3⟩
        · omega
        · exact j_tellB h z2 (M _ z3.symm)
        · rcases t4 z1 with b | ⟨⟨w, v, b⟩, b2⟩
          · exact absurd b z2
          · refine j_tellG h b (by omega) ?_
            rw [if_neg (by omega)]
            exact M _ z3.symm
    | 2, _ =>
      refine br_f (by decide) (br_f (by decide) (e_J_meanWith_41 ?_))
      have M2 := M (mn f (nv I 1 + m)) rfl
      rw [hG.2.2, nI_add]
      refine pk_eq (nv I 1 + m) 0 (fun z => ?_) (fun z => j_sumOf h (Nat.le_refl _) ?_)
      · rw [show mn f (nv I 1 + m) = -1 by unfold mn; rw [if_pos z]] at M2
        exact M2
      · rw [sN_c (f' := f) (nv I 1) (fun j hj => (t5 j hj).1.symm)]
        refine lp0 (P := fun i => Z_J_meanWith_41 g _ 35 [(0, .ref 0), (1, .ref 41), (2, .int (nI m)), (3, .int (nI (nv I 1 + m))), (4, .int (nI (sN f (nv I 1 + i)))), (5, .int (nI i))] [] I L c) m ?_ ?_
        · have sb := sN_le (f := f) (B := 2000) (nv I 1 + m) (fun j hj => (fb j hj).1)
          have : (nv I 1 + m) * 2000 ≤ 40 * 2000 := Nat.mul_le_mul_right _ t2
          refine r_J_meanWith_41_35 (br_t (nI_le (Nat.le_refl _) (by omega)) ⟨nI_ne0 (by omega) (by omega), ?_⟩)
          rw [pk_div (by omega) (by omega) (by omega)]
          rw [show mn f (nv I 1 + m) = nI (sN f (nv I 1 + m) / (nv I 1 + m)) by unfold mn; rw [if_neg z]] at M2
          exact M2
        · intro i hi ih
          obtain ⟨b3, b4, b5⟩ := t3 i hi
          refine r_J_meanWith_41_35 (br_f (nI_ge hi (by omega)) ⟨vp_in_nI (by omega) (by omega), e_J_toldNumber ?_⟩)
          have c1 : k (nv I 1 + i) < 6 := by omega
          rw [nI_clamp (by omega), b5, show lN (10000 * k (nv I 1 + i) + f (nv I 1 + i)) - lN (10000 * k (nv I 1 + i) + f (nv I 1 + i)) / 10000 * 10000 = lN ((10000 * k (nv I 1 + i) + f (nv I 1 + i)) % 10000) from pk_lRem (b := 10000) (by omega) (by omega) (by omega), show (10000 * k (nv I 1 + i) + f (nv I 1 + i)) % 10000 = f (nv I 1 + i) by omega, lN_i, nI_add, nI_1]
          exact ih
theorem P_perform {x : Int32} (hI : Inv I L c) : C_J_perform g x I L c (mQ (C_M_perform g x)) := by
  obtain ⟨w0, w1, w2, w3⟩ := hI.2.2.2.1
  rcases inR x 4 (by omega) with ⟨r, hr, rfl⟩ | hx
  · refine e_J_perform (j_isRowT hr (bt ⟨vp_in_nI hr (by omega), ?_⟩))
    match r, hr with
    | 0, _ => exact ⟨fun _ => n_perform35 hI w0, fun z => absurd z (by decide), fun z => absurd z (by decide), fun z => absurd z (by decide)⟩
    | 1, _ => exact ⟨fun z => absurd z (by decide), fun _ => n_perform37 hI w1, fun z => absurd z (by decide), fun z => absurd z (by decide)⟩
    | 2, _ => exact ⟨fun z => absurd z (by decide), fun z => absurd z (by decide), fun _ => n_perform39 hI w2, fun z => absurd z (by decide)⟩
    | 3, _ => exact ⟨fun z => absurd z (by decide), fun z => absurd z (by decide), fun z => absurd z (by decide), fun _ => n_perform41 hI w3⟩
  · exact e_J_perform (j_isRowF hx (bf (e_M_perform (m_0f (n := 3) rfl (by omega) hx (bf (fin hI rfl kT))))))
theorem P_judge {x y : Int32} (hI : Inv I L c) : C_J_judge g x y I L c (mQ (C_M_judge g x y)) := by
  obtain ⟨w0, w1, w2, w3⟩ := hI.2.2.2.1
  rcases inR x 4 (by omega) with ⟨r, hr, rfl⟩ | hx
  · refine e_J_judge (j_isRowT hr (bt ?_))
    rcases inR y 3 (by omega) with ⟨w, hw, rfl⟩ | hy
    · refine br_f (nI_pos (by omega)) (br_t (nI_le (b := 2) (by omega) (by omega)) ⟨vp_in_nI hr (by omega), ?_⟩)
      match r, hr with
      | 0, _ => exact ⟨fun _ => n_judge35 hI hw w0, fun z => absurd z (by decide), fun z => absurd z (by decide), fun z => absurd z (by decide)⟩
      | 1, _ => exact ⟨fun z => absurd z (by decide), fun _ => n_judge37 hI hw w1, fun z => absurd z (by decide), fun z => absurd z (by decide)⟩
      | 2, _ => exact ⟨fun z => absurd z (by decide), fun z => absurd z (by decide), fun _ => n_judge39 hI hw w2, fun z => absurd z (by decide)⟩
      | 3, _ => exact ⟨fun z => absurd z (by decide), fun z => absurd z (by decide), fun z => absurd z (by decide), fun _ => n_judge41 hI hw w3⟩
    · have M : mQ (C_M_judge g (nI r) y) (-2) I L c := e_M_judge (m_0t (n := 3) rfl (by omega) (by omega) (bt (m_0f (n := 2) rfl (by omega) hy (bf (fin hI rfl kT)))))
      refine br_c (fun _ => M) (fun q => br_f (fun w => ?_) M)
      have hy' := hy.resolve_left q
      rw [Int32.le_iff_toInt_le] at w hy'
      rw [nI_toInt (by omega)] at hy'
      have e : (2 : Int32).toInt = 2 := rfl
      omega
  · exact e_J_judge (j_isRowF hx (bf (e_M_judge (m_0f (n := 3) rfl (by omega) hx (bf (fin hI rfl kT))))))
end Te
