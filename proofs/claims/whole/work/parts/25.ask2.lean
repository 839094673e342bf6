/-! more calls that only ask -/
theorem SR_ex (P : Nat → Prop) (n : Nat) : ∃ k, k ≤ n ∧ (∀ j, j < k → ¬ P j) ∧ (k < n → P k) := by
  by_cases h : ∃ k, k < n ∧ P k
  · obtain ⟨k, ⟨h1, h2⟩, h3⟩ := pk_least (fun k => k < n ∧ P k) h
    exact ⟨k, by omega, fun j hj q => h3 j hj ⟨by omega, q⟩, fun _ => h2⟩
  · exact ⟨n, Nat.le_refl _, fun j hj q => h ⟨j, hj, q⟩, fun q => absurd q (by omega)⟩
section B
variable {g : gm_G} {I : mI} {L : mL} {c : gm_cfg}
theorem j_first {Q : Int32 → mI → mL → gm_cfg → Prop} {v m : Nat} (h : FS0 I) (hv : v ≤ 2000) (hm : m < nv I 1) (e : nu I m = v) (hl : ∀ j, j < m → ¬ nu I j = v) (hq : Q (nI m) I L c) : C_Sh20_firstOf g (nI v) I L c Q := by
  have hG := fG h
  refine e_Sh20_firstOf ?_
  refine lp0 (P := fun k => Z_Sh20_firstOf g Q 2 [(0, .ref 20), (1, .int (nI v)), (2, .int (nI k))] [] I L c) m ?_ ?_
  · refine r_Sh20_firstOf_2 (br_f (by rw [hG.2.2]; exact nI_ge hm (by omega)) ⟨vp_in_nI (by omega) (by omega), br_t ?_ hq⟩)
    rw [nI_clamp (by omega), (fNu h hm).1.2.2]
    exact congrArg nI e
  · intro k hk ih
    have hn := fNu h (k := k) (by omega)
    refine r_Sh20_firstOf_2 (br_f (by rw [hG.2.2]; exact nI_ge (by omega) (by omega)) ⟨vp_in_nI (by omega) (by omega), br_f ?_ ?_⟩)
    · rw [nI_clamp (by omega), hn.1.2.2]
      intro q
      exact hl k hk (neq q (by omega) (by omega) : nv I (69 + k) = v)
    · rw [nI_1]; exact ih
theorem m_first {Q : Int32 → mI → mL → gm_cfg → Prop} {k m : Nat} {y : Int32} (h : FM I) (hk : k < nv I 1) (hm : m ≤ k) (e : nu I m = nu I k) (hl : ∀ j, j < m → ¬ nu I j = nu I k) (hq : Q (nI m) I L c) : Z_M_list g Q 101 [(0, .ref 59), (1, .int (nI k)), (2, .int y), (3, .int 0)] [] I L c := by
  have hG := gG h
  have hb : ∀ i, i < nv I 1 → nu I i < 2 ^ 31 := fun i hi => by have := (gNu h hi).1.2.1; show nv I (69 + i) < _; omega
  refine lp0 (P := fun i => Z_M_list g Q 101 [(0, .ref 59), (1, .int (nI k)), (2, .int y), (3, .int (nI i))] [] I L c) m ?_ ?_
  · exact r_M_list_101 (m_numberOf h (by omega) (m_numberOf h hk (br_t (congrArg nI e) hq)))
  · intro i hi ih
    refine r_M_list_101 (m_numberOf h (by omega) (m_numberOf h hk (br_f (fun q => hl i hi (neq q (hb i (by omega)) (hb k hk))) ?_)))
    rw [nI_1]; exact ih
theorem P_list {x y : Int32} (hI : Inv I L c) : C_J_list g x y I L c (mQ (C_M_list g x y)) := by
  have h : FS0 I := hI.1
  have hT : FM (gm_u I 59 0 0) := FM.k (FS0.m h) (kT (L := L))
  have hG := fG h
  rcases inR x (nv I 1) (by omega) with ⟨j, hj, rfl⟩ | hx
  · refine e_J_list (j_shT h hj (bt ?_))
    have hn := fNu h hj
    rcases inR y 5 (by omega) with ⟨k, hk, rfl⟩ | hy
    · have hJ := fJr h
      match k, hk with
      | 0, _ => exact br_t rfl ⟨vp_in_nI (by omega) (by omega), by
          rw [nI_clamp (by omega), hn.1.2.2]
          exact e_M_list (m_isGuessT hT hj (bt (m_0t (j := 0) (n := 4) rfl (by omega) (by omega) (bt (br_t rfl (m_numberOf hT hj (fin hI rfl kT)))))))⟩
      | 1, _ => exact br_f (by decide) (br_t rfl ⟨vp_in_nI (by omega) (by omega), by
          rw [nI_clamp (by omega), hn.2.2.2, ← hn.2.1]
          refine e_M_list (m_isGuessT hT hj (bt (m_0t (j := 1) (n := 4) rfl (by omega) (by omega) (bt (br_f (by decide) (br_t rfl ⟨via 29 j 330 (by omega) (by omega), ?_⟩))))))
          have e2 : Int32.toNatClampNeg (29 + nI j) = 29 + j := ixa 29 j (by omega)
          rw [e2]
          exact fin hI rfl kT⟩)
      | 2, _ => exact br_f (by decide) (br_f (by decide) (br_t rfl (j_goalAt h (by omega) (e_M_list (m_isGuessT hT hj (bt (m_0t (j := 2) (n := 4) rfl (by omega) (by omega) (bt (br_f (by decide) (br_f (by decide) (br_t rfl (m_goalAt hT (Nat.le_of_lt hj) (fin hI rfl kT)))))))))))))
      | 3, _ =>
        refine br_f (by decide) (br_f (by decide) (br_f (by decide) (br_t rfl (br_c (fun z => ?_) (fun z => ⟨vp_in_nI (by omega) (by omega), ?_⟩)))))
        · rw [hJ.2.2, ← hJ.1] at z
          exact e_M_list (m_isGuessT hT hj (bt (m_0t (j := 3) (n := 4) rfl (by omega) (by omega) (bt (br_f (by decide) (br_f (by decide) (br_f (by decide) (br_t rfl (br_t z (fin hI rfl kT))))))))))
        · rw [hJ.2.2, ← hJ.1] at z
          rw [nI_clamp (by omega), hn.1.2.2]
          refine e_J_offJar ?_
          rw [hJ.2.2, ad_abs (by omega) (by omega)]
          refine e_M_list (m_isGuessT hT hj (bt (m_0t (j := 3) (n := 4) rfl (by omega) (by omega) (bt (br_f (by decide) (br_f (by decide) (br_f (by decide) (br_t rfl (br_f z (m_numberOf hT hj ?_))))))))))
          have e6 : (gm_u I 59 0 0) 60 6 = nI (nv I 6) := hJ.1
          rw [e6]
          exact m_off (show nv I (69 + j) < _ by omega) (by omega) (fin hI rfl kT)
      | 4, _ =>
        obtain ⟨m, a1, a2⟩ := pk_least (fun i => nu I i = nu I j) ⟨j, rfl⟩
        have hm : m ≤ j := by
          rcases Nat.lt_or_ge j m with q | q
          · exact absurd rfl (a2 j q)
          · exact q
        refine br_f (by decide) (br_f (by decide) (br_f (by decide) (br_f (by decide) (br_t rfl ⟨vp_in_nI (by omega) (by omega), ?_⟩))))
        rw [nI_clamp (by omega), hn.1.2.2]
        exact j_first h (v := nu I j) (m := m) hn.1.2.1 (by omega) a1 a2 (e_M_list (m_isGuessT hT hj (bt (m_0t (j := 4) (n := 4) rfl (by omega) (by omega) (bt (br_f (by decide) (br_f (by decide) (br_f (by decide) (br_f (by decide) (m_first hT hj hm a1 a2 (fin hI rfl kT)))))))))))
    · exact br_f (neo (by omega) hy 0 (by omega)) (br_f (neo (by omega) hy 1 (by omega)) (br_f (neo (by omega) hy 2 (by omega)) (br_f (neo (by omega) hy 3 (by omega)) (br_f (neo (by omega) hy 4 (by omega)) (e_M_list (m_isGuessT hT hj (bt (m_0f (n := 4) rfl (by omega) hy (bf (fin hI rfl kT))))))))))
  · exact e_J_list (j_shF h hx (bf (e_M_list (m_isGuessF hT hx (bf (fin hI rfl kT))))))
/-! unlike numbers -/
def un (f : Nat → Nat) : Nat → Nat
  | 0 => 0
  | n + 1 => un f n + (if ∀ j, j < n → ¬ f j = f n then 1 else 0)
theorem j_unlike {Q : Int32 → mI → mL → gm_cfg → Prop} (h : FS0 I) (hq : Q (nI (un (nu I) (nv I 1))) I L c) : C_Sh20_unlike g I L c Q := by
  have hG := fG h
  refine e_Sh20_unlike ?_
  refine lp0 (P := fun k => Z_Sh20_unlike g Q 4 [(0, .ref 20), (1, .int (nI (un (nu I) k))), (2, .int (nI k))] [] I L c) (nv I 1) ?_ ?_
  · exact r_Sh20_unlike_4 (br_t (by rw [hG.2.2]; exact nI_le (Nat.le_refl _) (by omega)) hq)
  · intro k hk ih
    have hn := fNu h hk
    obtain ⟨m, a1, a2⟩ := pk_least (fun i => nu I i = nu I k) ⟨k, rfl⟩
    have hm : m ≤ k := by
      rcases Nat.lt_or_ge k m with q | q
      · exact absurd rfl (a2 k q)
      · exact q
    refine r_Sh20_unlike_4 (br_f (by rw [hG.2.2]; exact nI_ge hk (by omega)) ⟨vp_in_nI (by omega) (by omega), ?_⟩)
    rw [nI_clamp (by omega), hn.1.2.2, nI_1, nI_1]
    refine j_first h (v := nu I k) (m := m) hn.1.2.1 (by omega) a1 a2 (pk_eq m k (fun z => ?_) (fun z => ?_))
    · subst z
      simp only [un] at ih
      rw [if_pos a2] at ih
      exact ih
    · simp only [un] at ih
      rw [if_neg (fun q => q m (by omega) a1)] at ih
      exact ih
theorem m_unlike {Q : Int32 → mI → mL → gm_cfg → Prop} (h : FM I) (hq : Q (nI (un (nu I) (nv I 1))) I L c) : C_M_unlikeMany g I L c Q := by
  have hG := gG h
  have hb : ∀ i, i < nv I 1 → nu I i < 2 ^ 31 := fun i hi => by have := (gNu h hi).1.2.1; show nv I (69 + i) < _; omega
  refine e_M_unlikeMany ?_
  refine lp0 (P := fun k => Z_M_unlikeMany g Q 4 [(0, .ref 59), (1, .int (nI (un (nu I) k))), (2, .int (nI k))] [] I L c) (nv I 1) ?_ ?_
  · exact r_M_unlikeMany_4 (br_t (by rw [hG.1]; exact nI_le (Nat.le_refl _) (by omega)) hq)
  · intro k hk ih
    obtain ⟨m, a1, a2⟩ := pk_least (fun i => nu I i = nu I k) ⟨k, rfl⟩
    have hm : m ≤ k := by
      rcases Nat.lt_or_ge k m with q | q
      · exact absurd rfl (a2 k q)
      · exact q
    refine r_M_unlikeMany_4 (br_f (by rw [hG.1]; exact nI_ge hk (by omega)) ?_)
    refine lp0 (P := fun i => Z_M_unlikeMany g Q 16 [(0, .ref 59), (1, .int (nI (un (nu I) k))), (2, .int (nI k)), (3, .int (nI i))] [] I L c) m ?_ ?_
    · refine r_M_unlikeMany_16 (m_numberOf h (by omega) (m_numberOf h hk (br_t (congrArg nI a1) ?_)))
      rw [nI_1, nI_1, Int32.add_zero]
      refine pk_eq m k (fun z => ?_) (fun z => ?_)
      · subst z
        simp only [un] at ih
        rw [if_pos a2] at ih
        exact ih
      · simp only [un] at ih
        rw [if_neg (fun q => q m (by omega) a1)] at ih
        exact ih
    · intro i hi ih2
      refine r_M_unlikeMany_16 (m_numberOf h (by omega) (m_numberOf h hk (br_f (fun q => a2 i hi (neq q (hb i (by omega)) (hb k hk))) ?_)))
      rw [nI_1]; exact ih2
theorem P_count {x : Int32} (hI : Inv I L c) : C_J_count g x I L c (mQ (C_M_count g x)) := by
  have h : FS0 I := hI.1
  have hT : FM (gm_u I 59 0 0) := FM.k (FS0.m h) (kT (L := L))
  have d : ∀ a b : Nat, a < 12 → b < 12 → a ≠ b → ¬ nI a = nI b := fun a b ha hb hn q => hn (neq q (by omega) (by omega))
  have M : ∀ (k : Nat) (v : Int32), k ≤ 7 → v = I 60 k → mQ (C_M_count g (nI k)) v I L c := by
    intro k v hk e
    refine e_M_count (br_f (d k 8 (by omega) (by omega) (by omega)) (br_f (d k 9 (by omega) (by omega) (by omega)) (br_f (d k 10 (by omega) (by omega) (by omega)) (br_f (d k 11 (by omega) (by omega) (by omega)) (m_0t (n := 7) rfl (by omega) hk (bt ⟨vp_in_nI (by omega) (by omega), ?_⟩))))))
    rw [nI_clamp (by omega)]
    exact fin hI e kT
  rcases inR x 12 (by omega) with ⟨k, hk, rfl⟩ | hx
  · match k, hk with
    | 0, _ => exact e_J_count (br_t rfl (M 0 _ (by omega) h.1.2))
    | 1, _ => exact e_J_count (br_f (by decide) (br_t rfl (M 1 _ (by omega) h.2.1.2)))
    | 2, _ => exact e_J_count (br_f (by decide) (br_f (by decide) (br_t rfl (M 2 _ (by omega) h.2.2.1.2.2))))
    | 3, _ => exact e_J_count (br_f (by decide) (br_f (by decide) (br_f (by decide) (br_t rfl (M 3 _ (by omega) h.2.2.2.1.2.2)))))
    | 4, _ => exact e_J_count (br_f (by decide) (br_f (by decide) (br_f (by decide) (br_f (by decide) (br_t rfl (M 4 _ (by omega) h.2.2.2.2.1.2))))))
    | 5, _ => exact e_J_count (br_f (by decide) (br_f (by decide) (br_f (by decide) (br_f (by decide) (br_f (by decide) (br_t rfl (M 5 _ (by omega) h.2.2.2.2.2.1.2)))))))
    | 6, _ => exact e_J_count (br_f (by decide) (br_f (by decide) (br_f (by decide) (br_f (by decide) (br_f (by decide) (br_f (by decide) (br_t rfl (M 6 _ (by omega) h.2.2.2.2.2.2.1.2))))))))
    | 7, _ =>
      have hh := fHd h
      refine e_J_count (br_f (by decide) (br_f (by decide) (br_f (by decide) (br_f (by decide) (br_f (by decide) (br_f (by decide) (br_f (by decide) (br_t rfl ?_))))))))
      rw [hh.2.2]
      refine pk_eq (nv I 7) 0 (fun z => M 7 _ (by omega) ?_) (fun z => M 7 _ (by omega) ?_)
      · rw [hh.1, z]; rfl
      · rw [hh.1, show nv I 7 = 1 by omega]; rfl
    | 8, _ =>
      obtain ⟨T, t1, t2, t3, -⟩ := hI.2.1
      exact e_J_count (br_f (by decide) (br_f (by decide) (br_f (by decide) (br_f (by decide) (br_f (by decide) (br_f (by decide) (br_f (by decide) (br_f (by decide) (br_t rfl (e_M_count (br_t rfl (fin hI (t2.trans t3.symm) kT))))))))))))
    | 9, _ => exact e_J_count (br_f (by decide) (br_f (by decide) (br_f (by decide) (br_f (by decide) (br_f (by decide) (br_f (by decide) (br_f (by decide) (br_f (by decide) (br_f (by decide) (br_t rfl (e_M_count (br_f (by decide) (br_t rfl (fin hI (fLi h) kT))))))))))))))
    | 10, _ => exact e_J_count (br_f (by decide) (br_f (by decide) (br_f (by decide) (br_f (by decide) (br_f (by decide) (br_f (by decide) (br_f (by decide) (br_f (by decide) (br_f (by decide) (br_f (by decide) (br_t rfl (j_unlike h (e_M_count (br_f (by decide) (br_f (by decide) (br_t rfl (m_unlike hT (fin hI rfl kT))))))))))))))))))
    | 11, _ => exact e_J_count (br_f (by decide) (br_f (by decide) (br_f (by decide) (br_f (by decide) (br_f (by decide) (br_f (by decide) (br_f (by decide) (br_f (by decide) (br_f (by decide) (br_f (by decide) (br_f (by decide) (br_t rfl (e_M_count (br_f (by decide) (br_f (by decide) (br_f (by decide) (br_t rfl (fin hI (by rw [h.2.2.2.2.1.2, h.2.1.2]) kT))))))))))))))))))
  · have o := fun k (q : k < 12) => neo (by omega) hx k q
    refine e_J_count (br_f (o 0 (by omega)) (br_f (o 1 (by omega)) (br_f (o 2 (by omega)) (br_f (o 3 (by omega)) (br_f (o 4 (by omega)) (br_f (o 5 (by omega)) (br_f (o 6 (by omega)) (br_f (o 7 (by omega)) (br_f (o 8 (by omega)) (br_f (o 9 (by omega)) (br_f (o 10 (by omega)) (br_f (o 11 (by omega)) (e_M_count (br_f (o 8 (by omega)) (br_f (o 9 (by omega)) (br_f (o 10 (by omega)) (br_f (o 11 (by omega)) ?_)))))))))))))))))
    refine m_0f (n := 7) rfl (by omega) ?_ (bf (fin hI rfl kT))
    rcases hx with q | q
    · exact Or.inl q
    · refine Or.inr ?_
      rw [Int32.le_iff_toInt_le, nI_toInt (by omega)] at q
      rw [Int32.le_iff_toInt_le, nI_toInt (by omega)]
      omega
/-! the glass -/
theorem P_holds {x y z : Int32} (hI : Inv I L c) : C_J_holds g x y z I L c (mQ (C_M_holds g x y z)) := by
  refine e_J_holds ?_
  rcases inAB x 1 99 (by omega) (by omega) with ⟨a, a1, a2, rfl⟩ | hx
  · refine br_f (nI_nlt (b := 1) a1 (by omega)) (br_f (nI_nlt (a := 99) a2 (by omega)) ?_)
    rcases inAB y 1 30 (by omega) (by omega) with ⟨b, b1, b2, rfl⟩ | hy
    · rcases inAB z 0 99 (by omega) (by omega) with ⟨d, d1, d2, rfl⟩ | hz
      · exact e_J_isGlass (br_f (nI_nlt (b := 1) b1 (by omega)) (br_f (nI_nlt (a := 30) b2 (by omega)) (br_f (nI_nlt (b := 0) d1 (by omega)) (br_f (nI_nlt (a := 99) d2 (by omega)) (bt (e_J_filled (e_M_holds (m_wt (a := 1) (b := 99) rfl rfl a1 a2 (by omega) (bt (m_wt (a := 1) (b := 30) rfl rfl b1 b2 (by omega) (bt (m_wt (a := 0) (b := 99) rfl rfl d1 d2 (by omega) (bt (e_M_holdsOf (fin hI rfl kT)))))))))))))))
      · have M : mQ (C_M_holds g (nI a) (nI b) z) (-3) I L c := e_M_holds (m_wt (a := 1) (b := 99) rfl rfl a1 a2 (by omega) (bt (m_wt (a := 1) (b := 30) rfl rfl b1 b2 (by omega) (bt (m_wf (a := 0) (b := 99) rfl rfl (by omega) (by omega) hz (bf (fin hI rfl kT)))))))
        exact e_J_isGlass (br_f (nI_nlt (b := 1) b1 (by omega)) (br_f (nI_nlt (a := 30) b2 (by omega)) (br_c (fun _ => bf M) (fun q => br_t (hz.resolve_left q) (bf M)))))
    · have M : mQ (C_M_holds g (nI a) y z) (-3) I L c := e_M_holds (m_wt (a := 1) (b := 99) rfl rfl a1 a2 (by omega) (bt (m_wf (a := 1) (b := 30) rfl rfl (by omega) (by omega) hy (bf (fin hI rfl kT)))))
      exact e_J_isGlass (br_c (fun _ => bf M) (fun q => br_t (hy.resolve_left q) (bf M)))
  · have M : mQ (C_M_holds g x y z) (-3) I L c := e_M_holds (m_wf (a := 1) (b := 99) rfl rfl (by omega) (by omega) hx (bf (fin hI rfl kT)))
    exact br_c (fun _ => M) (fun q => br_t (hx.resolve_left q) M)
/-- what l layers hold, as both sides reckon it -/
def hd (x0 x1 x2 : Int32) : Int32 := ((x0 * (1 + ((3 * x1) * (x1 + 1)))) - (((x0 / 2) * 6) * x1)) - ((((x0 * (1 + ((3 * x1) * (x1 + 1)))) - (((x0 / 2) * 6) * x1)) * x2) / 100)
theorem P_layersFor {x y z : Int32} (hI : Inv I L c) : C_J_layersFor g x y z I L c (mQ (C_M_layersFor g x y z)) := by
  refine e_J_layersFor ?_
  rcases inAB x 1 9999 (by omega) (by omega) with ⟨a, a1, a2, rfl⟩ | hx
  · refine br_f (nI_nlt (b := 1) a1 (by omega)) (br_f (nI_nlt (a := 9999) a2 (by omega)) ?_)
    rcases inAB y 1 30 (by omega) (by omega) with ⟨b, b1, b2, rfl⟩ | hy
    · rcases inAB z 0 99 (by omega) (by omega) with ⟨d, d1, d2, rfl⟩ | hz
      · refine e_J_isGlass (br_f (nI_nlt (b := 1) b1 (by omega)) (br_f (nI_nlt (a := 30) b2 (by omega)) (br_f (nI_nlt (b := 0) d1 (by omega)) (br_f (nI_nlt (a := 99) d2 (by omega)) (bt ?_)))))
        obtain ⟨m, m1, m2, m3⟩ := SR_ex (fun l => ¬ hd (nI (l + 1)) (nI b) (nI d) < nI a) 99
        have m2' : ∀ l, l < m → hd (nI (l + 1)) (nI b) (nI d) < nI a := fun l hl => Classical.not_not.mp (m2 l hl)
        have M : mQ (C_M_layersFor g (nI a) (nI b) (nI d)) (if m < 99 then nI (m + 1) else -1) I L c := by
          refine e_M_layersFor (m_wt (a := 1) (b := 9999) rfl rfl a1 a2 (by omega) (bt (m_wt (a := 1) (b := 30) rfl rfl b1 b2 (by omega) (bt (m_wt (a := 0) (b := 99) rfl rfl d1 d2 (by omega) (bt ?_))))))
          refine lp0 (P := fun k => Z_M_layersFor g _ 47 [(0, .ref 59), (1, .int (nI a)), (2, .int (nI b)), (3, .int (nI d)), (4, .int (nI (k + 1)))] [] _ L c) m ?_ ?_
          · rcases Nat.lt_or_ge m 99 with q | q
            · rw [if_pos q]
              exact r_M_layersFor_47 (br_f (nI_ge (b := 100) (by omega) (by omega)) (e_M_holdsOf (br_f (m3 q) (fin hI rfl kT))))
            · rw [if_neg (by omega)]
              exact r_M_layersFor_47 (br_t (nI_le (a := 100) (by omega) (by omega)) (fin hI rfl kT))
          · intro k hk ih
            refine r_M_layersFor_47 (br_f (nI_ge (b := 100) (by omega) (by omega)) (e_M_holdsOf (br_t (m2' k hk) ?_)))
            rw [nI_1]; exact ih
        refine lp0 (P := fun k => Z_J_layersFor g _ 26 [(0, .ref 0), (1, .int (nI a)), (2, .int (nI b)), (3, .int (nI d)), (4, .int (nI (k + 1)))] [] I L c) m ?_ ?_
        · rcases Nat.lt_or_ge m 99 with q | q
          · rw [if_pos q] at M
            exact r_J_layersFor_26 (br_f (nI_nlt (a := 99) (by omega) (by omega)) (e_J_filled (br_f (m3 q) M)))
          · rw [if_neg (by omega)] at M
            exact r_J_layersFor_26 (br_t (nI_lt (a := 99) (by omega) (by omega)) M)
        · intro k hk ih
          refine r_J_layersFor_26 (br_f (nI_nlt (a := 99) (by omega) (by omega)) (e_J_filled (br_t (m2' k hk) ?_)))
          rw [nI_1]; exact ih
      · have M : mQ (C_M_layersFor g (nI a) (nI b) z) (-3) I L c := e_M_layersFor (m_wt (a := 1) (b := 9999) rfl rfl a1 a2 (by omega) (bt (m_wt (a := 1) (b := 30) rfl rfl b1 b2 (by omega) (bt (m_wf (a := 0) (b := 99) rfl rfl (by omega) (by omega) hz (bf (fin hI rfl kT)))))))
        exact e_J_isGlass (br_f (nI_nlt (b := 1) b1 (by omega)) (br_f (nI_nlt (a := 30) b2 (by omega)) (br_c (fun _ => bf M) (fun q => br_t (hz.resolve_left q) (bf M)))))
    · have M : mQ (C_M_layersFor g (nI a) y z) (-3) I L c := e_M_layersFor (m_wt (a := 1) (b := 9999) rfl rfl a1 a2 (by omega) (bt (m_wf (a := 1) (b := 30) rfl rfl (by omega) (by omega) hy (bf (fin hI rfl kT)))))
      exact e_J_isGlass (br_c (fun _ => bf M) (fun q => br_t (hy.resolve_left q) (bf M)))
  · have M : mQ (C_M_layersFor g x y z) (-3) I L c := e_M_layersFor (m_wf (a := 1) (b := 9999) rfl rfl (by omega) (by omega) hx (bf (fin hI rfl kT)))
    exact br_c (fun _ => M) (fun q => br_t (hx.resolve_left q) M)
end B
