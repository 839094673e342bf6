/-! odds of how many -/
/-- the first of the greatest that is not 0 -/
def lk (f : Nat → Nat) : Nat → Option Nat
  | 0 => none
  | n + 1 => match lk f n with
    | none => if f n = 0 then none else some n
    | some b => if f b < f n then some n else some b
def ag (f : Nat → Nat) : Nat → Nat
  | 0 => 0
  | n + 1 => if f (ag f n) < f (n + 1) then n + 1 else ag f n
theorem ag_le (f : Nat → Nat) : ∀ n, ag f n ≤ n
  | 0 => Nat.le_refl _
  | n + 1 => by
    have := ag_le f n
    unfold ag
    split <;> omega
theorem ag_max (f : Nat → Nat) : ∀ n j, j ≤ n → f j ≤ f (ag f n)
  | 0, j, h => by rw [show j = 0 by omega]; exact Nat.le_refl _
  | n + 1, j, h => by
    unfold ag
    split
    · rename_i q
      rcases Nat.lt_or_ge j (n + 1) with z | z
      · have := ag_max f n j (by omega); omega
      · rw [show j = n + 1 by omega]; exact Nat.le_refl _
    · rename_i q
      rcases Nat.lt_or_ge j (n + 1) with z | z
      · exact ag_max f n j (by omega)
      · rw [show j = n + 1 by omega]; omega
theorem lk_ag (f : Nat → Nat) : ∀ n, lk f (n + 1) = if f (ag f n) = 0 then none else some (ag f n)
  | 0 => rfl
  | n + 1 => by
    have ih := lk_ag f n
    have ha : ag f (n + 1) = if f (ag f n) < f (n + 1) then n + 1 else ag f n := rfl
    have hl : lk f (n + 1 + 1) = match lk f (n + 1) with | none => if f (n + 1) = 0 then none else some (n + 1) | some b => if f b < f (n + 1) then some (n + 1) else some b := rfl
    rw [hl, ih, ha]
    by_cases q : f (ag f n) = 0
    · rw [if_pos q]
      simp only
      by_cases z : f (ag f n) < f (n + 1)
      · rw [if_pos z]
      · rw [if_neg z, if_pos (by omega), if_pos q]
    · rw [if_neg q]
      simp only
      by_cases z : f (ag f n) < f (n + 1)
      · rw [if_pos z, if_pos z, if_neg (by omega)]
      · rw [if_neg z, if_neg z, if_neg q]
theorem lk_lt {f : Nat → Nat} : ∀ n b, lk f n = some b → b < n
  | 0, b, h => by cases h
  | n + 1, b, h => by
    rw [lk_ag] at h
    have := ag_le f n
    split at h
    · cases h
    · cases h; omega
theorem sN_0 {f : Nat → Nat} : ∀ n, (sN f n = 0 ↔ ∀ j, j < n → f j = 0)
  | 0 => ⟨fun _ j hj => absurd hj (by omega), fun _ => rfl⟩
  | n + 1 => by
    have ih := sN_0 (f := f) n
    show sN f n + f n = 0 ↔ _
    constructor
    · intro h j hj
      rcases Nat.lt_or_ge j n with q | q
      · exact (ih.mp (by omega)) j q
      · rw [show j = n by omega]; omega
    · intro h
      have h1 := ih.mpr (fun j hj => h j (by omega))
      have h2 := h n (by omega)
      omega
/-- a place of the grid as a number -/
def oL (lo : Nat) : Option Nat → Int32
  | none => -1
  | some b => nI (lo + b)
def lV (f : Nat → Nat) : Option Nat → Nat
  | none => 0
  | some b => f b
theorem lk_step {f : Nat → Nat} {n : Nat} : (f n ≤ lV f (lk f n) → lk f (n + 1) = lk f n) ∧ (¬ f n ≤ lV f (lk f n) → lk f (n + 1) = some n) := by
  cases h : lk f n with
  | none =>
    simp only [lk, h, lV]
    constructor
    · intro q; rw [if_pos (by omega)]
    · intro q; rw [if_neg (by omega)]
  | some b =>
    simp only [lk, h, lV]
    constructor
    · intro q; rw [if_neg (by omega)]
    · intro q; rw [if_pos (by omega)]
theorem lV_le {f : Nat → Nat} {B : Nat} {n : Nat} (h : ∀ j, j < n → f j ≤ B) : lV f (lk f n) ≤ B := by
  cases q : lk f n with
  | none => exact Nat.zero_le _
  | some b => exact h b (lk_lt _ _ q)
section O
variable {g : gm_G} {I : mI} {L : mL} {c : gm_cfg}
theorem m_gw {I0 : mI} {Q : Int32 → mI → mL → gm_cfg → Prop} (e0 : I 60 = I0 60) (h : FM I) (hq : Q (nI (gw I0)) I L c) : C_M_gridMany g I L c Q := by
  refine m_gridMany h ?_
  show Q (nI (nv I 3 - nv I 2 + 1)) I L c
  rw [nv_60 e0]
  exact hq
theorem P_likeliest {x : Int32} (hI : Inv I L c) : C_J_likeliest g x I L c (mQ (C_M_likeliest g x)) := by
  have h : FS0 I := hI.1
  have hT : FM (gm_u I 59 0 0) := FM.k (FS0.m h) (kT (L := L))
  have hG := fG h
  have hLo := fLo h
  have hHi := fHi h
  have hb := gw_b (FS0.m h)
  have eW : nv I 2 + gw I = nv I 3 + 1 := by show nv I 2 + (nv I 3 - nv I 2 + 1) = _; omega
  rcases inM x hG.2.1 with ⟨m, m4, hm, rfl⟩ | hx
  · refine e_J_likeliest (j_canT h m4 hm (bt ?_))
    have B : ∀ i, ws I none m i ≤ 2 ^ 39 := fun i => wy_B (FS0.m h) hm m4
    have S := ws_S (FS0.m h) (al := none) hm m4 hb.2
    have M : mQ (C_M_likeliest g (nI m)) (oL (nv I 2) (lk (ws I none m) (gw I))) I L c := by
      refine e_M_likeliest (m_manyT hT m4 hm (bt (m_lays (I0 := I) (al := none) rfl hT hm (fun a q => by cases q) (fun L1 a1 a2 a3 => ?_))))
      obtain ⟨n, hn⟩ : ∃ n, gw I = n + 1 := ⟨gw I - 1, by omega⟩
      refine lp0 (P := fun i => Z_M_likeliest g _ 26 [(0, .ref 59), (1, .int (nI m)), (2, .int (nI (ag (ws I none m) i))), (3, .int (nI (i + 1)))] [] (gm_u I 59 0 0) L1 c) n ?_ ?_
      · refine r_M_likeliest_26 (m_gw (I0 := I) rfl hT (br_t (nI_le (by omega) (by omega)) ?_))
        rw [a2, show (gm_u I 59 0 0) 60 2 = nI (nv I 2) from hLo.1, nI_add, hn, lk_ag]
        have hag := ag_le (ws I none m) n
        refine br_c (fun z => ?_) (fun z => ?_)
        · have z' := (pk_lEQ (b := 0) (by rw [← hn]; omega) (by omega)).mp z
          rw [if_pos ((sN_0 (n + 1)).mp z' _ (by omega))]
          exact fin hI rfl (kT.w a3)
        · rw [if_neg (fun q => z ?_)]
          · exact fin hI rfl (kT.w a3)
          · rw [(sN_0 (n + 1)).mpr (fun j hj => by have := ag_max (ws I none m) n j (by omega); omega)]; rfl
      · intro i hi ih
        have hag := ag_le (ws I none m) i
        refine r_M_likeliest_26 (m_gw (I0 := I) rfl hT (br_f (nI_ge (by omega) (by omega)) ⟨vp_in_nI (by omega) (by omega), vp_in_nI (by omega) (by omega), ?_⟩))
        rw [nI_clamp (by omega), nI_clamp (by omega), a1 _ (by omega), a1 _ (by omega), nI_1]
        simp only [ag] at ih
        have b1 := B (i + 1)
        have b2 := B (ag (ws I none m) i)
        refine br_c (fun z => ?_) (fun z => ?_)
        · have q := (pk_lLE (by omega) (by omega)).mp z
          rw [if_neg (by omega)] at ih
          exact ih
        · have q : ¬ ws I none m (i + 1) ≤ ws I none m (ag (ws I none m) i) := fun q => z ((pk_lLE (by omega) (by omega)).mpr q)
          rw [if_pos (by omega)] at ih
          exact ih
    rw [hLo.2.2.2]
    refine lp0 (P := fun i => Z_J_likeliest g (mQ (C_M_likeliest g (nI m))) 24 [(0, .ref 0), (1, .int (nI m)), (2, .int (oL (nv I 2) (lk (ws I none m) i))), (3, .long (lN (lV (ws I none m) (lk (ws I none m) i)))), (5, .int (nI (nv I 2 + i)))] [] I L c) (gw I) ?_ ?_
    · exact r_J_likeliest_24 (br_t (by rw [hHi.2.2.2]; exact nI_lt (by omega) (by omega)) M)
    · intro i hi ih
      refine r_J_likeliest_24 (br_f (by rw [hHi.2.2.2]; exact nI_nlt (by omega) (by omega)) (j_waysFor (al := none) h (by omega) hm (fun a q => by cases q) ?_))
      have b1 := B i
      have b2 := lV_le (f := ws I none m) (n := i) (fun j _ => B j)
      have st := lk_step (f := ws I none m) (n := i)
      rw [nI_1]
      refine br_c (fun z => ?_) (fun z => ?_)
      · have q := (pk_lLE (a := ws I none m i) (by omega) (by omega)).mp z
        rw [st.1 q] at ih
        exact ih
      · have q : ¬ ws I none m i ≤ lV (ws I none m) (lk (ws I none m) i) := fun q => z ((pk_lLE (a := ws I none m i) (by omega) (by omega)).mpr q)
        rw [st.2 q] at ih
        exact ih
  · exact e_J_likeliest (j_canF h hx (bf (e_M_likeliest (m_manyF hT hx (bf (fin hI rfl kT))))))
/-! the span -/
def cn (f : Nat → Nat) : Nat → Nat
  | 0 => 0
  | n + 1 => if f n = 0 then cn f n else cn f n + 1
def fz (f : Nat → Nat) : Nat → Option Nat
  | 0 => none
  | n + 1 => if f n = 0 then fz f n else match fz f n with | none => some n | some b => some b
def lz (f : Nat → Nat) : Nat → Option Nat
  | 0 => none
  | n + 1 => if f n = 0 then lz f n else some n
theorem cn_le (f : Nat → Nat) : ∀ n, cn f n ≤ n
  | 0 => Nat.le_refl _
  | n + 1 => by
    have := cn_le f n
    unfold cn
    split <;> omega
theorem cn_fz (f : Nat → Nat) : ∀ n, (cn f n = 0 ↔ fz f n = none)
  | 0 => ⟨fun _ => rfl, fun _ => rfl⟩
  | n + 1 => by
    have ih := cn_fz f n
    unfold cn fz
    split
    · exact ih
    · constructor
      · intro q; omega
      · intro q
        cases h : fz f n with
        | none => rw [h] at q; cases q
        | some b => rw [h] at q; cases q
theorem fz_lt {f : Nat → Nat} : ∀ n b, fz f n = some b → b < n
  | 0, b, h => by cases h
  | n + 1, b, h => by
    unfold fz at h
    split at h
    · have := fz_lt n b h; omega
    · cases q : fz f n with
      | none => rw [q] at h; cases h; omega
      | some d => rw [q] at h; cases h; have := fz_lt n _ q; omega
theorem P_span {x y : Int32} (hI : Inv I L c) : C_J_span g x y I L c (mQ (C_M_span g x y)) := by
  have h : FS0 I := hI.1
  have hT : FM (gm_u I 59 0 0) := FM.k (FS0.m h) (kT (L := L))
  have hG := fG h
  have hLo := fLo h
  have hHi := fHi h
  have hb := gw_b (FS0.m h)
  have eW : nv I 2 + gw I = nv I 3 + 1 := by show nv I 2 + (nv I 3 - nv I 2 + 1) = _; omega
  rcases inR y 3 (by omega) with ⟨w, hw, rfl⟩ | hy
  · refine e_J_span (br_f (nI_pos (by omega)) (br_t (nI_le (b := 2) (by omega) (by omega)) ?_))
    rcases inM x hG.2.1 with ⟨m, m4, hm, rfl⟩ | hx
    · refine j_canT h m4 hm (bt ?_)
      have B : ∀ i, ws I none m i ≤ 2 ^ 39 := fun i => wy_B (FS0.m h) hm m4
      obtain ⟨f, hf⟩ : ∃ f, f = ws I none m := ⟨_, rfl⟩
      have M : mQ (C_M_span g (nI m) (nI w)) (match w with | 0 => oL (nv I 2) (fz f (gw I)) | 1 => oL (nv I 2) (lz f (gw I)) | _ => nI (cn f (gw I))) I L c := by
        refine e_M_span (m_0t (n := 2) rfl (by omega) (by omega) (bt (m_manyT hT m4 hm (bt (m_lays (I0 := I) (al := none) rfl hT hm (fun a q => by cases q) (fun L1 a1 a2 a3 => ?_))))))
        rw [← hf] at a1
        refine lp0 (P := fun i => Z_M_span g _ 48 [(0, .ref 59), (1, .int (nI m)), (2, .int (nI w)), (3, .int (nI (cn f i))), (4, .int (oL (nv I 2) (fz f i))), (5, .int (oL (nv I 2) (lz f i))), (6, .int (nI i))] [] (gm_u I 59 0 0) L1 c) (gw I) ?_ ?_
        · refine r_M_span_48 (m_gw (I0 := I) rfl hT (br_t (nI_le (Nat.le_refl _) (by omega)) ?_))
          match w, hw with
          | 0, _ => exact br_t rfl (fin hI rfl (kT.w a3))
          | 1, _ => exact br_f (by decide) (br_t rfl (fin hI rfl (kT.w a3)))
          | 2, _ => exact br_f (by decide) (br_f (by decide) (fin hI rfl (kT.w a3)))
        · intro i hi ih
          refine r_M_span_48 (m_gw (I0 := I) rfl hT (br_f (nI_ge hi (by omega)) ⟨vp_in_nI (by omega) (by omega), ?_⟩))
          rw [nI_clamp (by omega), a1 i hi, nI_1, nI_1, show (gm_u I 59 0 0) 60 2 = nI (nv I 2) from hLo.1, nI_add]
          have b1 : f i ≤ 2 ^ 39 := by rw [hf]; exact B i
          simp only [cn, fz, lz] at ih
          refine br_c (fun z => ?_) (fun z => ?_)
          · have q := (pk_lEQ (b := 0) (by omega) (by omega)).mp z
            rw [if_pos q, if_pos q, if_pos q] at ih
            exact ih
          · have q : ¬ f i = 0 := fun q => z (by rw [q]; rfl)
            rw [if_neg q, if_neg q, if_neg q] at ih
            cases hq : fz f i with
            | none =>
              rw [hq] at ih
              exact br_t rfl ih
            | some b =>
              rw [hq] at ih
              have := fz_lt _ _ hq
              exact br_f (nIm1 (by omega)) ih
      rw [hLo.2.2.2]
      refine lp0 (P := fun i => Z_J_span g (mQ (C_M_span g (nI m) (nI w))) 40 [(0, .ref 0), (1, .int (nI m)), (2, .int (nI w)), (3, .int (oL (nv I 2) (fz f i))), (4, .int (oL (nv I 2) (lz f i))), (5, .int (nI (cn f i))), (6, .int (nI (nv I 2 + i)))] [] I L c) (gw I) ?_ ?_
      · refine r_J_span_40 (br_t (by rw [hHi.2.2.2]; exact nI_lt (by omega) (by omega)) ?_)
        match w, hw with
        | 0, _ => exact br_f (by decide) (br_t rfl M)
        | 1, _ => exact br_f (by decide) (br_f (by decide) M)
        | 2, _ => exact br_t rfl M
      · intro i hi ih
        refine r_J_span_40 (br_f (by rw [hHi.2.2.2]; exact nI_nlt (by omega) (by omega)) (j_waysFor (al := none) h (by omega) hm (fun a q => by cases q) ?_))
        have b1 : f i ≤ 2 ^ 39 := by rw [hf]; exact B i
        rw [show wy I none (nv I 2 + i) m = f i by rw [hf]; rfl, nI_1, nI_1]
        have hc := cn_le f i
        have cf := cn_fz f i
        simp only [cn, fz, lz] at ih
        refine br_c (fun z => ?_) (fun z => ?_)
        · have q := (pk_lLE (b := 0) (by omega) (by omega)).mp z
          have q0 : f i = 0 := by omega
          rw [if_pos q0, if_pos q0, if_pos q0] at ih
          exact ih
        · have q : ¬ f i = 0 := fun q => z (by rw [q]; exact (pk_lLE (a := 0) (b := 0) (by omega) (by omega)).mpr (Nat.le_refl _))
          rw [if_neg q, if_neg q, if_neg q] at ih
          cases hq : fz f i with
          | none =>
            rw [hq] at ih
            have c0 := cf.mpr hq
            exact br_t (by rw [c0]; rfl) ih
          | some b =>
            rw [hq] at ih
            refine br_f (fun z2 => ?_) ih
            have c0 := neq (b := 0) z2 (by omega) (by omega)
            rw [cf.mp c0] at hq
            cases hq
    · exact j_canF h hx (bf (e_M_span (m_0t (n := 2) rfl (by omega) (by omega) (bt (m_manyF hT hx (bf (fin hI rfl kT)))))))
  · have M : mQ (C_M_span g x y) (-2) I L c := e_M_span (m_0f (n := 2) rfl (by omega) hy (bf (fin hI rfl kT)))
    refine e_J_span (br_c (fun _ => M) (fun q => br_f (fun w => ?_) M))
    have hy' := hy.resolve_left q
    rw [Int32.le_iff_toInt_le] at w hy'
    rw [nI_toInt (by omega)] at hy'
    have e : (2 : Int32).toInt = 2 := rfl
    omega
/-! what to expect -/
theorem P_expect {x y : Int32} (hI : Inv I L c) : C_J_expect g x y I L c (mQ (C_M_expect g x y)) := by
  have h : FS0 I := hI.1
  have h0 : L 25 0 = 0 := hI.2.2.2.2.2.2.2
  have hT : FM (gm_u I 59 0 0) := FM.k (FS0.m h) (kT (L := L))
  have hG := fG h
  have hLo := fLo h
  have hHi := fHi h
  have hb := gw_b (FS0.m h)
  have eW : nv I 2 + gw I = nv I 3 + 1 := by show nv I 2 + (nv I 3 - nv I 2 + 1) = _; omega
  rcases inR y 3 (by omega) with ⟨w, hw, rfl⟩ | hy
  · refine e_J_expect (br_f (nI_pos (by omega)) (br_t (nI_le (b := 2) (by omega) (by omega)) ?_))
    rcases inM x hG.2.1 with ⟨m, m4, hm, rfl⟩ | hx
    · refine j_canT h m4 hm (bt (j_weigh h h0 hm (fun L1 a1 a2 => e_Sr_total ⟨vp_in_nI (by omega) (by omega), ?_⟩)))
      have k1 := k25 h0 h a1 a2
      have tW : Int32.toNatClampNeg ((gm_u I 23 7 (nI (gw I))) 23 7) = gw I := nI_clamp (by omega)
      have hT2 : FM (gm_u (gm_u I 23 7 (nI (gw I))) 59 0 0) := FM_c (I := I) (fun _ _ => rfl) (FS0.m h)
      have h' : FS0 (gm_u I 23 7 (nI (gw I))) := FS0.k h (Keep.u (L := L) rfl)
      rw [tW, a1 _ (Nat.le_refl _)]
      have B : ∀ i, ws I none m i ≤ 2 ^ 39 := fun i => wy_B (FS0.m h) hm m4
      have S : ∀ n, n ≤ gw I → sN (ws I none m) n ≤ 2 ^ 47 := fun n hn => ws_S (FS0.m h) (al := none) hm m4 (by omega)
      obtain ⟨f, hf⟩ : ∃ f, f = ws I none m := ⟨_, rfl⟩
      rw [← hf] at a1 B S ⊢
      have SW := S (gw I) (Nat.le_refl _)
      rcases Nat.eq_zero_or_pos (sN f (gw I)) with T0 | T0
      · rw [T0]
        refine br_f (by decide) (e_M_expect (m_0t (n := 2) rfl (by omega) (by omega) (bt (m_manyT hT2 m4 hm (bt (m_lays (I0 := I) (al := none) rfl hT2 hm (fun a q => by cases q) (fun L2 b1 b2 b3 => ?_)))))))
        rw [b2, ← hf, T0]
        exact br_t rfl (fin hI rfl ((k1.tr kT).w b3))
      · have nz : ¬ lN (sN f (gw I)) = 0 := fun q => by
          have := (pk_lEQ (b := 0) (by omega) (by omega)).mp q
          omega
        obtain ⟨k, c1, c2, c3⟩ := SR_ex (fun i => ¬ 2 * sN f (i + 1) < sN f (gw I)) (gw I)
        have c2' : ∀ j, j < k → 2 * sN f (j + 1) < sN f (gw I) := fun j hj => Classical.not_not.mp (c2 j hj)
        have S2 : ∀ i, i < gw I → ((2 : Int64) * lN (sN f (i + 1)) < lN (sN f (gw I)) ↔ 2 * sN f (i + 1) < sN f (gw I)) := by
          intro i hi
          have := S (i + 1) (by omega)
          rw [show (2 : Int64) * lN (sN f (i + 1)) = lN (2 * sN f (i + 1)) from lN_mul 2 _]
          exact pk_lLT (by omega) (by omega)
        let G : Nat → Nat := fun i => f i * (nv I 2 + i)
        have M : mQ (C_M_expect g (nI m) (nI w)) (match w with | 0 => lN (sN G (gw I)) / lN (sN f (gw I)) | 1 => lN (sN G (gw I)) - lN (sN G (gw I)) / lN (sN f (gw I)) * lN (sN f (gw I)) | _ => Int32.toInt64 (if k < gw I then nI (nv I 2 + k) else -1)) (gm_u I 23 7 (nI (gw I))) L1 c := by
          refine e_M_expect (m_0t (n := 2) rfl (by omega) (by omega) (bt (m_manyT hT2 m4 hm (bt (m_lays (I0 := I) (al := none) rfl hT2 hm (fun a q => by cases q) (fun L2 b1 b2 b3 => ?_))))))
          rw [← hf] at b1 b2
          rw [b2]
          refine br_f nz ?_
          refine lp0 (P := fun i => Z_M_expect g _ 63 [(0, .ref 59), (1, .int (nI m)), (2, .int (nI w)), (3, .long (lN (sN G i))), (5, .long (lN (sN f i))), (7, .int (if k < i then nI (nv I 2 + k) else -1)), (8, .int (nI i))] [] (gm_u (gm_u I 23 7 (nI (gw I))) 59 0 0) L2 c) (gw I) ?_ ?_
          · refine r_M_expect_63 (m_gw (I0 := I) rfl hT2 (br_t (nI_le (Nat.le_refl _) (by omega)) ?_))
            rw [b2]
            match w, hw with
            | 0, _ => exact br_t rfl ⟨nz, fin hI rfl ((k1.tr kT).w b3)⟩
            | 1, _ => exact br_f (by decide) (br_t rfl ⟨nz, fin hI rfl ((k1.tr kT).w b3)⟩)
            | 2, _ => exact br_f (by decide) (br_f (by decide) (fin hI rfl ((k1.tr kT).w b3)))
          · intro i hi ih
            refine r_M_expect_63 (m_gw (I0 := I) rfl hT2 (br_f (nI_ge hi (by omega)) ⟨vp_in_nI (by omega) (by omega), vp_in_nI (by omega) (by omega), ?_⟩))
            rw [nI_clamp (by omega), b1 i hi, nI_1, b2, show (gm_u (gm_u I 23 7 (nI (gw I))) 59 0 0) 60 2 = nI (nv I 2) from hLo.1, nI_add, nI_l (by omega), lN_mul, lN_add, lN_add]
            rcases Nat.lt_or_ge k i with q | q
            · rw [show (if k < i then nI (nv I 2 + k) else -1 : Int32) = nI (nv I 2 + k) from if_pos q]
              rw [show (if k < i + 1 then nI (nv I 2 + k) else -1 : Int32) = nI (nv I 2 + k) from if_pos (by omega)] at ih
              exact br_f (nIm1 (by omega)) ih
            · rw [show (if k < i then nI (nv I 2 + k) else -1 : Int32) = -1 from if_neg (by omega)]
              refine br_t rfl (br_c (fun z => ?_) (fun z => ?_))
              · have z' := (S2 i hi).mp z
                rw [show (if k < i + 1 then nI (nv I 2 + k) else -1 : Int32) = -1 from if_neg (fun q2 => c3 (by omega) (by rw [show k = i by omega]; exact z'))] at ih
                exact ih
              · have z' : ¬ 2 * sN f (i + 1) < sN f (gw I) := fun q2 => z ((S2 i hi).mpr q2)
                have ek : k = i := by
                  rcases Nat.lt_or_ge i k with q2 | q2
                  · exact absurd (c2' i q2) z'
                  · omega
                rw [show (if k < i + 1 then nI (nv I 2 + k) else -1 : Int32) = nI (nv I 2 + i) by rw [if_pos (by omega), ek]] at ih
                exact ih
        refine br_t ((pk_lLT (a := 0) (by omega) (by omega)).mpr T0) ?_
        have half : ∀ Q : Int32 → mI → mL → gm_cfg → Prop, Q (if k < gw I then nI (nv I 2 + k) else -1) (gm_u I 23 7 (nI (gw I))) L1 c → C_Sr_halfway g (gm_u I 23 7 (nI (gw I))) L1 c Q := by
          intro Q hq
          refine e_Sr_halfway ?_
          refine lp0 (P := fun i => Z_Sr_halfway g Q 2 [(0, .ref 23), (1, .int (nI i))] [] (gm_u I 23 7 (nI (gw I))) L1 c) k ?_ ?_
          · rcases Nat.lt_or_ge k (gw I) with q | q
            · rw [if_pos q] at hq
              refine r_Sr_halfway_2 (br_f (nI_ge q (by omega)) ⟨by rw [nI_1]; exact vp_in_nI (by omega) (by omega), e_Sr_total ⟨vp_in_nI (by omega) (by omega), br_f ?_ ?_⟩⟩)
              · rw [nI_1, nI_clamp (by omega), tW, a1 _ (by omega), a1 _ (Nat.le_refl _)]
                exact fun z => c3 q ((S2 k q).mp z)
              · rw [show (gm_u I 23 7 (nI (gw I))) 16 0 = nI (nv I 2) from hLo.2.2.2, nI_add]
                exact hq
            · rw [if_neg (by omega)] at hq
              exact r_Sr_halfway_2 (br_t (nI_le (by omega) (by omega)) hq)
          · intro i hi ih
            refine r_Sr_halfway_2 (br_f (nI_ge (by omega) (by omega)) ⟨by rw [nI_1]; exact vp_in_nI (by omega) (by omega), e_Sr_total ⟨vp_in_nI (by omega) (by omega), br_t ?_ ?_⟩⟩)
            · rw [nI_1, nI_clamp (by omega), tW, a1 _ (by omega), a1 _ (Nat.le_refl _)]
              exact (S2 i (by omega)).mpr (c2' i hi)
            · rw [nI_1]; exact ih
        have wsum : ∀ Q : Int64 → mI → mL → gm_cfg → Prop, Q (lN (sN G (gw I))) (gm_u I 23 7 (nI (gw I))) L1 c → C_Sr_weightedSum g (gm_u I 23 7 (nI (gw I))) L1 c Q := by
          intro Q hq
          refine e_Sr_weightedSum ?_
          refine lp0 (P := fun i => Z_Sr_weightedSum g Q 4 [(0, .ref 23), (1, .long (lN (sN G i))), (3, .int (nI i))] [] (gm_u I 23 7 (nI (gw I))) L1 c) (gw I) ?_ ?_
          · exact r_Sr_weightedSum_4 (br_t (nI_le (Nat.le_refl _) (by omega)) hq)
          · intro i hi ih
            refine r_Sr_weightedSum_4 (br_f (nI_ge hi (by omega)) ⟨by rw [nI_1]; exact vp_in_nI (by omega) (by omega), vp_in_nI (by omega) (by omega), ?_⟩)
            rw [nI_1, nI_clamp (by omega), nI_clamp (by omega), a1 _ (by omega), a1 _ (by omega), lN_sub (show sN f i ≤ sN f (i + 1) from Nat.le_add_right _ _), show sN f (i + 1) - sN f i = f i by show sN f i + f i - sN f i = f i; omega, show (gm_u I 23 7 (nI (gw I))) 16 0 = nI (nv I 2) from hLo.2.2.2, nI_add, nI_l (by omega), lN_mul, lN_add]
            exact ih
        match w, hw with
        | 0, _ => exact br_f (by decide) (wsum _ (br_t rfl ⟨nz, M⟩))
        | 1, _ => exact br_f (by decide) (wsum _ (br_f (by decide) ⟨nz, M⟩))
        | 2, _ => exact br_t rfl (half _ M)
    · exact j_canF h hx (bf (e_M_expect (m_0t (n := 2) rfl (by omega) (by omega) (bt (m_manyF hT hx (bf (fin hI rfl kT)))))))
  · have M : mQ (C_M_expect g x y) (-2) I L c := e_M_expect (m_0f (n := 2) rfl (by omega) hy (bf (fin hI rfl kT)))
    refine e_J_expect (br_c (fun _ => M) (fun q => br_f (fun w => ?_) M))
    have hy' := hy.resolve_left q
    rw [Int32.le_iff_toInt_le] at w hy'
    rw [nI_toInt (by omega)] at hy'
    have e : (2 : Int32).toInt = 2 := rfl
    omega
/-! copied, copier -/
theorem j_copied {Q : Int64 → mI → mL → gm_cfg → Prop} {k m : Nat} (h : FS0 I) (hm : m ≤ nv I 1) (hk : k < 2 ^ 31) (hq : Q (lN (sN (ws I (some k) m) (gw I))) I L c) : C_Sr_copiedWays g (nI k) (nI m) I L c Q := by
  have hLo := fLo h
  have hHi := fHi h
  have hb := gw_b (FS0.m h)
  have eW : nv I 2 + gw I = nv I 3 + 1 := by show nv I 2 + (nv I 3 - nv I 2 + 1) = _; omega
  refine e_Sr_copiedWays ?_
  rw [hLo.2.2.2]
  refine lp0 (P := fun i => Z_Sr_copiedWays g Q 11 [(0, .ref 23), (1, .int (nI k)), (2, .int (nI m)), (3, .long (lN (sN (ws I (some k) m) i))), (5, .int (nI (nv I 2 + i)))] [] I L c) (gw I) ?_ ?_
  · exact r_Sr_copiedWays_11 (br_t (by rw [hHi.2.2.2]; exact nI_lt (by omega) (by omega)) hq)
  · intro i hi ih
    refine r_Sr_copiedWays_11 (br_f (by rw [hHi.2.2.2]; exact nI_nlt (by omega) (by omega)) (j_waysFor (al := some k) h (by omega) hm (fun a q => by cases q; exact hk) ?_))
    rw [lN_add, nI_1]
    exact ih
theorem m_copied {I0 : mI} {Q : Int64 → mI → mL → gm_cfg → Prop} {k m : Nat} (e0 : I 60 = I0 60) (h : FM I) (hm : m ≤ nv I0 1) (hk : k < 2 ^ 31) (hq : ∀ L1, KO pW L L1 → Q (lN (sN (ws I0 (some k) m) (gw I0))) I L1 c) : C_M_copiedOf g (nI k) (nI m) I L c Q := by
  refine e_M_copiedOf (m_lays (I0 := I0) (al := some k) e0 h hm (fun a q => by cases q; exact hk) (fun L1 a1 a2 a3 => ?_))
  rw [a2]
  exact hq L1 a3
theorem P_copied {x y : Int32} (hI : Inv I L c) : C_J_copied g x y I L c (mQ (C_M_copied g x y)) := by
  have h : FS0 I := hI.1
  have hT : FM (gm_u I 59 0 0) := FM.k (FS0.m h) (kT (L := L))
  have hG := fG h
  rcases inM y hG.2.1 with ⟨m, m4, hm, rfl⟩ | hy
  · refine e_J_copied (j_canT h m4 hm (bt ?_))
    rcases inR x m (by omega) with ⟨k, hk, rfl⟩ | hx
    · refine br_f (nI_pos (by omega)) (br_f (nI_ge hk (by omega)) (j_copied h hm (by omega) ?_))
      exact e_M_copied (m_manyT hT m4 hm (bt (m_nt hk (by omega) (bt (m_copied (I0 := I) rfl hT hm (by omega) (fun L1 a1 => fin hI rfl (kT.w a1)))))))
    · have M : mQ (C_M_copied g x (nI m)) (-2) I L c := e_M_copied (m_manyT hT m4 hm (bt (m_nf (by omega) hx (bf (fin hI rfl kT)))))
      exact br_c (fun _ => M) (fun z => br_t (hx.resolve_left z) M)
  · exact e_J_copied (j_canF h hy (bf (e_M_copied (m_manyF hT hy (bf (fin hI rfl kT))))))
theorem P_copier {x : Int32} (hI : Inv I L c) : C_J_copier g x I L c (mQ (C_M_copier g x)) := by
  have h : FS0 I := hI.1
  have hT : FM (gm_u I 59 0 0) := FM.k (FS0.m h) (kT (L := L))
  have hG := fG h
  have hb := gw_b (FS0.m h)
  rcases inM x hG.2.1 with ⟨m, m4, hm, rfl⟩ | hx
  · refine e_J_copier (j_canT h m4 hm (bt ?_))
    obtain ⟨f, hf⟩ : ∃ f : Nat → Nat, f = fun k => sN (ws I (some k) m) (gw I) := ⟨_, rfl⟩
    have B : ∀ k, f k ≤ 2 ^ 47 := fun k => by rw [hf]; exact ws_S (FS0.m h) hm m4 hb.2
    have fe : ∀ k, sN (ws I (some k) m) (gw I) = f k := fun k => by rw [hf]
    have M : mQ (C_M_copier g (nI m)) (oI (lk f m)) I L c := by
      refine e_M_copier (m_manyT hT m4 hm (bt ?_))
      have key := lp0 (P := fun k => ∀ L1, KO pW L L1 → Z_M_copier g (fun r' I2 L2 c2 => oI (lk f m) = r' ∧ Inv I2 L2 c2) 23 [(0, .ref 59), (1, .int (nI m)), (2, .int (oI (lk f k))), (3, .long (lN (lV f (lk f k)))), (5, .int (nI k))] [] (gm_u I 59 0 0) L1 c) m ?_ ?_
      · exact key L KO.rf
      · intro L1 a1
        exact r_M_copier_23 (br_t (nI_le (Nat.le_refl _) (by omega)) (fin hI rfl (kT.w a1)))
      · intro k hk ih L1 a1
        refine r_M_copier_23 (br_f (nI_ge hk (by omega)) (m_copied (I0 := I) rfl hT hm (by omega) (fun L2 a2 => ?_)))
        have b1 := B k
        have b2 := lV_le (f := f) (n := k) (fun j _ => B j)
        have st := lk_step (f := f) (n := k)
        rw [fe, nI_1]
        have := ih L2 (a1.tr a2)
        refine br_c (fun z => ?_) (fun z => ?_)
        · have q := (pk_lLT (by omega) (by omega)).mp z
          rw [st.2 (by omega)] at this
          exact this
        · have q : ¬ lV f (lk f k) < f k := fun q => z ((pk_lLT (by omega) (by omega)).mpr q)
          rw [st.1 (by omega)] at this
          exact this
    refine lp0 (P := fun k => Z_J_copier g (mQ (C_M_copier g (nI m))) 18 [(0, .ref 0), (1, .int (nI m)), (2, .int (oI (lk f k))), (3, .long (lN (lV f (lk f k)))), (5, .int (nI k))] [] I L c) m ?_ ?_
    · exact r_J_copier_18 (br_t (nI_le (Nat.le_refl _) (by omega)) M)
    · intro k hk ih
      refine r_J_copier_18 (br_f (nI_ge hk (by omega)) (j_copied h hm (by omega) ?_))
      have b1 := B k
      have b2 := lV_le (f := f) (n := k) (fun j _ => B j)
      have st := lk_step (f := f) (n := k)
      rw [fe, nI_1]
      refine br_c (fun z => ?_) (fun z => ?_)
      · have q := (pk_lLE (by omega) (by omega)).mp z
        rw [st.1 q] at ih
        exact ih
      · have q : ¬ f k ≤ lV f (lk f k) := fun q => z ((pk_lLE (by omega) (by omega)).mpr q)
        rw [st.2 q] at ih
        exact ih
  · exact e_J_copier (j_canF h hx (bf (e_M_copier (m_manyF hT hx (bf (fin hI rfl kT))))))
end O
