/-! who wins how much -/
theorem fz_iv {f : Nat → Nat} {a b : Nat} : ∀ n, (∀ i, i < n → (¬ f i = 0 ↔ a ≤ i ∧ i < b)) → fz f n = if a < n ∧ a < b then some a else none
  | 0, _ => by rw [if_neg (by omega)]; rfl
  | n + 1, h => by
    have ih := fz_iv (f := f) (a := a) (b := b) n (fun i hi => h i (by omega))
    have hn := h n (by omega)
    unfold fz
    by_cases q : f n = 0
    · rw [if_pos q, ih]
      have q2 : ¬ (a ≤ n ∧ n < b) := fun w => (hn.mpr w) q
      by_cases z : a < n ∧ a < b
      · rw [if_pos z, if_pos (by omega)]
      · rw [if_neg z, if_neg (by omega)]
    · rw [if_neg q, ih]
      have q2 := hn.mp q
      by_cases z : a < n ∧ a < b
      · rw [if_pos z, if_pos (by omega)]
      · rw [if_neg z, if_pos (by omega), show n = a by omega]
theorem lz_iv {f : Nat → Nat} {a b : Nat} : ∀ n, (∀ i, i < n → (¬ f i = 0 ↔ a ≤ i ∧ i < b)) → lz f n = if a < n ∧ a < b then some ((if n < b then n else b) - 1) else none
  | 0, _ => by rw [if_neg (by omega)]; rfl
  | n + 1, h => by
    have ih := lz_iv (f := f) (a := a) (b := b) n (fun i hi => h i (by omega))
    have hn := h n (by omega)
    unfold lz
    by_cases q : f n = 0
    · rw [if_pos q, ih]
      have q2 : ¬ (a ≤ n ∧ n < b) := fun w => (hn.mpr w) q
      by_cases z : a < n ∧ a < b
      · rw [if_pos z, if_pos (show a < n + 1 ∧ a < b by omega), if_neg (show ¬ n < b by omega), if_neg (show ¬ n + 1 < b by omega)]
      · rw [if_neg z, if_neg (by omega)]
    · rw [if_neg q]
      have q2 := hn.mp q
      rw [if_pos (by omega)]
      congr 1
      split <;> omega
theorem sN_1 : ∀ n, sN (fun _ => 1) n = n
  | 0 => rfl
  | n + 1 => by show sN (fun _ => 1) n + 1 = n + 1; rw [sN_1 n]
/-- the nearest distance -/
def ne (f : Nat → Nat) (t : Nat) : Nat → Nat
  | 0 => 9999
  | n + 1 => if ad (f n) t < ne f t n then ad (f n) t else ne f t n
theorem ne_le (f : Nat → Nat) (t : Nat) : ∀ n, ne f t n ≤ 9999
  | 0 => Nat.le_refl _
  | n + 1 => by
    have := ne_le f t n
    unfold ne
    split <;> omega
theorem ne_lt {f : Nat → Nat} {t x : Nat} (hx : x < 9999) : ∀ n, (x < ne f t n ↔ ∀ k, k < n → x < ad (f k) t)
  | 0 => ⟨fun _ k hk => absurd hk (by omega), fun _ => hx⟩
  | n + 1 => by
    have ih := ne_lt (f := f) (t := t) hx n
    unfold ne
    constructor
    · intro h k hk
      rcases Nat.lt_or_ge k n with q | q
      · refine ih.mp ?_ k q
        split at h <;> omega
      · rw [show k = n by omega]
        split at h <;> omega
    · intro h
      have h1 := ih.mpr (fun k hk => h k (by omega))
      have h2 := h n (by omega)
      split <;> omega
abbrev nd (I : mI) (t : Nat) : Nat := ne (nu I) t (nv I 1)
def p66 (o : Nat) : Bool := o != 66
theorem per66 (o k : Nat) (q : per o k = true) : p66 o = true := by
  by_cases e : o = 66
  · subst e; cases q
  · simp [p66, e]
def ba (a : Option Nat) (v t : Nat) : Bool := match a with
  | none => true
  | some x => decide (ad v t < ad x t)
def bb (a : Option Nat) (v t : Nat) : Bool := match a with
  | none => true
  | some x => decide (ad v t ≤ ad x t)
/-- the reference's count: what v wins behind the list, behind a, ahead of b -/
def wb (I : mI) (f : Nat → Nat) (v : Nat) (a b : Option Nat) (n : Nat) : Nat := sN (fun i => if ad v (nv I 2 + i) < nd I (nv I 2 + i) ∧ ba a v (nv I 2 + i) = true ∧ bb b v (nv I 2 + i) = true then f i else 0) n
section Wi
variable {g : gm_G} {I : mI} {L : mL} {c : gm_cfg}
theorem j_width {Q : Int32 → mI → mL → gm_cfg → Prop} {v F T : Nat} (hr : RI I v F T) (hF : F ≤ 3000) (hT : T ≤ 3000) (hq : Q (nI (T + 1 - F)) I L c) : C_Re_width g I L c Q := by
  obtain ⟨r2, r0, r1⟩ := hr
  refine e_Re_width ?_
  rw [r0, r1]
  have e : (nI T - nI F + 1 : Int32) = nI (T + 1) - nI F := by
    rw [nI_succ, Int32.sub_eq_add_neg, Int32.sub_eq_add_neg, Int32.add_assoc, Int32.add_comm (-nI F) 1, ← Int32.add_assoc]
  rw [e]
  rcases Nat.lt_or_ge (T + 1) F with q | q
  · have q2 := pk_sneg (a := T + 1) (b := F) (by omega) q
    rw [if_neg (fun w => by
      rw [Int32.lt_iff_toInt_lt] at w q2
      omega), show (0 : Int32) = nI (T + 1 - F) by rw [show T + 1 - F = 0 by omega]; rfl]
    exact hq
  · rw [pk_sub q]
    by_cases z : 0 < T + 1 - F
    · have z2 : 0 < nI (T + 1 - F) := nI_lt (a := 0) z (by omega)
      rw [if_pos z2]
      exact hq
    · have z2 : ¬ 0 < nI (T + 1 - F) := nI_nlt (a := 0) (by omega) (by omega)
      rw [if_neg z2, show (0 : Int32) = nI (T + 1 - F) by rw [show T + 1 - F = 0 by omega]; rfl]
      exact hq
theorem P_wins {x y : Int32} (hI : Inv I L c) : C_J_wins g x y I L c (mQ (C_M_wins g x y)) := by
  have h : FS0 I := hI.1
  have h0 : L 25 0 = 0 := hI.2.2.2.2.2.2.2
  have hT : FM (gm_u I 59 0 0) := FM.k (FS0.m h) (kT (L := L))
  have hG := fG h
  have hLo := fLo h
  have hHi := fHi h
  have hb := gw_b (FS0.m h)
  have eW : nv I 2 + gw I = nv I 3 + 1 := by show nv I 2 + (nv I 3 - nv I 2 + 1) = _; omega
  rcases inR x (nv I 1) (by omega) with ⟨k, hk, rfl⟩ | hx
  · refine e_J_wins (j_shT h hk (bt ?_))
    rcases inR y 4 (by omega) with ⟨w, hw, rfl⟩ | hy
    · refine br_f (nI_pos (by omega)) (br_t (nI_le (b := 3) (by omega) (by omega)) (j_reachOf h hk (fun I1 F T a1 a2 a3 => ⟨rfl, ?_⟩)))
      have k1 : Keep I L I1 L := Keep.o a2 per24
      have h1 : FS0 I1 := FS0.k h k1
      have n1 : nv I1 = nv I := nv_60 (a2 60 rfl)
      obtain ⟨s1, s2, s3, s4⟩ := a3
      let P : Nat → Prop := fun i => nr (nu I) (nv I 2 + i) (nv I 1) = some k
      have hP : ∀ i, i < gw I → (P i ↔ So I k (nv I 2 + i)) := fun i hi => by
        rw [So_iff hk]
        exact ⟨fun q => ⟨by omega, q⟩, fun q => q.2⟩
      have hPi : ∀ i, i < gw I → (P i ↔ F - nv I 2 ≤ i ∧ i < T + 1 - nv I 2) := fun i hi => by
        rw [hP i hi, ← s4]
        constructor <;> intro q <;> omega
      have hS : ∀ t, So I k t → nv I 2 ≤ t ∧ t ≤ nv I 3 := fun t q => q.1.1
      have hF : F ≤ T → nv I 2 ≤ F ∧ T ≤ nv I 3 := fun q => ⟨(hS F ((s4 F).mp ⟨Nat.le_refl _, q⟩)).1, (hS T ((s4 T).mp ⟨q, Nat.le_refl _⟩)).2⟩
      let f : Nat → Nat := fun i => if nr (nu I) (nv I 2 + i) (nv I 1) = some k then 1 else 0
      have hf : ∀ i, i < gw I → (¬ f i = 0 ↔ F - nv I 2 ≤ i ∧ i < T + 1 - nv I 2) := fun i hi => by
        rw [← hPi i hi]
        show ¬ (if nr (nu I) (nv I 2 + i) (nv I 1) = some k then 1 else 0) = 0 ↔ nr (nu I) (nv I 2 + i) (nv I 1) = some k
        split
        · rename_i q; exact ⟨fun _ => q, fun _ => by omega⟩
        · rename_i q; exact ⟨fun w => absurd rfl w, fun w => absurd w q⟩
      let G : Nat → Nat := fun i => if nr (nu I) (nv I 2 + i) (nv I 1) = some k then wt I (nv I 2 + i) else 0
      have M : ∀ (I2 : mI) (L2 : mL), Keep I L I2 L2 → mQ (C_M_wins g (nI k) (nI w)) (match w with | 0 => nI (sN f (gw I)) | 1 => oL (nv I 2) (fz f (gw I)) | 2 => oL (nv I 2) (lz f (gw I)) | _ => nI (sN G (gw I))) I2 L2 c := by
        intro I2 L2 k2
        have e60 : (gm_u I2 59 0 0) 60 = I 60 := show I2 60 = I 60 from I60_k k2
        have hT2 : FM (gm_u I2 59 0 0) := FM_c (I := I) (fun j _ => by rw [e60]) (FS0.m h)
        have n2 : nv (gm_u I2 59 0 0) = nv I := nv_60 e60
        refine e_M_wins (m_isGuessT hT2 (by rw [n2]; exact hk) (bt (m_0t (n := 3) rfl (by omega) (by omega) (bt ?_))))
        rw [show (gm_u I2 59 0 0) 60 2 = nI (nv I 2) by rw [e60]; exact hLo.1]
        refine lp0 (P := fun i => Z_M_wins g _ 47 [(0, .ref 59), (1, .int (nI k)), (2, .int (nI w)), (3, .int (nI (sN f i))), (4, .int (oL (nv I 2) (fz f i))), (5, .int (oL (nv I 2) (lz f i))), (6, .int (nI (sN G i))), (7, .int (nI (nv I 2 + i)))] [] (gm_u I2 59 0 0) L2 c) (gw I) ?_ ?_
        · refine r_M_wins_47 (br_t (by rw [show (gm_u I2 59 0 0) 60 3 = nI (nv I 3) by rw [e60]; exact hHi.1]; exact nI_lt (by omega) (by omega)) ?_)
          match w, hw with
          | 0, _ => exact br_t rfl (fin hI rfl (k2.tr kT))
          | 1, _ => exact br_f (by decide) (br_t rfl (fin hI rfl (k2.tr kT)))
          | 2, _ => exact br_f (by decide) (br_f (by decide) (br_t rfl (fin hI rfl (k2.tr kT))))
          | 3, _ => exact br_f (by decide) (br_f (by decide) (br_f (by decide) (fin hI rfl (k2.tr kT))))
        · intro i hi ih
          refine r_M_wins_47 (br_f (by rw [show (gm_u I2 59 0 0) 60 3 = nI (nv I 3) by rw [e60]; exact hHi.1]; exact nI_nlt (by omega) (by omega)) (m_near hT2 (by omega) ?_))
          rw [show nr (nu (gm_u I2 59 0 0)) (nv I 2 + i) (nv (gm_u I2 59 0 0) 1) = nr (nu I) (nv I 2 + i) (nv I 1) by unfold nu; rw [n2], nI_1]
          have ef : f i = if nr (nu I) (nv I 2 + i) (nv I 1) = some k then 1 else 0 := rfl
          have eG : G i = if nr (nu I) (nv I 2 + i) (nv I 1) = some k then wt I (nv I 2 + i) else 0 := rfl
          have ha : ∀ a, nr (nu I) (nv I 2 + i) (nv I 1) = some a → a < 2 ^ 31 := fun a q => by have := nr_lt _ _ q; omega
          have sf : sN f (i + 1) = sN f i + f i := rfl
          have sG : sN G (i + 1) = sN G i + G i := rfl
          have zf : fz f (i + 1) = if f i = 0 then fz f i else (match fz f i with | none => some i | some b => some b) := rfl
          have zl : lz f (i + 1) = if f i = 0 then lz f i else some i := rfl
          rw [sf, sG, zf, zl] at ih
          refine br_c (fun z => m_weight hT2 (by omega) ?_) (fun z => ?_)
          · have q := (oI_eq ha (by omega)).mp z.symm
            rw [if_pos q] at ef eG
            rw [ef, eG, if_neg (by omega), if_neg (by omega)] at ih
            rw [wt_60 e60, nI_1, nI_add]
            cases hq : fz f i with
            | none => rw [hq] at ih; exact br_t rfl ih
            | some d =>
              have := fz_lt _ _ hq
              rw [hq] at ih
              exact br_f (nIm1 (by omega)) ih
          · have q : ¬ nr (nu I) (nv I 2 + i) (nv I 1) = some k := fun q => z ((oI_eq ha (by omega)).mpr q).symm
            rw [if_neg q] at ef eG
            rw [ef, eG, if_pos rfl, if_pos rfl] at ih
            rw [nI_1]
            exact ih
      have c1 : sN f (gw I) = T + 1 - F := by
        have e1 := sN_if (f := fun _ => 1) (P := P) (P' := fun i => F - nv I 2 ≤ i ∧ i < T + 1 - nv I 2) (gw I) hPi
        have e2 : sN f (gw I) = sN (fun i => if P i then (fun _ => 1) i else 0) (gw I) := rfl
        rw [e2, e1, sN_iv, sN_1, sN_1]
        by_cases z : F ≤ T
        · have := hF z
          rw [show (if gw I < T + 1 - nv I 2 then gw I else T + 1 - nv I 2) = T + 1 - nv I 2 by split <;> omega, show (if gw I < F - nv I 2 then gw I else F - nv I 2) = F - nv I 2 by split <;> omega]
          omega
        · split <;> split <;> omega
      have c2 : fz f (gw I) = if F ≤ T then some (F - nv I 2) else none := by
        rw [fz_iv (gw I) hf]
        by_cases z : F ≤ T
        · have := hF z
          rw [if_pos z, if_pos (by omega)]
        · rw [if_neg z, if_neg (by omega)]
      have c3 : lz f (gw I) = if F ≤ T then some (T - nv I 2) else none := by
        rw [lz_iv (gw I) hf]
        by_cases z : F ≤ T
        · have := hF z
          rw [if_pos z, if_pos (by omega), show (if gw I < T + 1 - nv I 2 then gw I else T + 1 - nv I 2) = T + 1 - nv I 2 by split <;> omega]
          congr 1; omega
        · rw [if_neg z, if_neg (by omega)]
      match w, hw with
      | 0, _ =>
        refine br_t rfl (j_width a1 s2 s3 ?_)
        have := M I1 L k1
        rw [c1] at this
        exact this
      | 3, _ =>
        refine br_f (by decide) (br_t rfl (j_weigh (m := 0) h1 h0 (Nat.zero_le _) (fun L1 b1 b2 => ?_)))
        have g1 : gw I1 = gw I := by show nv I1 3 - nv I1 2 + 1 = _; rw [n1]
        rw [g1]
        have k3 : Keep I L (gm_u I1 23 7 (nI (gw I))) L1 := by
          have := k25 h0 h1 b1 b2
          rw [g1] at this
          exact k1.tr this
        have h3 : FS0 (gm_u I1 23 7 (nI (gw I))) := FS0.k h k3
        rw [show (gm_u I1 23 7 (nI (gw I))) 24 0 = nI F from a1.2.1, show (gm_u I1 23 7 (nI (gw I))) 24 1 = nI T from a1.2.2]
        refine j_sum (I0 := I) (f := ws I none 0) (P := P) h3 (nv_k k3) rfl (fun i hi => ?_) ⟨s1, s2, s3, s4⟩ hS hP ?_
        · rw [b1 i (by rw [g1]; exact hi), ws_60 (I60_k k1)]
        · rw [lN_i]
          exact M _ _ k3
      | 1, _ =>
        refine br_f (by decide) (br_f (by decide) (j_width a1 s2 s3 ?_))
        have := M I1 L k1
        rw [c2] at this
        refine pk_eq (T + 1 - F) 0 (fun z => ?_) (fun z => br_t rfl ?_)
        · rw [if_neg (by omega)] at this
          exact this
        · rw [a1.2.1]
          rw [if_pos (by omega)] at this
          have hF' := hF (by omega)
          simp only [oL] at this
          rw [show nv I 2 + (F - nv I 2) = F by omega] at this
          exact this
      | 2, _ =>
        refine br_f (by decide) (br_f (by decide) (j_width a1 s2 s3 ?_))
        have := M I1 L k1
        rw [c3] at this
        refine pk_eq (T + 1 - F) 0 (fun z => ?_) (fun z => br_f (by decide) ?_)
        · rw [if_neg (by omega)] at this
          exact this
        · rw [a1.2.2]
          rw [if_pos (by omega)] at this
          have hF' := hF (by omega)
          simp only [oL] at this
          rw [show nv I 2 + (T - nv I 2) = T by omega] at this
          exact this
    · have M : mQ (C_M_wins g (nI k) y) (-2) I L c := e_M_wins (m_isGuessT hT hk (bt (m_0f (n := 3) rfl (by omega) hy (bf (fin hI rfl kT)))))
      refine br_c (fun _ => M) (fun q => br_f (fun w => ?_) M)
      have hy' := hy.resolve_left q
      rw [Int32.le_iff_toInt_le] at w hy'
      rw [nI_toInt (by omega)] at hy'
      have e : (3 : Int32).toInt = 3 := rfl
      omega
  · exact e_J_wins (j_shF h hx (bf (e_M_wins (m_isGuessF hT hx (bf (fin hI rfl kT))))))
theorem P_waysOf {x y : Int32} (hI : Inv I L c) : C_J_waysOf g x y I L c (mQ (C_M_waysOf g x y)) := by
  have h : FS0 I := hI.1
  have h0 : L 25 0 = 0 := hI.2.2.2.2.2.2.2
  have hT : FM (gm_u I 59 0 0) := FM.k (FS0.m h) (kT (L := L))
  have hG := fG h
  have hLo := fLo h
  have hHi := fHi h
  have hb := gw_b (FS0.m h)
  have eW : nv I 2 + gw I = nv I 3 + 1 := by show nv I 2 + (nv I 3 - nv I 2 + 1) = _; omega
  rcases inR x (nv I 1) (by omega) with ⟨k, hk, rfl⟩ | hx
  · refine e_J_waysOf (j_shT h hk (bt ?_))
    rcases inM y hG.2.1 with ⟨m, m4, hm, rfl⟩ | hy
    · refine j_canT h m4 hm (bt (j_weigh h h0 hm (fun L1 b1 b2 => ?_)))
      have k1 := k25 h0 h b1 b2
      have h1 : FS0 (gm_u I 23 7 (nI (gw I))) := FS0.k h k1
      refine j_reachOf h1 hk (fun I1 F T a1 a2 a3 => ⟨rfl, ?_⟩)
      have k2 : Keep I L I1 L1 := k1.tr (Keep.o a2 per24)
      have h2 : FS0 I1 := FS0.k h k2
      rw [a1.2.1, a1.2.2]
      let P : Nat → Prop := fun i => nr (nu I) (nv I 2 + i) (nv I 1) = some k
      refine j_sum (I0 := I) (f := ws I none m) (P := P) h2 (nv_k k2) ?_ b1 a3 (fun t q => q.1.1) (fun i hi => ?_) ?_
      · rw [a2 23 rfl]; exact gm_u_eq _ _ _ _
      · have q := So_iff (I := gm_u I 23 7 (nI (gw I))) (k := k) (t := nv I 2 + i) hk
        exact ⟨fun w => q.mpr ⟨show nv I 2 ≤ nv I 2 + i ∧ nv I 2 + i ≤ nv I 3 by omega, w⟩, fun w => (q.mp w).2⟩
      · have e60 : (gm_u I1 59 0 0) 60 = I 60 := show I1 60 = I 60 from I60_k k2
        have hT2 : FM (gm_u I1 59 0 0) := FM_c (I := I) (fun j _ => by rw [e60]) (FS0.m h)
        have n2 : nv (gm_u I1 59 0 0) = nv I := nv_60 e60
        refine e_M_waysOf (m_isGuessT hT2 (by rw [n2]; exact hk) (bt (m_manyT hT2 m4 (by rw [n2]; exact hm) (bt (m_lays (I0 := I) (al := none) e60 hT2 hm (fun a q => by cases q) (fun L2 d1 d2 d3 => ?_))))))
        refine lp0 (P := fun i => Z_M_waysOf g _ 40 [(0, .ref 59), (1, .int (nI k)), (2, .int (nI m)), (3, .long (lN (sN (fun i => if P i then ws I none m i else 0) i))), (5, .int (nI i))] [] (gm_u I1 59 0 0) L2 c) (gw I) ?_ ?_
        · exact r_M_waysOf_40 (m_gw (I0 := I) e60 hT2 (br_t (nI_le (Nat.le_refl _) (by omega)) (fin hI rfl ((k2.tr kT).w d3))))
        · intro i hi ih
          refine r_M_waysOf_40 (m_gw (I0 := I) e60 hT2 (br_f (nI_ge hi (by omega)) ?_))
          rw [show (gm_u I1 59 0 0) 60 2 = nI (nv I 2) by rw [e60]; exact hLo.1, nI_add]
          refine m_near hT2 (by omega) ?_
          rw [show nr (nu (gm_u I1 59 0 0)) (nv I 2 + i) (nv (gm_u I1 59 0 0) 1) = nr (nu I) (nv I 2 + i) (nv I 1) by unfold nu; rw [n2], nI_1]
          have ha : ∀ a, nr (nu I) (nv I 2 + i) (nv I 1) = some a → a < 2 ^ 31 := fun a q => by have := nr_lt _ _ q; omega
          simp only [sN] at ih
          refine br_c (fun z => ⟨vp_in_nI (by omega) (by omega), ?_⟩) (fun z => ?_)
          · have q : P i := (oI_eq ha (by omega)).mp z.symm
            rw [nI_clamp (by omega), d1 i hi, lN_add]
            rw [if_pos q] at ih
            exact ih
          · have q : ¬ P i := fun q => z ((oI_eq ha (by omega)).mpr q).symm
            rw [if_neg q] at ih
            rw [Int64.add_zero]
            exact ih
    · exact j_canF h hy (bf (e_M_waysOf (m_isGuessT hT hk (bt (m_manyF hT hy (bf (fin hI rfl kT)))))))
  · exact e_J_waysOf (j_shF h hx (bf (e_M_waysOf (m_isGuessF hT hx (bf (fin hI rfl kT))))))
theorem P_shutIn {x y : Int32} (hI : Inv I L c) : C_J_shutIn g x y I L c (mQ (C_M_shutIn g x y)) := by
  have h : FS0 I := hI.1
  have hT : FM (gm_u I 59 0 0) := FM.k (FS0.m h) (kT (L := L))
  have hG := fG h
  have hLo := fLo h
  have hHi := fHi h
  rcases inR x (nv I 1) (by omega) with ⟨k, hk, rfl⟩ | hx
  · refine e_J_shutIn (j_shT h hk (bt ?_))
    have hn := fNu h hk
    rcases inM y hG.2.1 with ⟨m, m4, hm, rfl⟩ | hy
    · refine j_canT h m4 hm (bt ⟨vp_in_nI (by omega) (by omega), ?_⟩)
      rw [nI_clamp (by omega), hn.1.2.2]
      have M : ∀ v : Int64, (∀ (L1 : mL) (Q : Int64 → mI → mL → gm_cfg → Prop), (∀ i, i < gw I → L1 65 i = lN (ws I none m i)) → Q v (gm_u I 59 0 0) L1 c → C_M_isGrid g (nI (nv I (69 + k))) (gm_u I 59 0 0) L1 c (fun b19 I16 L17 c18 => ((b19 = false → Q 0 I16 L17 c18) ∧ (b19 = true → (C_M_leaderFor g (nI (nv I (69 + k))) I16 L17 c18 (fun r23 I20 L21 c22 => ((r23 = nI k → (vp_in (nI (nv I (69 + k)) - (I20 60 2)) 200 ∧ Q (L21 65 (Int32.toNatClampNeg (nI (nv I (69 + k)) - (I20 60 2)))) I20 L21 c22)) ∧ (¬ r23 = nI k → Q 0 I20 L21 c22))))))) ) → mQ (C_M_shutIn g (nI k) (nI m)) v I L c := by
        intro v hv
        exact e_M_shutIn (m_isGuessT hT hk (bt (m_manyT hT m4 hm (bt (m_lays (I0 := I) (al := none) rfl hT hm (fun a q => by cases q) (fun L1 a1 a2 a3 => m_numberOf hT hk (hv L1 (fun r' I2 L2 c2 => v = r' ∧ Inv I2 L2 c2) a1 (fin hI rfl (kT.w a3)))))))))
      by_cases z : nv I 2 ≤ nv I (69 + k) ∧ nv I (69 + k) ≤ nv I 3
      · refine j_spT h z.1 z.2 (bt ?_)
        refine j_near h (by omega) ?_
        have ha : ∀ a, nr (nu I) (nv I (69 + k)) (nv I 1) = some a → a < 2 ^ 31 := fun a q => by have := nr_lt _ _ q; omega
        refine br_c (fun w => ?_) (fun w => ?_)
        · refine j_waysFor (al := none) h (by omega) hm (fun a q => by cases q) (M _ (fun L1 Q a1 hq => m_grT hT z.1 z.2 (bt (m_near hT (by omega) (br_t w ⟨?_, ?_⟩)))))
          · rw [show (gm_u I 59 0 0) 60 2 = nI (nv I 2) from hLo.1, pk_sub z.1]
            exact vp_in_nI (by omega) (by omega)
          · rw [show (gm_u I 59 0 0) 60 2 = nI (nv I 2) from hLo.1, pk_sub z.1, nI_clamp (by omega), a1 _ (show nv I (69 + k) - nv I 2 < nv I 3 - nv I 2 + 1 by omega)]
            show Q (lN (wy I none (nv I 2 + (nv I (69 + k) - nv I 2)) m)) _ _ _
            rw [show nv I 2 + (nv I (69 + k) - nv I 2) = nv I (69 + k) by omega]
            exact hq
        · exact M 0 (fun L1 Q a1 hq => m_grT hT z.1 z.2 (bt (m_near hT (by omega) (br_f w hq))))
      · have z' : nI (nv I (69 + k)) < nI (nv I 2) ∨ nI (nv I 3) < nI (nv I (69 + k)) := by
          rcases Nat.lt_or_ge (nv I (69 + k)) (nv I 2) with q | q
          · exact Or.inl (nI_lt q (by omega))
          · exact Or.inr (nI_lt (by omega) (by omega))
        exact j_spF h z' (bf (M 0 (fun L1 Q a1 hq => m_grF hT z' (bf hq))))
    · exact j_canF h hy (bf (e_M_shutIn (m_isGuessT hT hk (bt (m_manyF hT hy (bf (fin hI rfl kT)))))))
  · exact e_J_shutIn (j_shF h hx (bf (e_M_shutIn (m_isGuessF hT hx (bf (fin hI rfl kT))))))
/-! the reference's nearest distances, and what a number wins behind the list -/
theorem m_offe {Q : Int32 → mI → mL → gm_cfg → Prop} {a b : Nat} {x : Int32} (e : x = nI b) (ha : a < 2 ^ 30) (hb : b < 2 ^ 30) (hq : Q (nI (ad a b)) I L c) : C_M_off g (nI a) x I L c Q := by
  rw [e]; exact m_off ha hb hq
theorem m_laysNear {I0 : mI} {Q : mI → mL → gm_cfg → Prop} (e0 : I 60 = I0 60) (h : FM I0) (hq : ∀ I1 : mI, (∀ i, i < gw I0 → I1 66 i = nI (nd I0 (nv I0 2 + i))) → KO p66 I I1 → Q I1 L c) : C_M_laysNear g I L c Q := by
  have hG := gG h
  have hLo := gLo h
  have hHi := gHi h
  have hb := gw_b h
  have FMi : ∀ I1 : mI, KO p66 I I1 → FM I1 ∧ I1 60 = I0 60 ∧ nv I1 = nv I0 := fun I1 q => by
    have e : I1 60 = I0 60 := (q 60 rfl).trans e0
    exact ⟨FM_c (I := I0) (fun j _ => by rw [e]) h, e, nv_60 e⟩
  refine e_M_laysNear ?_
  have key := lp0 (P := fun i => ∀ I1 : mI, (∀ j, j < i → I1 66 j = nI (nd I0 (nv I0 2 + j))) → KO p66 I I1 → Z_M_laysNear g Q 2 [(0, .ref 59), (1, .int (nI i))] [] I1 L c) (gw I0) ?_ ?_
  · exact key I (fun j hj => absurd hj (by omega)) KO.rf
  · intro I1 a1 a2
    obtain ⟨f1, f2, f3⟩ := FMi I1 a2
    exact r_M_laysNear_2 (m_gw (I0 := I0) f2 f1 (br_t (nI_le (Nat.le_refl _) (by omega)) (hq I1 a1 a2)))
  · intro i hi ih I1 a1 a2
    obtain ⟨f1, f2, f3⟩ := FMi I1 a2
    have ti : nv I0 2 + i < 2 ^ 20 := by omega
    have v200 : vp_in (nI i) 200 := vp_in_nI (by omega) (by omega)
    have T : Int32.toNatClampNeg (nI i) = i := nI_clamp (by omega)
    refine r_M_laysNear_2 (m_gw (I0 := I0) f2 f1 (br_f (nI_ge hi (by omega)) ⟨v200, ?_⟩))
    rw [T]
    have key2 := lp0 (P := fun k => ∀ I2 : mI, (∀ j, j < i → I2 66 j = nI (nd I0 (nv I0 2 + j))) → I2 66 i = nI (ne (nu I0) (nv I0 2 + i) k) → KO p66 I I2 → Z_M_laysNear g Q 21 [(0, .ref 59), (1, .int (nI i)), (2, .int (nI k))] [] I2 L c) (nv I0 1) ?_ ?_
    · refine key2 _ (fun j hj => ?_) (gm_u_eq _ _ _ _) (KO.u rfl a2)
      rw [gm_u_ne2 _ _ _ _ (by omega)]; exact a1 j hj
    · intro I2 b1 b2 b3
      obtain ⟨g1, g2, g3⟩ := FMi I2 b3
      refine r_M_laysNear_21 (br_t ?_ ?_)
      · rw [g2, hG.1]; exact nI_le (Nat.le_refl _) (by omega)
      · rw [nI_1]
        refine ih I2 (fun j hj => ?_) b3
        rcases Nat.lt_or_ge j i with q | q
        · exact b1 j q
        · rw [show j = i by omega]; exact b2
    · intro k hk ih2 I2 b1 b2 b3
      obtain ⟨g1, g2, g3⟩ := FMi I2 b3
      have hnu : nu I0 k ≤ 2000 := (gNu h hk).1.2.1
      have e2 : I2 60 2 = nI (nv I0 2) := by rw [g2]; exact hLo.1
      have hne := ne_le (nu I0) (nv I0 2 + i) k
      have hk2 : k < nv I2 1 := by rw [g3]; exact hk
      refine r_M_laysNear_21 (br_f (by rw [g2, hG.1]; exact nI_ge hk (by omega)) (m_numberOf g1 hk2 ?_))
      rw [e2, nI_add, g3]
      have had : ad (nu I0 k) (nv I0 2 + i) < 2 ^ 30 := by unfold ad; omega
      refine m_off (a := nu I0 k) (by omega) (by omega) ⟨v200, ?_⟩
      rw [T, b2]
      simp only [ne] at ih2
      refine br_c (fun z => ⟨v200, v200, ?_⟩) (fun z => m_numberOf g1 hk2 ?_)
      · have q := nle (b := ad (nu I0 k) (nv I0 2 + i)) z (by omega) (by omega)
        rw [nI_1]
        refine ih2 _ (fun j hj => ?_) ?_ (KO.u rfl b3)
        · rw [gm_u_ne2 _ _ _ _ (by omega)]; exact b1 j hj
        · rw [gm_u_eq, if_neg (by omega)]
      · have q := nnle (b := ad (nu I0 k) (nv I0 2 + i)) z (by omega)
        rw [e2, nI_add, g3]
        refine m_off (a := nu I0 k) (by omega) (by omega) ⟨v200, ?_⟩
        rw [nI_1]
        refine ih2 _ (fun j hj => ?_) ?_ (KO.u rfl b3)
        · rw [gm_u_ne2 _ _ _ _ (by omega)]; exact b1 j hj
        · rw [gm_u_eq, if_pos q]
theorem m_waysBy {I0 : mI} {Q : Int64 → mI → mL → gm_cfg → Prop} {v : Nat} {a b : Option Nat} {f : Nat → Nat} (e0 : I 60 = I0 60) (h : FM I0) (hv : v ≤ 2000) (ha : ∀ x, a = some x → x ≤ 2000) (hb : ∀ x, b = some x → x ≤ 2000) (h66 : ∀ i, i < gw I0 → I 66 i = nI (nd I0 (nv I0 2 + i))) (h65 : ∀ i, i < gw I0 → L 65 i = lN (f i)) (hq : Q (lN (wb I0 f v a b (gw I0))) I L c) : C_M_waysBy g (nI v) (oI a) (oI b) I L c Q := by
  have hLo := gLo h
  have hHi := gHi h
  have hB := gw_b h
  have f1 : FM I := FM_c (I := I0) (fun j _ => by rw [e0]) h
  have e2 : I 60 2 = nI (nv I0 2) := by rw [e0]; exact hLo.1
  refine e_M_waysBy ?_
  refine lp0 (P := fun i => Z_M_waysBy g Q 6 [(0, .ref 59), (1, .int (nI v)), (2, .int (oI a)), (3, .int (oI b)), (4, .long (lN (wb I0 f v a b i))), (6, .int (nI i))] [] I L c) (gw I0) ?_ ?_
  · exact r_M_waysBy_6 (m_gw (I0 := I0) e0 f1 (br_t (nI_le (Nat.le_refl _) (by omega)) hq))
  · intro i hi ih
    have v200 : vp_in (nI i) 200 := vp_in_nI (by omega) (by omega)
    have T : Int32.toNatClampNeg (nI i) = i := nI_clamp (by omega)
    have hne : nd I0 (nv I0 2 + i) ≤ 9999 := ne_le _ _ _
    have E : I 60 2 + nI i = nI (nv I0 2 + i) := by rw [e2, nI_add]
    have had : ad v (nv I0 2 + i) < 2 ^ 30 := by unfold ad; omega
    refine r_M_waysBy_6 (m_gw (I0 := I0) e0 f1 (br_f (nI_ge hi (by omega)) ?_))
    refine m_offe (a := v) E (by omega) (by omega) ⟨v200, ?_⟩
    rw [T, h66 i hi, nI_1]
    have st : wb I0 f v a b (i + 1) = wb I0 f v a b i + (if ad v (nv I0 2 + i) < nd I0 (nv I0 2 + i) ∧ ba a v (nv I0 2 + i) = true ∧ bb b v (nv I0 2 + i) = true then f i else 0) := rfl
    rw [st] at ih
    refine br_c (fun z => ?_) (fun z => ?_)
    · have q := nle (b := ad v (nv I0 2 + i)) z (by omega) (by omega)
      rw [if_neg (fun w => by omega)] at ih
      exact ih
    · have q := nnle (b := ad v (nv I0 2 + i)) z (by omega)
      cases a with
      | none =>
        refine br_t rfl ?_
        cases b with
        | none =>
          refine br_t rfl ⟨v200, ?_⟩
          rw [h65 i hi, lN_add]
          rw [if_pos ⟨q, rfl, rfl⟩] at ih
          exact ih
        | some y =>
          have hy := hb y rfl
          have had2 : ad y (nv I0 2 + i) < 2 ^ 30 := by unfold ad; omega
          refine br_f (nIm1 (by omega)) (m_offe (a := y) E (by omega) (by omega) (br_c (fun w => ⟨v200, ?_⟩) (fun w => ?_)))
          · have w' := nle (a := ad v (nv I0 2 + i)) (b := ad y (nv I0 2 + i)) w (by omega) (by omega)
            rw [h65 i hi, lN_add]
            rw [if_pos ⟨q, rfl, decide_eq_true w'⟩] at ih
            exact ih
          · have w' := nnle (a := ad v (nv I0 2 + i)) (b := ad y (nv I0 2 + i)) w (by omega)
            rw [if_neg (fun u => by have := of_decide_eq_true u.2.2; omega)] at ih
            exact ih
      | some x =>
        have hx := ha x rfl
        have had1 : ad x (nv I0 2 + i) < 2 ^ 30 := by unfold ad; omega
        refine br_f (nIm1 (by omega)) (m_offe (a := x) E (by omega) (by omega) (br_c (fun w => ?_) (fun w => ?_)))
        · have w' := nle (a := ad x (nv I0 2 + i)) (b := ad v (nv I0 2 + i)) w (by omega) (by omega)
          rw [if_neg (fun u => by have := of_decide_eq_true u.2.1; omega)] at ih
          exact ih
        · have w' := nnle (a := ad x (nv I0 2 + i)) (b := ad v (nv I0 2 + i)) w (by omega)
          cases b with
          | none =>
            refine br_t rfl ⟨v200, ?_⟩
            rw [h65 i hi, lN_add]
            rw [if_pos ⟨q, decide_eq_true w', rfl⟩] at ih
            exact ih
          | some y =>
            have hy := hb y rfl
            have had2 : ad y (nv I0 2 + i) < 2 ^ 30 := by unfold ad; omega
            refine br_f (nIm1 (by omega)) (m_offe (a := y) E (by omega) (by omega) (br_c (fun w2 => ⟨v200, ?_⟩) (fun w2 => ?_)))
            · have w2' := nle (a := ad v (nv I0 2 + i)) (b := ad y (nv I0 2 + i)) w2 (by omega) (by omega)
              rw [h65 i hi, lN_add]
              rw [if_pos ⟨q, decide_eq_true w', decide_eq_true w2'⟩] at ih
              exact ih
            · have w2' := nnle (a := ad v (nv I0 2 + i)) (b := ad y (nv I0 2 + i)) w2 (by omega)
              rw [if_neg (fun u => by have := of_decide_eq_true u.2.2; omega)] at ih
              exact ih
theorem m_allT {I0 : mI} {Q : Bool → mI → mL → gm_cfg → Prop} {m : Nat} (e0 : I 60 = I0 60) (h : FM I0) (m4 : m ≤ 4) (hm : m ≤ nv I0 1) (hq : ∀ (I1 : mI) (L1 : mL), (∀ i, i < gw I0 → I1 66 i = nI (nd I0 (nv I0 2 + i))) → (∀ i, i < gw I0 → L1 65 i = lN (ws I0 none m i)) → L1 59 19 = lN (sN (ws I0 none m) (gw I0)) → KO p66 I I1 → KO pW L L1 → Q true I1 L1 c) : C_M_laysAll g (nI m) I L c Q := by
  have f1 : FM I := FM_c (I := I0) (fun j _ => by rw [e0]) h
  have n1 : nv I = nv I0 := nv_60 e0
  exact e_M_laysAll (m_manyT f1 m4 (by rw [n1]; exact hm) (bt (m_lays (I0 := I0) (al := none) e0 f1 hm (fun a q => by cases q) (fun L1 a1 a2 a3 => m_laysNear (I0 := I0) e0 h (fun I1 b1 b2 => hq I1 L1 b1 a1 a2 b2 a3)))))
theorem m_allF {Q : Bool → mI → mL → gm_cfg → Prop} {x : Int32} (h : FM I) (hx : x < 0 ∨ 4 < x ∨ nI (nv I 1) < x) (hq : Q false I L c) : C_M_laysAll g x I L c Q := e_M_laysAll (m_manyF h hx (bf hq))
theorem Sb_iff {v i : Nat} (h : FM I) (hv : v ≤ 2000) (hi : i < gw I) : (ad v (nv I 2 + i) < nd I (nv I 2 + i)) ↔ Sb I v (nv I 1) (nv I 2 + i) := by
  have hLo := gLo h
  have hHi := gHi h
  have eW : nv I 2 + gw I = nv I 3 + 1 := by show nv I 2 + (nv I 3 - nv I 2 + 1) = _; omega
  rw [ne_lt (by unfold ad; omega)]
  exact ⟨fun q => ⟨by omega, q⟩, fun q => q.2⟩
theorem P_chance {x y : Int32} (hI : Inv I L c) : C_J_chance g x y I L c (mQ (C_M_chance g x y)) := by
  have h : FS0 I := hI.1
  have h0 : L 25 0 = 0 := hI.2.2.2.2.2.2.2
  have hT : FM (gm_u I 59 0 0) := FM.k (FS0.m h) (kT (L := L))
  have hG := fG h
  have hb := gw_b (FS0.m h)
  rcases inAB x 0 2000 (by omega) (by omega) with ⟨v, -, hv, rfl⟩ | hx
  · refine e_J_chance (j_isNumT hv (bt ?_))
    rcases inM y hG.2.1 with ⟨m, m4, hm, rfl⟩ | hy
    · refine j_canT h m4 hm (bt (j_weigh h h0 hm (fun L1 b1 b2 => ?_)))
      have k1 := k25 h0 h b1 b2
      have h1 : FS0 (gm_u I 23 7 (nI (gw I))) := FS0.k h k1
      rw [show (gm_u I 23 7 (nI (gw I))) 20 2 = nI (nv I 1) from hG.2.2]
      refine j_behind h1 hv (Nat.le_refl _) (fun I1 F T a1 a2 a3 => ⟨rfl, ?_⟩)
      have k2 : Keep I L I1 L1 := k1.tr (Keep.o a2 per24)
      have h2 : FS0 I1 := FS0.k h k2
      have e60 : (gm_u I1 59 0 0) 60 = I 60 := show I1 60 = I 60 from I60_k k2
      rw [a1.2.1, a1.2.2]
      refine j_sum (I0 := I) (f := ws I none m) (P := fun i => ad v (nv I 2 + i) < nd I (nv I 2 + i) ∧ ba none v (nv I 2 + i) = true ∧ bb none v (nv I 2 + i) = true) h2 (nv_k k2) ?_ b1 a3 (fun t q => q.1) (fun i hi => ?_) ?_
      · rw [a2 23 rfl]; exact gm_u_eq _ _ _ _
      · have q := Sb_iff (FS0.m h) hv hi
        exact ⟨fun w => q.mp w.1, fun w => ⟨q.mpr w, rfl, rfl⟩⟩
      · refine e_M_chance (m_0t (n := 2000) rfl (by omega) hv (bt (m_allT (I0 := I) e60 (FS0.m h) m4 hm (fun I2 L2 d1 d2 d3 d4 d5 => bt ?_))))
        refine m_waysBy (I0 := I) (a := none) (b := none) (f := ws I none m) ((d4 60 rfl).trans e60) (FS0.m h) hv (fun x q => by cases q) (fun x q => by cases q) d1 d2 (fin hI rfl ?_)
        exact (((k2.tr kT).tr (Keep.o d4 per66))).w d5
    · exact j_canF h hy (bf (e_M_chance (m_0t (n := 2000) rfl (by omega) hv (bt (m_allF hT hy (bf (fin hI rfl kT)))))))
  · exact e_J_chance (j_isNumF hx (bf (e_M_chance (m_wf (a := 0) (b := 2000) rfl rfl (by omega) (by omega) hx (bf (fin hI rfl kT))))))
end Wi
