/-! some fetes at once -/
theorem cW_c {I0 I1 : mI} (e : ∀ k, k < 29 → k ≠ 1 → k ≠ 7 → nv I1 k = nv I0 k) (x : Int32) : cW I1 x = cW I0 x := by unfold cW; rw [e 0 (by omega) (by omega) (by omega)]
section Fc
variable {I0 I1 : mI} {hd : Nat}
theorem cPX_c (e : ∀ k, k < 29 → k ≠ 1 → k ≠ 7 → nv I1 k = nv I0 k) (h6 : nv I0 0 ≤ 6) (hN : 0 < nv I0 0) (x : Int32) (n : Nat) (f : Nat → Nat) : cX I1 hd x n = cX I0 hd x n ∧ cV I1 hd x n f = cV I0 hd x n f := by
  have w1 := cW_c e x
  have w2 : cW I0 x < nv I0 0 := Nat.mod_lt _ hN
  have p1 : cP I1 hd x n = cP I0 hd x n := by unfold cP; rw [w1, e (23 + cW I0 x) (by omega) (by omega) (by omega)]
  constructor
  · unfold cX; rw [p1]
  · unfold cV; rw [p1, w1, e (17 + cW I0 x) (by omega) (by omega) (by omega)]
    show (if _ then _ else cL (nv I1 6 * nv I1 (11 + cW I0 x) / 100 + _ - _)) = _
    rw [e 6 (by omega) (by omega) (by omega), e (11 + cW I0 x) (by omega) (by omega) (by omega)]
theorem tr_c (e : ∀ k, k < 29 → k ≠ 1 → k ≠ 7 → nv I1 k = nv I0 k) (h6 : nv I0 0 ≤ 6) (hN : 0 < nv I0 0) (n0 : Nat) (s : Int32 × (Nat → Nat) × (Nat → Nat)) : ∀ i, tr I1 hd n0 s i = tr I0 hd n0 s i
  | 0 => rfl
  | i + 1 => by
    have ih := tr_c e h6 hN n0 s i
    show (_, _, _) = (_, _, _)
    rw [ih, (cPX_c e h6 hN _ _ (fun _ => 0)).1, (cPX_c e h6 hN _ _ _).2, cW_c e]
end Fc
/-- the draw before the k-th fete; what is told of it -/
def sd (I0 : mI) (hd m : Nat) (x : Int32) : Nat → Int32
  | 0 => x
  | k + 1 => (tr I0 hd 0 (sd I0 hd m x k, fun _ => 0, fun _ => 0) m).1
def lf (I0 : mI) (hd m : Nat) (x : Int32) (k : Nat) : Nat → Nat := (tr I0 hd 0 (sd I0 hd m x k, fun _ => 0, fun _ => 0) m).2.1
def lh (I0 : mI) (hd m : Nat) (x : Int32) (k : Nat) : Nat → Nat := (tr I0 hd 0 (sd I0 hd m x k, fun _ => 0, fun _ => 0) m).2.2
def d1 (f : Nat → Nat) (m j : Nat) : Nat := ad (sN f m / m) j
def d2 (f : Nat → Nat) (m j : Nat) : Nat := match nr f j m with | none => 0 | some b => ad (f b) j
def d3 (f : Nat → Nat) (m j : Nat) : Nat := if d2 f m j ≤ d1 f m j then 0 else 1
def dv (w : Nat) (f : Nat → Nat) (m j : Nat) : Nat := match w with | 0 => d1 f m j | 1 => d2 f m j | _ => d3 f m j
theorem ad_lt {a b : Nat} (ha : a ≤ 2000) (hb : b ≤ 2000) : ad a b < 2 ^ 30 := by unfold ad; omega
section Ft
variable {g : gm_G} {I : mI} {L : mL} {c : gm_cfg} {I0 : mI}
theorem s_near7 {Q : Int32 → mI → mL → gm_cfg → Prop} {n t : Nat} {f h : Nat → Nat} (e : SE7 I n f h) (hn : n ≤ 40) (ht : t < 2 ^ 20) (hf : ∀ k, k < n → f k ≤ 2000) (hq : Q (oI (nr f t n)) I L c) : C_Sh7_nearestTo g (nI t) I L c Q := by
  refine e_Sh7_nearestTo ?_
  refine lp0 (P := fun k => Z_Sh7_nearestTo g Q 7 [(0, .ref 7), (1, .int (nI t)), (2, .int (oI (nr f t k))), (3, .int (match nr f t k with | none => 0 | some b => nI (ad (f b) t))), (4, .int (nI k))] [] I L c) n ?_ ?_
  · exact r_Sh7_nearestTo_7 (br_t (by rw [e.1]; exact nI_le (Nat.le_refl _) (by omega)) hq)
  · intro k hk ih
    have hk2 := hf k hk
    have e1 : (if 0 ≤ (nI (f k) - nI t) then (nI (f k) - nI t) else 0 - (nI (f k) - nI t) : Int32) = nI (ad (f k) t) := ad_abs (by omega) (by omega)
    refine r_Sh7_nearestTo_7 (br_f (by rw [e.1]; exact nI_ge hk (by omega)) ⟨vp_in_nI (by omega) (by omega), ?_⟩)
    rw [nI_clamp (by omega), (e.2 k hk).1, e1, nI_1]
    have hd1 : ad (f k) t < 2 ^ 30 := by unfold ad; omega
    show _ ∧ _
    simp only [nr] at ih
    cases hb : nr f t k with
    | none =>
      rw [hb] at ih
      exact br_t rfl ih
    | some b =>
      rw [hb] at ih
      have hbk := nr_lt _ _ hb
      have hb2 := hf b (by omega)
      have hd2 : ad (f b) t < 2 ^ 30 := by unfold ad; omega
      refine br_f (nIm1 (by omega)) (br_c (fun z => ?_) (fun z => ?_))
      · have := nle z (by omega) (by omega)
        simp only [if_neg (Nat.not_lt.mpr this)] at ih
        exact ih
      · have := nnle z (by omega)
        simp only [if_pos this] at ih
        exact ih
theorem j_told {Q : Int32 → mI → mL → gm_cfg → Prop} {w m : Nat} {f h : Nat → Nat} (h0 : FS0 I0) (fe : FE I0 I) (hw : w < 3) (hm : 1 ≤ m) (hn : m ≤ 40) (e : SE7 I m f h) (hf : ∀ k, k < m → f k ≤ 2000) (hq : Q (nI (dv w f m (nv I0 6))) I L c) : C_J_toldOfTrial g (nI w) I L c Q := by
  have hJ := fJr h0
  have e12 : I 16 12 = nI (nv I0 6) := by rw [fe.1]; exact hJ.2.2
  have sb := sN_le (f := f) (B := 2000) m hf
  have hm2 : m * 2000 ≤ 40 * 2000 := Nat.mul_le_mul_right _ hn
  have mb : sN f m / m ≤ 2000 := Nat.div_le_of_le_mul sb
  obtain ⟨b, hb⟩ := nr_some (f := f) (t := nv I0 6) m hm
  have hbl := nr_lt _ _ hb
  have hfb := hf b hbl
  refine e_J_toldOfTrial ?_
  rw [e12]
  refine s_near7 e hn (by omega) hf ?_
  rw [hb, e.1]
  refine e_Sh7_meanOf (br_f (nI_nle hm (by omega)) (s_sum7 e hn ⟨nI_ne0 hm (by omega), ?_⟩))
  rw [pk_div (by omega) hm (by omega)]
  refine e_J_offJar ?_
  rw [e12, ad_abs (by omega) (by omega)]
  refine e_Sh7_has (br_f (nI_pos (n := b) (by omega)) (br_f (by rw [e.1]; exact nI_ge hbl (by omega)) (br_f (nI_ge (a := b) (b := 40) (by omega) (by omega)) (bt ⟨vp_in_nI (n := b) (by omega) (by omega), ?_⟩))))
  rw [show Int32.toNatClampNeg (oI (some b)) = b from nI_clamp (by omega), (e.2 b hbl).1]
  refine e_J_offJar ?_
  rw [e12, ad_abs (by omega) (by omega)]
  have e2 : d2 f m (nv I0 6) = ad (f b) (nv I0 6) := by unfold d2; rw [hb]
  have a1 : ad (sN f m / m) (nv I0 6) < 2 ^ 30 := ad_lt mb (by omega)
  have a2 : ad (f b) (nv I0 6) < 2 ^ 30 := by unfold ad; omega
  match w, hw with
  | 0, _ => exact br_t rfl hq
  | 1, _ =>
    refine br_f (by decide) (br_t rfl ?_)
    have hq' : Q (nI (d2 f m (nv I0 6))) I L c := hq
    rw [e2] at hq'
    exact hq'
  | 2, _ =>
    have hq' : Q (nI (d3 f m (nv I0 6))) I L c := hq
    unfold d3 d1 at hq'
    rw [e2] at hq'
    refine br_f (by decide) (br_f (by decide) (pk_le (ad (f b) (nv I0 6)) (ad (sN f m / m) (nv I0 6)) (fun z => ?_) (fun z => ?_)))
    · rw [if_pos z] at hq'; exact hq'
    · rw [if_neg (by omega)] at hq'; exact hq'
theorem SE7_cut {Q : mI → mL → gm_cfg → Prop} (hs : SZ I) (hq : ∀ I' : mI, I' 7 2 = 0 → KO (fun o => o != 7) I I' → Q I' L c) : C_Sh7_cutTo g 0 I L c Q := by
  obtain ⟨k, k1, k2⟩ := hs
  refine e_Sh7_cutTo (br_f (by decide) (br_c (fun z => ?_) (fun z => ?_)))
  · rw [k2] at z
    have := nle (b := 0) z (by omega) (by omega)
    exact hq I (by rw [k2, show k = 0 by omega]; rfl) KO.rf
  · exact hq _ (gm_u_eq _ _ _ _) (KO.u rfl KO.rf)
theorem P_fetes {x y z v w : Int32} (hI : Inv I L c) : C_J_fetes g x y z v w I L c (mQ (C_M_fetes g x y z v w)) := by
  have h : FS0 I := hI.1
  have hm0 := FS0.m h
  have hT : FM (gm_u I 59 0 0) := FM.k hm0 (kT (L := L))
  have hN := fN h
  have hJ := fJr h
  rcases inR w 3 (by omega) with ⟨u, hu, rfl⟩ | hw
  · refine e_J_fetes (br_f (nI_pos (by omega)) (br_t (nI_le (b := 2) (by omega) (by omega)) ?_))
    rcases inAB y 1 40 (by omega) (by omega) with ⟨n, n1, n2, rfl⟩ | hy
    · refine br_f (nI_nlt (b := 1) n1 (by omega)) (br_f (nI_nlt (a := 40) n2 (by omega)) ?_)
      rcases inAB z 1 30 (by omega) (by omega) with ⟨m, m1, m2, rfl⟩ | hz
      · refine br_f (nI_nlt (b := 1) m1 (by omega)) (br_t (nI_le (b := 30) m2 (by omega)) ?_)
        have M5 : (nv I 0 = 0 ∨ nv I 6 = 0) → mQ (C_M_fetes g x (nI n) (nI m) v (nI u)) (-5) I L c := by
          intro q
          refine e_M_fetes (m_0t (n := 2) rfl (by omega) (by omega) (bt (m_wt (a := 1) (b := 40) rfl rfl n1 n2 (by omega) (bt (m_wt (a := 1) (b := 30) rfl rfl m1 m2 (by omega) (bt ?_))))))
          rcases Nat.eq_zero_or_pos (nv I 0) with z | z
          · exact br_t (show I 60 0 = 0 by rw [hN.1, z]; rfl) (fin hI rfl kT)
          · exact br_f (show ¬ I 60 0 = 0 by rw [hN.1]; exact nI_ne0 z (by omega)) (br_t (show I 60 6 = 0 by rw [hJ.1, show nv I 6 = 0 by omega]; rfl) (fin hI rfl kT))
        refine e_J_canDraw ?_
        rw [hN.2.2, hJ.2.2]
        rcases Nat.eq_zero_or_pos (nv I 0) with z | z
        · rw [z]
          exact br_t (by decide) (bf (M5 (Or.inl z)))
        · refine br_f (nI_nle z (by omega)) (pk_eq (nv I 6) 0 (fun z2 => bf (M5 (Or.inr z2))) (fun z2 => bt (e_Dr_start ?_)))
          obtain ⟨hd, ehd⟩ : ∃ hd : Nat, hd = if v = 0 then 1 else 0 := ⟨_, rfl⟩
          have hd1 : hd ≤ 1 := by rw [ehd]; split <;> omega
          have bd : ∀ k j, j < m → lf I hd m x k j ≤ 2000 ∧ lh I hd m x k j < nv I 0 := fun k j hj => tr_b (hd := hd) (n0 := 0) (s := (sd I hd m x k, fun _ => 0, fun _ => 0)) z (fun q hq => absurd hq (by omega)) m j (by omega)
          let V : Nat → Nat → Nat := fun u k => dv u (lf I hd m x k) m (nv I 6)
          have M : ∀ I1 : mI, (∀ o k, o ≠ 7 → per o k = true → I1 o k = I o k) → SZ I1 → I1 60 = I 60 → mQ (C_M_fetes g x (nI n) (nI m) v (nI u)) (nI (sN (V u) n)) I1 L c := by
            intro I1 kp sz e60
            have E : ∀ k, (gm_u I1 59 0 0) 60 k = I 60 k := fun k => by show I1 60 k = _; rw [e60]
            refine e_M_fetes (m_0t (n := 2) rfl (by omega) (by omega) (bt (m_wt (a := 1) (b := 40) rfl rfl n1 n2 (by omega) (bt (m_wt (a := 1) (b := 30) rfl rfl m1 m2 (by omega) (bt (br_f (by rw [E, hN.1]; exact nI_ne0 z (by omega)) (br_f (by rw [E, hJ.1]; exact nI_ne0 (by omega) (by omega)) (m_keeps ?_)))))))))
            obtain ⟨IA, hIA⟩ : ∃ IA : mI, IA = gm_u (fl (gm_u I1 59 0 0) 64 0 ((gm_u I1 59 0 0) 60) 110) 60 7 (nI hd) := ⟨_, rfl⟩
            have A60 : ∀ k, k ≠ 7 → IA 60 k = I 60 k := fun k hk => by
              rw [hIA, gm_u_ne2 _ _ _ _ hk, fl_ne (by omega)]; exact E k
            have A7 : IA 60 7 = nI hd := by rw [hIA, gm_u_eq]
            have nA : ∀ k, k ≠ 7 → nv IA k = nv I k := fun k hk => by unfold nv; rw [A60 k hk]
            have nA7 : nv IA 7 = hd := by unfold nv; rw [A7, nI_clamp (by omega)]
            have fA : FM IA := by
              obtain ⟨a0, a1, a2, a3, a4, a5, a6, a7, a9, a10, a11⟩ := hm0
              have s : ∀ k q, k ≠ 7 → isN I k q → isN IA k q := fun k q hk hq => by unfold isN at *; rw [nA k hk, A60 k hk]; exact hq
              have h6 := a0.2
              have h40 := a1.2
              refine ⟨s _ _ (by omega) a0, s _ _ (by omega) a1, ⟨s _ _ (by omega) a2.1, by rw [nA 2 (by omega)]; exact a2.2⟩, ⟨by rw [nA 2 (by omega)]; exact s _ _ (by omega) a3.1, by rw [nA 2 (by omega), nA 3 (by omega)]; exact a3.2⟩, s _ _ (by omega) a4, s _ _ (by omega) a5, s _ _ (by omega) a6, (isN_of A7 hd1 (by omega)).1, ?_, ?_, ?_⟩
              · rw [A60 10 (by omega)]
                rcases a9 with q | q
                · exact Or.inl q
                · exact Or.inr ⟨s _ _ (by omega) q.1, s _ _ (by omega) q.2⟩
              · intro j hj
                rw [nA 0 (by omega)] at hj
                obtain ⟨b1, b2, b3⟩ := a10 j hj
                exact ⟨⟨s _ _ (by omega) b1.1, by rw [nA _ (by omega)]; exact b1.2⟩, s _ _ (by omega) b2, s _ _ (by omega) b3⟩
              · intro k hk
                rw [nA 1 (by omega)] at hk
                obtain ⟨b1, b2, b3⟩ := a11 k hk
                exact ⟨s _ _ (by omega) b1, s _ _ (by omega) b2, by rw [nA _ (by omega), nA 0 (by omega)]; exact b3⟩
            have zA : 0 < nv IA 0 := by rw [nA 0 (by omega)]; exact z
            have tA : ∀ s i, tr IA hd 0 s i = tr I hd 0 s i := fun s i => tr_c (fun k _ _ h7 => nA k h7) hN.2.1 z 0 s i
            have goal : Z_M_fetes g (fun r' I2 L2 c2 => nI (sN (V u) n) = r' ∧ Inv I2 L2 c2) 108 [(0, .ref 59), (1, .int x), (2, .int (nI n)), (3, .int (nI m)), (4, .int v), (5, .int (nI u)), (6, .int 0), (7, .int 0), (8, .int 0), (9, .int 0)] [] (gm_u IA 59 17 x) L c := by
              have key := lp0 (P := fun k => ∀ I2 : mI, (∀ j, j < 29 → j ≠ 1 → I2 60 j = IA 60 j) → (∀ j, 110 ≤ j → I2 60 j = IA 60 j) → KO p60 IA I2 → I2 59 17 = sd I hd m x k → (∀ j, j ≠ 17 → I2 59 j = IA 59 j) → Z_M_fetes g (fun r' I2 L2 c2 => nI (sN (V u) n) = r' ∧ Inv I2 L2 c2) 108 [(0, .ref 59), (1, .int x), (2, .int (nI n)), (3, .int (nI m)), (4, .int v), (5, .int (nI u)), (6, .int (nI (sN (V 0) k))), (7, .int (nI (sN (V 1) k))), (8, .int (nI (sN (V 2) k))), (9, .int (nI k))] [] I2 L c) n ?_ ?_
              · exact key _ (fun _ _ _ => rfl) (fun _ _ => rfl) (KO.u rfl KO.rf) (gm_u_eq _ _ _ _) (fun j hj => gm_u_ne2 _ _ _ _ hj)
              · intro I2 c1 c2 c3 c4 c5
                refine r_M_fetes_108 (br_t (nI_le (Nat.le_refl _) (by omega)) (m_again ?_))
                have inv : Inv (fl I2 60 0 (I2 64) 110) L c := by
                  refine hI.keep7 (fun o j h7 q => ?_) ⟨fun _ _ => rfl, rfl⟩ hI.cf ?_
                  · by_cases q60 : o = 60
                    · subst q60
                      rcases Nat.lt_or_ge j 110 with zz | zz
                      · have := fl_in (L := I2) (p := 60) (a := 0) (f := I2 64) (i := 110) (k := j) zz
                        rw [Nat.zero_add] at this
                        rw [this, c3 64 rfl, hIA, gm_u_ne _ _ _ (by omega)]
                        have := fl_in (L := gm_u I1 59 0 0) (p := 64) (a := 0) (f := (gm_u I1 59 0 0) 60) (i := 110) (k := j) zz
                        rw [Nat.zero_add] at this
                        rw [this]; exact E j
                      · rw [fl_out (by omega), c2 j zz, A60 j (by omega)]
                    · rw [fl_ne q60]
                      by_cases q59 : o = 59
                      · subst q59
                        have hj : j = 5 ∨ j = 13 ∨ j = 14 := by
                          simp [per] at q; omega
                        rw [c5 j (by omega), hIA, gm_u_ne _ _ _ (by omega), fl_ne (by omega), gm_u_ne2 _ _ _ _ (by omega)]
                        exact kp 59 j (by omega) q
                      · rw [c3 o (by simp [p60]; omega), hIA, gm_u_ne _ _ _ q60]
                        have q64 : o ≠ 64 := by rintro rfl; cases q
                        rw [fl_ne q64, gm_u_ne _ _ _ q59]
                        exact kp o j h7 q
                  · refine SZ_k (I := I1) ?_ sz
                    rw [fl_ne (by omega), c3 7 rfl, hIA, gm_u_ne _ _ _ (by omega), fl_ne (by omega), gm_u_ne _ _ _ (by omega)]
                match u, hu with
                | 0, _ => exact br_t rfl ⟨rfl, inv⟩
                | 1, _ => exact br_f (by decide) (br_t rfl ⟨rfl, inv⟩)
                | 2, _ => exact br_f (by decide) (br_f (by decide) ⟨rfl, inv⟩)
              · intro k hk ih I2 c1 c2 c3 c4 c5
                refine r_M_fetes_108 (br_f (nI_ge hk (by omega)) ?_)
                have key2 := lp0 (P := fun i => ∀ I3 : mI, EM IA I3 (0 + i) (tr IA hd 0 (sd I hd m x k, fun _ => 0, fun _ => 0) i).2.1 (tr IA hd 0 (sd I hd m x k, fun _ => 0, fun _ => 0) i).2.2 → KO p60 IA I3 → I3 59 17 = (tr IA hd 0 (sd I hd m x k, fun _ => 0, fun _ => 0) i).1 → (∀ j, j ≠ 17 → I3 59 j = IA 59 j) → Z_M_fetes g (fun r' I2 L2 c2 => nI (sN (V u) n) = r' ∧ Inv I2 L2 c2) 124 [(0, .ref 59), (1, .int x), (2, .int (nI n)), (3, .int (nI m)), (4, .int v), (5, .int (nI u)), (6, .int (nI (sN (V 0) k))), (7, .int (nI (sN (V 1) k))), (8, .int (nI (sN (V 2) k))), (9, .int (nI k)), (10, .int (nI i))] [] I3 L c) m ?_ ?_
                · refine key2 _ ⟨gm_u_eq _ _ _ _, fun j hj => absurd hj (by omega), fun j j1 j2 => ?_, fun j hj => ?_⟩ (KO.u rfl c3) c4 c5
                  · rw [gm_u_ne2 _ _ _ _ j2]; exact c1 j j1 j2
                  · rw [gm_u_ne2 _ _ _ _ (by omega)]; exact c2 j hj
                · intro I3 a1 a2 a3 a4
                  rw [tA] at a1 a3
                  rw [Nat.zero_add] at a1
                  have bk := bd k
                  have fm : FM I3 := EM_FM fA a1 (by omega) (fun j hj => by rw [nA 0 (by omega)]; exact bk j hj)
                  obtain ⟨nn1, nn2⟩ := EM_nv a1 (by omega)
                  have nuE : ∀ j, j < m → nu I3 j = lf I hd m x k j := fun j hj => EM_nu a1 hj (bk j hj).1
                  obtain ⟨b, hb⟩ := nr_some (f := lf I hd m x k) (t := nv I 6) m m1
                  have hbl := nr_lt _ _ hb
                  have hb' : nr (nu I3) (nv I 6) (nv I3 1) = some b := by
                    rw [nn1]
                    have := (nr_iff (f := lf I hd m x k) (t := nv I 6) (k := b) m).mp hb
                    refine (nr_iff m).mpr ⟨hbl, fun i hi => ?_, fun i h1 h2 => ?_⟩
                    · rw [nuE b hbl, nuE i (by omega)]; exact this.2.1 i hi
                    · rw [nuE b hbl, nuE i h2]; exact this.2.2 i h1 h2
                  have j6 : I3 60 6 = nI (nv I 6) := by rw [a1.2.2.1 6 (by omega) (by omega), A60 6 (by omega)]; exact hJ.1
                  have sb := sN_le (f := lf I hd m x k) (B := 2000) m (fun j hj => (bk j hj).1)
                  have mb : sN (lf I hd m x k) m / m ≤ 2000 := Nat.div_le_of_le_mul sb
                  have hfb := (bk b hbl).1
                  have g1 : ad (sN (lf I hd m x k) m / m) (nv I 6) < 2 ^ 30 := ad_lt mb (by omega)
                  have g2 : ad (lf I hd m x k b) (nv I 6) < 2 ^ 30 := by unfold ad; omega
                  refine r_M_fetes_124 (br_t (nI_le (Nat.le_refl _) (by omega)) (m_meanOf fm (by omega) ?_))
                  rw [show mn (nu I3) m = nI (sN (lf I hd m x k) m / m) by rw [mn_c nuE]; unfold mn; rw [if_neg (by omega)], j6]
                  refine m_off (by omega) (by omega) ?_
                  rw [j6]
                  refine m_near fm (by omega) ?_
                  rw [hb']
                  refine m_numberOf fm (k := b) (by omega) ?_
                  rw [j6, show nv I3 (69 + b) = lf I hd m x k b from nuE b hbl]
                  refine m_off (by omega) (by omega) ?_
                  have v0 : V 0 k = ad (sN (lf I hd m x k) m / m) (nv I 6) := rfl
                  have v1 : V 1 k = ad (lf I hd m x k b) (nv I 6) := by
                    show d2 (lf I hd m x k) m (nv I 6) = _
                    unfold d2; rw [hb]
                  have v2 : V 2 k = if ad (lf I hd m x k b) (nv I 6) ≤ ad (sN (lf I hd m x k) m / m) (nv I 6) then 0 else 1 := by
                    show d3 (lf I hd m x k) m (nv I 6) = _
                    unfold d3; rw [show d2 (lf I hd m x k) m (nv I 6) = _ from v1]; rfl
                  have s0 : sN (V 0) (k + 1) = sN (V 0) k + V 0 k := rfl
                  have s1 : sN (V 1) (k + 1) = sN (V 1) k + V 1 k := rfl
                  have s2 : sN (V 2) (k + 1) = sN (V 2) k + V 2 k := rfl
                  have nxt := ih I3 (fun j j1 j2 => a1.2.2.1 j j1 j2) a1.2.2.2 a2 a3 a4
                  rw [s0, s1, s2, v0, v1, v2] at nxt
                  rw [nI_add, nI_add, nI_1, nI_1, Int32.add_zero]
                  refine pk_le (ad (lf I hd m x k b) (nv I 6)) (ad (sN (lf I hd m x k) m / m) (nv I 6)) (fun q => ?_) (fun q => ?_)
                  · rw [if_pos q] at nxt; exact nxt
                  · rw [if_neg (by omega)] at nxt; exact nxt
                · intro i hi ih2 I3 a1 a2 a3 a4
                  have bi := tr_b (I0 := IA) (hd := hd) (n0 := 0) (s := (sd I hd m x k, fun _ => 0, fun _ => 0)) zA (fun q hq => absurd hq (by omega)) i
                  refine r_M_fetes_124 (br_f (nI_ge hi (by omega)) (m_comes fA a1 (by omega) zA (fun j hj => bi j hj) a3 (fun I4 d1 d2 d3 d4 => ?_)))
                  rw [nA7] at d1 d3
                  rw [nI_1]
                  exact ih2 I4 d1 (a2.tr d2) d3 (fun j hj => by rw [d4 j hj]; exact a4 j hj)
            rw [hIA] at goal
            refine br_c (fun q => ?_) (fun q => ?_)
            · rw [if_pos q] at ehd
              rw [ehd] at goal
              exact goal
            · rw [if_neg q] at ehd
              rw [ehd] at goal
              exact goal
          have key := lp0 (P := fun k => ∀ I2 : mI, KO (fun o => o != 7 && o != 8 && o != 9 && o != 10) I I2 → SZ I2 → I2 10 0 = sd I hd m x k → Z_J_fetes g (mQ (C_M_fetes g x (nI n) (nI m) v (nI u))) 63 [(0, .ref 0), (1, .int x), (2, .int (nI n)), (3, .int (nI m)), (4, .int v), (5, .int (nI u)), (6, .int (nI (sN (V u) k))), (7, .int (nI k))] [] I2 L c) n ?_ ?_
          · exact key _ (KO.u rfl KO.rf) (SZ_k (I := I) rfl hI.2.2.2.2.2.2.1) (gm_u_eq _ _ _ _)
          · intro I2 c1 c2 c3
            refine r_J_fetes_63 (br_t (nI_le (Nat.le_refl _) (by omega)) (M I2 (fun o j h7 q => ?_) c2 (c1 60 rfl)))
            have q8 : o ≠ 8 ∧ o ≠ 9 ∧ o ≠ 10 := by
              refine ⟨?_, ?_, ?_⟩ <;> (rintro rfl; cases q)
            rw [c1 o (by simp; omega)]
          · intro k hk ih I2 c1 c2 c3
            refine r_J_fetes_63 (br_f (nI_ge hk (by omega)) (SE7_cut c2 (fun I3 d1 d2 => ?_)))
            have fill : ∀ Q : mI → mL → gm_cfg → Prop, (∀ I4 : mI, SE7 I4 m (lf I hd m x k) (lh I hd m x k) → KO (fun o => o != 7 && o != 8 && o != 9 && o != 10) I I4 → I4 10 0 = sd I hd m x (k + 1) → Q I4 L c) → C_Dr_fill_16_7 g (nI m) (nI hd) I3 L c Q := by
              intro Q hq
              refine j_fill7 (I0 := I) (x := sd I hd m x k) (n0 := 0) (f := fun _ => 0) (h := fun _ => 0) h ⟨(d2 16 rfl).trans (c1 16 rfl), (d2 17 rfl).trans (c1 17 rfl), (d2 18 rfl).trans (c1 18 rfl), (d2 19 rfl).trans (c1 19 rfl)⟩ z hd1 ⟨d1, fun j hj => absurd hj (by omega)⟩ (by omega) (fun j hj => absurd hj (by omega)) (by rw [d2 10 rfl]; exact c3) (fun I4 e1 e2 e3 => hq I4 ?_ (fun o q => ?_) e3)
              · rw [Nat.zero_add] at e1
                exact e1
              · have q' : o ≠ 7 ∧ o ≠ 8 ∧ o ≠ 9 ∧ o ≠ 10 := by simp at q; omega
                rw [e2 o (by simp; omega), d2 o (by simp; omega)]
                exact c1 o q
            have told : ∀ I4 : mI, SE7 I4 m (lf I hd m x k) (lh I hd m x k) → KO (fun o => o != 7 && o != 8 && o != 9 && o != 10) I I4 → I4 10 0 = sd I hd m x (k + 1) → C_J_toldOfTrial g (nI u) I4 L c (fun r10 I7 L8 c9 => Z_J_fetes g (mQ (C_M_fetes g x (nI n) (nI m) v (nI u))) 63 [(0, .ref 0), (1, .int x), (2, .int (nI n)), (3, .int (nI m)), (4, .int v), (5, .int (nI u)), (6, .int (nI (sN (V u) k) + r10)), (7, .int (nI k + 1))] [] I7 L8 c9) := by
              intro I4 e1 e2 e3
              refine j_told (I0 := I) h ⟨e2 16 rfl, e2 17 rfl, e2 18 rfl, e2 19 rfl⟩ hu m1 (by omega) e1 (fun j hj => (bd k j hj).1) ?_
              rw [nI_add, nI_1]
              exact ih I4 e2 ⟨m, by omega, e1.1⟩ e3
            refine br_c (fun q => ?_) (fun q => ?_)
            · rw [if_pos q] at ehd
              rw [ehd] at fill
              exact fill _ (fun I4 e1 e2 e3 => told I4 (by rw [ehd]; exact e1) e2 (by rw [ehd]; exact e3))
            · rw [if_neg q] at ehd
              rw [ehd] at fill
              exact fill _ (fun I4 e1 e2 e3 => told I4 (by rw [ehd]; exact e1) e2 (by rw [ehd]; exact e3))
      · have M : mQ (C_M_fetes g x (nI n) z v (nI u)) (-3) I L c := e_M_fetes (m_0t (n := 2) rfl (by omega) (by omega) (bt (m_wt (a := 1) (b := 40) rfl rfl n1 n2 (by omega) (bt (m_wf (a := 1) (b := 30) rfl rfl (by omega) (by omega) hz (bf (fin hI rfl kT)))))))
        refine br_c (fun _ => M) (fun q => br_f (fun w => ?_) M)
        have hz' := hz.resolve_left q
        rw [Int32.le_iff_toInt_le] at w
        rw [Int32.lt_iff_toInt_lt] at hz'
        have e1 : (30 : Int32).toInt = 30 := rfl
        have e2 : (nI 30).toInt = 30 := rfl
        omega
    · have M : mQ (C_M_fetes g x y z v (nI u)) (-3) I L c := e_M_fetes (m_0t (n := 2) rfl (by omega) (by omega) (bt (m_wf (a := 1) (b := 40) rfl rfl (by omega) (by omega) hy (bf (fin hI rfl kT)))))
      exact br_c (fun _ => M) (fun q => br_t (hy.resolve_left q) M)
  · have M : mQ (C_M_fetes g x y z v w) (-2) I L c := e_M_fetes (m_0f (n := 2) rfl (by omega) hw (bf (fin hI rfl kT)))
    refine e_J_fetes (br_c (fun _ => M) (fun q => br_f (fun w2 => ?_) M))
    have hw' := hw.resolve_left q
    rw [Int32.le_iff_toInt_le] at w2 hw'
    rw [nI_toInt (by omega)] at hw'
    have e : (2 : Int32).toInt = 2 := rfl
    omega
end Ft
