/-! comers by draws -/
def nx (x : Int32) : Int32 := 1103515245 * x + 12345
def qd (x : Int32) : Nat := x.toBitVec.toNat / 2 ^ 16
theorem qd_b (x : Int32) : qd x < 65536 := by
  have := x.toBitVec.isLt
  unfold qd
  omega
theorem qd_eq (x : Int32) : (x.toUInt32 >>> ((16 : Int32).toUInt32 &&& Int32.toUInt32 31)).toInt32 = nI (qd x) := by
  have h := pk_ushr x 16 16 (by decide)
  have hb := qd_b x
  apply Int32.toBitVec_inj.mp
  apply BitVec.eq_of_toNat_eq
  rw [h, pk_tn (by omega)]
  rfl
def cW (I0 : mI) (x : Int32) : Nat := qd (nx x) % nv I0 0
def cP (I0 : mI) (hd : Nat) (x : Int32) (n : Nat) : Bool := decide (qd (nx (nx x)) % 10 < nv I0 (23 + cW I0 x)) && (decide (¬ hd = 1) && decide (¬ n = 0))
def cL (a : Nat) : Nat := if a < 2000 then a else 2000
def cV (I0 : mI) (hd : Nat) (x : Int32) (n : Nat) (f : Nat → Nat) : Nat := if cP I0 hd x n = true then sN f n / n else cL (si I0 (cW I0 x) (nv I0 6) + qd (nx (nx (nx x))) % (2 * nv I0 (17 + cW I0 x) + 1) - nv I0 (17 + cW I0 x))
def cX (I0 : mI) (hd : Nat) (x : Int32) (n : Nat) : Int32 := if cP I0 hd x n = true then nx (nx x) else nx (nx (nx x))
def go (hd : Nat) (f : Nat → Nat) (n : Nat) : Int32 := if hd = 1 then -1 else mn f n
def up1 (f : Nat → Nat) (n v : Nat) : Nat → Nat := fun k => if k = n then v else f k
theorem cV_b {I0 : mI} {hd : Nat} {x : Int32} {n : Nat} {f : Nat → Nat} (hf : ∀ k, k < n → f k ≤ 2000) : cV I0 hd x n f ≤ 2000 := by
  unfold cV
  split
  · exact Nat.div_le_of_le_mul (sN_le n hf)
  · unfold cL; split <;> omega
/-- the lists and the draw after i comers -/
def tr (I0 : mI) (hd n0 : Nat) (s : Int32 × (Nat → Nat) × (Nat → Nat)) : Nat → Int32 × (Nat → Nat) × (Nat → Nat)
  | 0 => s
  | i + 1 => (cX I0 hd (tr I0 hd n0 s i).1 (n0 + i), up1 (tr I0 hd n0 s i).2.1 (n0 + i) (cV I0 hd (tr I0 hd n0 s i).1 (n0 + i) (tr I0 hd n0 s i).2.1), up1 (tr I0 hd n0 s i).2.2 (n0 + i) (cW I0 (tr I0 hd n0 s i).1))
theorem tr_b {I0 : mI} {hd n0 : Nat} {s : Int32 × (Nat → Nat) × (Nat → Nat)} (hN : 0 < nv I0 0) (h : ∀ k, k < n0 → s.2.1 k ≤ 2000 ∧ s.2.2 k < nv I0 0) : ∀ i k, k < n0 + i → (tr I0 hd n0 s i).2.1 k ≤ 2000 ∧ (tr I0 hd n0 s i).2.2 k < nv I0 0
  | 0, k, hk => h k hk
  | i + 1, k, hk => by
    have ih := tr_b (hd := hd) hN h i
    show up1 _ _ _ k ≤ 2000 ∧ up1 _ _ _ k < _
    unfold up1
    by_cases q : k = n0 + i
    · rw [if_pos q, if_pos q]
      exact ⟨cV_b (fun j hj => (ih j (by omega)).1), Nat.mod_lt _ hN⟩
    · rw [if_neg q, if_neg q]
      exact ih k (by omega)
def p10 (o : Nat) : Bool := o != 10
/-- the fete's cells are I0's -/
def FE (I0 I : mI) : Prop := I 16 = I0 16 ∧ I 17 = I0 17 ∧ I 18 = I0 18 ∧ I 19 = I0 19
theorem neg_cl {a b : Nat} (ha : a < 2 ^ 29) (hb : b < 2 ^ 29) : (if 0 < (if nI a - nI b < 2000 then nI a - nI b else 2000 : Int32) then (if nI a - nI b < 2000 then nI a - nI b else 2000 : Int32) else 0 : Int32) = nI (cL (a - b)) := by
  rcases Nat.lt_or_ge a b with q | q
  · have q2 := pk_sneg (a := a) (b := b) (by omega) q
    have q3 : nI a - nI b < 2000 := by
      rw [Int32.lt_iff_toInt_lt] at q2 ⊢
      have e0 : (0 : Int32).toInt = 0 := rfl
      have e1 : (2000 : Int32).toInt = 2000 := rfl
      omega
    rw [if_pos q3, if_neg (fun w => by rw [Int32.lt_iff_toInt_lt] at w q2; omega), show a - b = 0 by omega]; rfl
  · rw [pk_sub q]
    unfold cL
    by_cases z : a - b < 2000
    · have z1 : nI (a - b) < 2000 := nI_lt (b := 2000) z (by omega)
      rw [if_pos z1, if_pos z]
      by_cases z2 : 0 < a - b
      · have z3 : 0 < nI (a - b) := nI_lt (a := 0) z2 (by omega)
        rw [if_pos z3]
      · have z3 : ¬ 0 < nI (a - b) := nI_nlt (a := 0) (by omega) (by omega)
        rw [if_neg z3, show a - b = 0 by omega]; rfl
    · have z1 : ¬ nI (a - b) < 2000 := nI_nlt (b := 2000) (by omega) (by omega)
      rw [if_neg z1, if_neg z]; rfl
section Dr
variable {g : gm_G} {I : mI} {L : mL} {c : gm_cfg} {I0 : mI}
theorem j_hasE {Q : Bool → mI → mL → gm_cfg → Prop} {j : Nat} (h : FS0 I0) (e : FE I0 I) (hj : j < nv I0 0) (hq : Q true I L c) : C_Fe16_has g (nI j) I L c Q := by
  have h6 := fN h
  refine e_Fe16_has (br_f (nI_pos (by omega)) (br_f ?_ (br_f (fun z => ?_) hq)))
  · rw [e.1, h6.2.2]; exact nI_ge hj (by omega)
  · have := nle (a := 6) z (by omega) (by omega)
    omega
theorem j_sightE {Q : Int32 → mI → mL → gm_cfg → Prop} {j t : Nat} (h : FS0 I0) (e : FE I0 I) (hj : j < nv I0 0) (ht : t < 2 ^ 20) (hq : Q (nI (si I0 j t)) I L c) : C_Fe16_sightOf g (nI j) (nI t) I L c Q := by
  have g1 := (fGs h hj).1
  have hN := fN h
  refine e_Fe16_sightOf (j_hasE h e hj (bt ⟨vp_in_nI (by omega) (by omega), ?_⟩))
  have hm : t * nv I0 (11 + j) ≤ 2 ^ 20 * 200 := Nat.mul_le_mul (by omega) g1.2.1
  rw [nI_clamp (by omega), e.2.1, g1.2.2, pk_mul]
  have e2 : nI (t * nv I0 (11 + j)) / 100 = nI (t * nv I0 (11 + j) / 100) := pk_div (d := 100) (by omega) (by omega) (by omega)
  rw [e2]
  exact hq
theorem j_draw {Q : Int32 → mI → mL → gm_cfg → Prop} {x : Int32} (hx : I 10 0 = x) (hq : Q (nI (qd (nx x))) (gm_u I 10 0 (nx x)) L c) : C_Dr_draw g I L c Q := by
  refine e_Dr_draw ?_
  rw [hx, qd_eq]
  exact hq
theorem m_draw {Q : Int32 → mI → mL → gm_cfg → Prop} {x : Int32} {d : Nat} (hx : I 59 17 = x) (hd : 0 < d) (hd2 : d < 2 ^ 20) (hq : Q (nI (qd (nx x) % d)) (gm_u I 59 17 (nx x)) L c) : C_M_draw g (nI d) I L c Q := by
  refine e_M_draw ⟨nI_ne0 hd (by omega), ?_⟩
  have hb := qd_b (1103515245 * x + 12345)
  rw [hx, qd_eq, pk_rem (by omega) hd (by omega)]
  exact hq
theorem go_m1 {hd n : Nat} {f : Nat → Nat} (hf : ∀ k, k < n → f k ≤ 2000) : (go hd f n = -1 ∧ (hd = 1 ∨ n = 0)) ∨ (¬ hd = 1 ∧ ¬ n = 0 ∧ go hd f n = nI (sN f n / n) ∧ sN f n / n ≤ 2000) := by
  unfold go mn
  by_cases q : hd = 1
  · exact Or.inl ⟨if_pos q, Or.inl q⟩
  · by_cases q2 : n = 0
    · exact Or.inl ⟨by rw [if_neg q, if_pos q2], Or.inr q2⟩
    · exact Or.inr ⟨q, q2, by rw [if_neg q, if_neg q2], Nat.div_le_of_le_mul (sN_le n hf)⟩
theorem si_jar (h : FM I0) {w : Nat} (hw : w < nv I0 0) : si I0 w (nv I0 6) ≤ 1998 := by
  have h1 := (gGs h hw).1.2.1
  have h2 := (gJr h).2.1
  have := Nat.mul_le_mul h2 h1
  show nv I0 6 * nv I0 (11 + w) / 100 ≤ 1998
  omega
theorem j_next {Q : Int32 → mI → mL → gm_cfg → Prop} {x : Int32} {hd n : Nat} {f : Nat → Nat} (h : FS0 I0) (e : FE I0 I) (hN : 0 < nv I0 0) (hf : ∀ k, k < n → f k ≤ 2000) (hx : I 10 0 = nx x) (hq : ∀ I' : mI, KO p10 I I' → I' 10 0 = cX I0 hd x n → Q (nI (cV I0 hd x n f)) I' L c) : C_Dr_nextNumber_16 g (nI (cW I0 x)) (go hd f n) I L c Q := by
  have hw : cW I0 x < nv I0 0 := Nat.mod_lt _ hN
  have hN6 := fN h
  have hJ := fJr h
  obtain ⟨g1, g2, g3⟩ := fGs h hw
  have T : Int32.toNatClampNeg (nI (cW I0 x)) = cW I0 x := nI_clamp (by omega)
  have v6 : vp_in (nI (cW I0 x)) 6 := vp_in_nI (by omega) (by omega)
  have hb := qd_b (nx (nx x))
  have hb3 := qd_b (nx (nx (nx x)))
  have sj := si_jar (FS0.m h) hw
  refine e_Dr_nextNumber_16 (j_hasE h e hw (bt (j_draw hx ⟨v6, ?_⟩)))
  rw [T, show (gm_u I 10 0 (nx (nx x))) 19 (cW I0 x) = nI (nv I0 (23 + cW I0 x)) by show I 19 _ = _; rw [e.2.2.2]; exact g3.2.2, show (nI (qd (nx (nx x))) - nI (qd (nx (nx x))) / 10 * 10 : Int32) = nI (qd (nx (nx x)) % 10) from pk_rem (d := 10) (by omega) (by omega) (by omega), show (gm_u I 10 0 (nx (nx x))) 18 (cW I0 x) = nI (nv I0 (17 + cW I0 x)) by show I 18 _ = _; rw [e.2.2.1]; exact g2.2.2, show (2 * nI (nv I0 (17 + cW I0 x)) + 1 : Int32) = nI (2 * nv I0 (17 + cW I0 x) + 1) by rw [show (2 * nI (nv I0 (17 + cW I0 x)) : Int32) = nI (2 * nv I0 (17 + cW I0 x)) from pk_mul 2 _, nI_1]]
  have own : ¬ cP I0 hd x n = true → (((nI (2 * nv I0 (17 + cW I0 x) + 1) ≤ 0 → (C_Fe16_sightOf g (nI (cW I0 x)) ((gm_u I 10 0 (nx (nx x))) 16 12) (gm_u I 10 0 (nx (nx x))) L c (fun r12 I9 L10 c11 => Q ((if 0 < ((if (r12 + 0) < 2000 then (r12 + 0) else 2000) : Int32) then ((if (r12 + 0) < 2000 then (r12 + 0) else 2000) : Int32) else 0) : Int32) I9 L10 c11))) ∧ (¬ nI (2 * nv I0 (17 + cW I0 x) + 1) ≤ 0 → (C_Dr_draw g (gm_u I 10 0 (nx (nx x))) L c (fun r16 I13 L14 c15 => (¬ nI (2 * nv I0 (17 + cW I0 x) + 1) = 0 ∧ (vp_in (nI (cW I0 x)) 6 ∧ (C_Fe16_sightOf g (nI (cW I0 x)) (I13 16 12) I13 L14 c15 (fun r20 I17 L18 c19 => Q ((if 0 < ((if (r20 + ((r16 - r16 / nI (2 * nv I0 (17 + cW I0 x) + 1) * nI (2 * nv I0 (17 + cW I0 x) + 1)) - (I13 18 (cW I0 x)))) < 2000 then (r20 + ((r16 - r16 / nI (2 * nv I0 (17 + cW I0 x) + 1) * nI (2 * nv I0 (17 + cW I0 x) + 1)) - (I13 18 (cW I0 x)))) else 2000) : Int32) then ((if (r20 + ((r16 - r16 / nI (2 * nv I0 (17 + cW I0 x) + 1) * nI (2 * nv I0 (17 + cW I0 x) + 1)) - (I13 18 (cW I0 x)))) < 2000 then (r20 + ((r16 - r16 / nI (2 * nv I0 (17 + cW I0 x) + 1) * nI (2 * nv I0 (17 + cW I0 x) + 1)) - (I13 18 (cW I0 x)))) else 2000) : Int32) else 0) : Int32) I17 L18 c19))))))))) := by
    intro hp
    refine br_f (nI_nle (by omega) (by omega)) (j_draw (gm_u_eq _ _ _ _) ⟨nI_ne0 (by omega) (by omega), v6, ?_⟩)
    rw [show (gm_u (gm_u I 10 0 (nx (nx x))) 10 0 (nx (nx (nx x)))) 16 12 = nI (nv I0 6) by show I 16 12 = _; rw [e.1]; exact hJ.2.2]
    refine j_sightE h e hw (by omega) ?_
    rw [pk_rem (by omega) (by omega) (by omega), show (gm_u (gm_u I 10 0 (nx (nx x))) 10 0 (nx (nx (nx x)))) 18 (cW I0 x) = nI (nv I0 (17 + cW I0 x)) by show I 18 _ = _; rw [e.2.2.1]; exact g2.2.2]
    have hm := Nat.mod_lt (qd (nx (nx (nx x)))) (show 0 < 2 * nv I0 (17 + cW I0 x) + 1 by omega)
    rw [show nI (si I0 (cW I0 x) (nv I0 6)) + (nI (qd (nx (nx (nx x))) % (2 * nv I0 (17 + cW I0 x) + 1)) - nI (nv I0 (17 + cW I0 x))) = nI (si I0 (cW I0 x) (nv I0 6) + qd (nx (nx (nx x))) % (2 * nv I0 (17 + cW I0 x) + 1)) - nI (nv I0 (17 + cW I0 x)) by rw [← nI_add, Int32.sub_eq_add_neg, Int32.sub_eq_add_neg, Int32.add_assoc], neg_cl (by omega) (by omega)]
    have := hq (gm_u (gm_u I 10 0 (nx (nx x))) 10 0 (nx (nx (nx x)))) (KO.u rfl (KO.u rfl KO.rf)) (by rw [gm_u_eq]; unfold cX; rw [if_neg hp])
    unfold cV at this
    rw [if_neg hp] at this
    exact this
  refine pk_le (nv I0 (23 + cW I0 x)) (qd (nx (nx x)) % 10) (fun z => ⟨v6, own ?_⟩) (fun z => ?_)
  · intro q
    unfold cP at q
    rw [Bool.and_eq_true, decide_eq_true_iff] at q
    omega
  · rcases go_m1 (hd := hd) hf with ⟨g1', g2'⟩ | ⟨g1', g2', g3', g4'⟩
    · refine br_t g1' ⟨v6, own (fun q => ?_)⟩
      unfold cP at q
      rw [Bool.and_eq_true, Bool.and_eq_true, decide_eq_true_iff, decide_eq_true_iff, decide_eq_true_iff] at q
      omega
    · have hp : cP I0 hd x n = true := by
        unfold cP
        rw [Bool.and_eq_true, Bool.and_eq_true, decide_eq_true_iff, decide_eq_true_iff, decide_eq_true_iff]
        exact ⟨z, g1', g2'⟩
      rw [g3']
      refine br_f (nIm1 (by omega)) ?_
      have := hq (gm_u I 10 0 (nx (nx x))) (KO.u rfl KO.rf) (by rw [gm_u_eq]; unfold cX; rw [if_pos hp])
      unfold cV at this
      rw [if_pos hp] at this
      exact this
/-- one comer, in the reference -/
theorem m_comes {Q : mI → mL → gm_cfg → Prop} {x : Int32} {n : Nat} {f h : Nat → Nat} (h0 : FM I0) (e : EM I0 I n f h) (hn : n < 40) (hN : 0 < nv I0 0) (hf : ∀ k, k < n → f k ≤ 2000 ∧ h k < nv I0 0) (hx : I 59 17 = x) (hq : ∀ I' : mI, EM I0 I' (n + 1) (up1 f n (cV I0 (nv I0 7) x n f)) (up1 h n (cW I0 x)) → KO p60 I I' → I' 59 17 = cX I0 (nv I0 7) x n → (∀ k, k ≠ 17 → I' 59 k = I 59 k) → Q I' L c) : C_M_comes g I L c Q := by
  have hw : cW I0 x < nv I0 0 := Nat.mod_lt _ hN
  have hN6 := gNn h0
  have hJ := gJr h0
  obtain ⟨g1, g2, g3⟩ := gGs h0 hw
  have hb := qd_b (nx (nx x))
  have hb3 := qd_b (nx (nx (nx x)))
  have sj := si_jar h0 hw
  have e17 : Int32.toNatClampNeg (17 + nI (cW I0 x)) = 17 + cW I0 x := ixa 17 _ (by omega)
  have e23 : Int32.toNatClampNeg (23 + nI (cW I0 x)) = 23 + cW I0 x := ixa 23 _ (by omega)
  have v17 : vp_in (17 + nI (cW I0 x)) 330 := via 17 _ 330 (by omega) (by omega)
  have v23 : vp_in (23 + nI (cW I0 x)) 330 := via 23 _ 330 (by omega) (by omega)
  have f6 : ∀ I' : mI, I' 60 = I 60 → I' 60 6 = nI (nv I0 6) ∧ I' 60 (17 + cW I0 x) = nI (nv I0 (17 + cW I0 x)) ∧ I' 60 (23 + cW I0 x) = nI (nv I0 (23 + cW I0 x)) ∧ FM I' ∧ EM I0 I' n f h := fun I' q => by
    rw [q, e.2.2.1 6 (by omega) (by omega), e.2.2.1 _ (by omega) (by omega), e.2.2.1 _ (by omega) (by omega)]
    exact ⟨hJ.1, g2.1, g3.1, EM_FM h0 (EM_k e q) (by omega) hf, EM_k e q⟩
  have addv : ∀ (I' : mI) (v : Nat), I' 60 = I 60 → KO p60 I I' → I' 59 17 = cX I0 (nv I0 7) x n → (∀ k, k ≠ 17 → I' 59 k = I 59 k) → v = cV I0 (nv I0 7) x n f → C_M_adds g (nI (cW I0 x)) (nI v) I' L c (fun I2 L2 c2 => Q I2 L2 c2) := by
    intro I' v q1 q2 q3 q4 ev
    refine m_adds (n := n) (by rw [q1]; exact e.1) hn (hq _ ?_ (KO.u rfl (KO.u rfl (KO.u rfl q2))) q3 q4)
    have E0 := EM_f (f' := up1 f n (cV I0 (nv I0 7) x n f)) (h' := up1 h n (cW I0 x)) (EM_k e q1) (fun k hk => by unfold up1; rw [if_neg (by omega), if_neg (by omega)]; exact ⟨rfl, rfl⟩)
    have E1 := EM_add E0 hn
    rw [show up1 h n (cW I0 x) n = cW I0 x by unfold up1; rw [if_pos rfl], show up1 f n (cV I0 (nv I0 7) x n f) n = v by unfold up1; rw [if_pos rfl, ev]] at E1
    exact E1
  refine e_M_comes ?_
  rw [show I 60 0 = nI (nv I0 0) by rw [e.2.2.1 0 (by omega) (by omega)]; exact hN6.1]
  refine m_draw hx hN (by omega) ?_
  obtain ⟨-, -, -, fm1, em1⟩ := f6 (gm_u I 59 17 (nx x)) rfl
  obtain ⟨nn1, nn2⟩ := EM_nv em1 (by omega)
  rw [show (gm_u I 59 17 (nx x)) 60 1 = nI n from e.1, show qd (nx x) % nv I0 0 = cW I0 x from rfl]
  refine m_goalAt fm1 (by omega) ?_
  have eg : gl (gm_u I 59 17 (nx x)) n = go (nv I0 7) f n := by
    unfold gl go
    rw [nn2 7 (by omega) (by omega), mn_c (fun k hk => EM_nu em1 hk (hf k hk).1)]
  rw [eg]
  refine m_draw (d := 10) (x := nx x) (gm_u_eq _ _ _ _) (by omega) (by omega) ⟨v23, ?_⟩
  obtain ⟨a6, a17, a23, fm2, em2⟩ := f6 (gm_u (gm_u I 59 17 (nx x)) 59 17 (nx (nx x))) rfl
  rw [e23, a23, a6]
  obtain ⟨nm1, nm2⟩ := EM_nv em2 (by omega)
  have own : ¬ cP I0 (nv I0 7) x n = true → C_M_sightOf g (nI (cW I0 x)) (nI (nv I0 6)) (gm_u (gm_u I 59 17 (nx x)) 59 17 (nx (nx x))) L c (fun r16 I13 L14 c15 => (vp_in (17 + nI (cW I0 x)) 330 ∧ (vp_in (17 + nI (cW I0 x)) 330 ∧ (C_M_draw g ((2 * (I13 60 (Int32.toNatClampNeg (17 + nI (cW I0 x))))) + 1) I13 L14 c15 (fun r20 I17 L18 c19 => ((0 ≤ ((r16 - (I13 60 (Int32.toNatClampNeg (17 + nI (cW I0 x))))) + r20) → ((((r16 - (I13 60 (Int32.toNatClampNeg (17 + nI (cW I0 x))))) + r20) ≤ 2000 → (C_M_adds g (nI (cW I0 x)) ((r16 - (I13 60 (Int32.toNatClampNeg (17 + nI (cW I0 x))))) + r20) I17 L18 c19 (fun I21 L22 c23 => Q I21 L22 c23))) ∧ (¬ ((r16 - (I13 60 (Int32.toNatClampNeg (17 + nI (cW I0 x))))) + r20) ≤ 2000 → (C_M_adds g (nI (cW I0 x)) 2000 I17 L18 c19 (fun I24 L25 c26 => Q I24 L25 c26))))) ∧ (¬ 0 ≤ ((r16 - (I13 60 (Int32.toNatClampNeg (17 + nI (cW I0 x))))) + r20) → (C_M_adds g (nI (cW I0 x)) 0 I17 L18 c19 (fun I27 L28 c29 => Q I27 L28 c29))))))))) := by
    intro hp
    refine m_sight fm2 (by rw [nm2 0 (by omega) (by omega)]; exact hw) (by omega) ⟨v17, v17, ?_⟩
    rw [e17, a17, show (2 * nI (nv I0 (17 + cW I0 x)) + 1 : Int32) = nI (2 * nv I0 (17 + cW I0 x) + 1) by rw [show (2 * nI (nv I0 (17 + cW I0 x)) : Int32) = nI (2 * nv I0 (17 + cW I0 x)) from pk_mul 2 _, nI_1]]
    refine m_draw (x := nx (nx x)) (gm_u_eq _ _ _ _) (by omega) (by omega) ?_
    have hm := Nat.mod_lt (qd (nx (nx (nx x)))) (show 0 < 2 * nv I0 (17 + cW I0 x) + 1 by omega)
    rw [show si (gm_u (gm_u I 59 17 (nx x)) 59 17 (nx (nx x))) (cW I0 x) (nv I0 6) = si I0 (cW I0 x) (nv I0 6) by show nv I0 6 * nv _ (11 + cW I0 x) / 100 = _; rw [nm2 _ (by omega) (by omega)]]
    have cv : cV I0 (nv I0 7) x n f = cL (si I0 (cW I0 x) (nv I0 6) + qd (nx (nx (nx x))) % (2 * nv I0 (17 + cW I0 x) + 1) - nv I0 (17 + cW I0 x)) := by unfold cV; rw [if_neg hp]
    have cx : cX I0 (nv I0 7) x n = nx (nx (nx x)) := by unfold cX; rw [if_neg hp]
    generalize hS : si I0 (cW I0 x) (nv I0 6) = S at cv sj
    generalize hO : qd (nx (nx (nx x))) % (2 * nv I0 (17 + cW I0 x) + 1) = O at cv hm
    rw [show (nI S - nI (nv I0 (17 + cW I0 x)) + nI O : Int32) = nI (S + O) - nI (nv I0 (17 + cW I0 x)) by rw [← nI_add, Int32.sub_eq_add_neg, Int32.sub_eq_add_neg, Int32.add_assoc, Int32.add_comm (-nI (nv I0 (17 + cW I0 x))), Int32.add_assoc]]
    have ad := fun v ev => addv (gm_u (gm_u (gm_u I 59 17 (nx x)) 59 17 (nx (nx x))) 59 17 (nx (nx (nx x)))) v rfl (KO.u rfl (KO.u rfl (KO.u rfl KO.rf))) (by rw [gm_u_eq, cx]) (fun k hk => by rw [gm_u_ne2 _ _ _ _ hk, gm_u_ne2 _ _ _ _ hk, gm_u_ne2 _ _ _ _ hk]) ev
    rcases Nat.lt_or_ge (S + O) (nv I0 (17 + cW I0 x)) with q | q
    · have q2 := pk_sneg (a := S + O) (b := nv I0 (17 + cW I0 x)) (by omega) q
      refine br_f (fun w => ?_) (ad 0 ?_)
      · rw [Int32.lt_iff_toInt_lt] at q2
        rw [Int32.le_iff_toInt_le] at w
        omega
      · rw [cv, show S + O - nv I0 (17 + cW I0 x) = 0 by omega]; rfl
    · rw [pk_sub q]
      refine br_t (nI_pos' (by omega)) (pk_le (S + O - nv I0 (17 + cW I0 x)) 2000 (fun z => ad _ ?_) (fun z => ad 2000 ?_))
      · rw [cv]; unfold cL
        split <;> omega
      · rw [cv]; unfold cL
        rw [if_neg (by omega)]
  refine pk_le (nv I0 (23 + cW I0 x)) (qd (nx (nx x)) % 10) (fun z => own ?_) (fun z => ?_)
  · intro q
    unfold cP at q
    rw [Bool.and_eq_true, decide_eq_true_iff] at q
    omega
  · rcases go_m1 (hd := nv I0 7) (fun k hk => (hf k hk).1) with ⟨g1', g2'⟩ | ⟨g1', g2', g3', g4'⟩
    · refine br_t g1' (own (fun q => ?_))
      unfold cP at q
      rw [Bool.and_eq_true, Bool.and_eq_true, decide_eq_true_iff, decide_eq_true_iff, decide_eq_true_iff] at q
      omega
    · have hp : cP I0 (nv I0 7) x n = true := by
        unfold cP
        rw [Bool.and_eq_true, Bool.and_eq_true, decide_eq_true_iff, decide_eq_true_iff, decide_eq_true_iff]
        exact ⟨z, g1', g2'⟩
      rw [g3']
      refine br_f (nIm1 (by omega)) (addv _ _ rfl (KO.u rfl (KO.u rfl KO.rf)) (by rw [gm_u_eq]; unfold cX; rw [if_pos hp]) (fun k hk => by rw [gm_u_ne2 _ _ _ _ hk, gm_u_ne2 _ _ _ _ hk]) ?_)
      unfold cV
      rw [if_pos hp]
/-- the sheet of cell 20: n numbers f by h -/
def SE20 (I : mI) (n : Nat) (f h : Nat → Nat) : Prop := I 20 2 = nI n ∧ ∀ k, k < n → I 21 k = nI (f k) ∧ I 22 k = nI (h k)
theorem s_sum20 {Q : Int32 → mI → mL → gm_cfg → Prop} {n : Nat} {f h : Nat → Nat} (e : SE20 I n f h) (hn : n ≤ 40) (hq : Q (nI (sN f n)) I L c) : C_Sh20_sumOf g (nI n) I L c Q := by
  refine e_Sh20_sumOf ?_
  refine lp0 (P := fun k => Z_Sh20_sumOf g Q 4 [(0, .ref 20), (1, .int (nI n)), (2, .int (nI (sN f k))), (3, .int (nI k))] [] I L c) n ?_ ?_
  · exact r_Sh20_sumOf_4 (br_t (nI_le (Nat.le_refl _) (by omega)) hq)
  · intro k hk ih
    refine r_Sh20_sumOf_4 (br_f (nI_ge hk (by omega)) (br_f (by rw [e.1]; exact nI_ge hk (by omega)) ⟨vp_in_nI (by omega) (by omega), ?_⟩))
    rw [nI_clamp (by omega), (e.2 k hk).1, nI_add, nI_1]
    exact ih
theorem s_goal20 {Q : Int32 → mI → mL → gm_cfg → Prop} {n hd : Nat} {f h : Nat → Nat} (e : SE20 I n f h) (hn : n ≤ 40) (hd1 : hd ≤ 1) (hf : ∀ k, k < n → f k ≤ 2000) (hq : Q (go hd f n) I L c) : C_Sh20_goalAt g (nI n) (nI hd) I L c Q := by
  have sb := sN_le (f := f) (B := 2000) n hf
  have hm : n * 2000 ≤ 40 * 2000 := Nat.mul_le_mul_right _ hn
  unfold go mn at hq
  refine e_Sh20_goalAt (pk_eq hd 0 (fun z => ?_) (fun z => ?_))
  · rw [if_neg (by omega)] at hq
    refine pk_lt 0 n (fun z2 => s_sum20 e hn ⟨nI_ne0 z2 (by omega), ?_⟩) (fun z2 => ?_)
    · rw [if_neg (by omega)] at hq
      rw [pk_div (by omega) z2 (by omega)]
      exact hq
    · rw [if_pos (by omega)] at hq
      exact hq
  · rw [if_pos (by omega)] at hq
    exact hq
theorem s_add20 {Q : mI → mL → gm_cfg → Prop} {n w v : Nat} {f h : Nat → Nat} (e : SE20 I n f h) (hn : n < 40) (hq : ∀ I' : mI, SE20 I' (n + 1) (up1 f n v) (up1 h n w) → KO (fun o => o != 20 && o != 21 && o != 22) I I' → Q I' L c) : C_Sh20_add g (nI w) (nI v) I L c Q := by
  refine e_Sh20_add ?_
  rw [e.1]
  refine br_f (nI_ge (b := 40) hn (by omega)) ⟨vp_in_nI hn (by omega), vp_in_nI hn (by omega), ?_⟩
  rw [nI_clamp (by omega), nI_1]
  refine hq _ ⟨rfl, fun k hk => ?_⟩ (KO.u rfl (KO.u rfl (KO.u rfl KO.rf)))
  show gm_u I 21 n (nI v) 21 k = _ ∧ gm_u (gm_u I 21 n (nI v)) 22 n (nI w) 22 k = _
  unfold up1
  rcases Nat.lt_or_ge k n with q | q
  · rw [gm_u_ne2 _ _ _ _ (by omega), gm_u_ne2 _ _ _ _ (by omega), if_neg (by omega), if_neg (by omega)]
    exact e.2 k q
  · rw [show k = n by omega, gm_u_eq, gm_u_eq, if_pos rfl, if_pos rfl]
    exact ⟨rfl, rfl⟩
theorem j_fill20 {Q : mI → mL → gm_cfg → Prop} {x : Int32} {n0 m hd : Nat} {f h : Nat → Nat} (h0 : FS0 I0) (fe : FE I0 I) (hN : 0 < nv I0 0) (hd1 : hd ≤ 1) (e : SE20 I n0 f h) (hn : n0 + m ≤ 40) (hf : ∀ k, k < n0 → f k ≤ 2000 ∧ h k < nv I0 0) (hx : I 10 0 = x) (hq : ∀ I' : mI, SE20 I' (n0 + m) (tr I0 hd n0 (x, f, h) m).2.1 (tr I0 hd n0 (x, f, h) m).2.2 → KO (fun o => o != 10 && o != 20 && o != 21 && o != 22) I I' → I' 10 0 = (tr I0 hd n0 (x, f, h) m).1 → Q I' L c) : C_Dr_fill_16_20 g (nI m) (nI hd) I L c Q := by
  have hN6 := fN h0
  have e165 : ∀ I' : mI, FE I0 I' → I' 16 5 = nI (nv I0 0) := fun I' q => by rw [q.1]; exact hN6.2.2
  refine e_Dr_fill_16_20 (br_t (by rw [e165 I fe]; exact nI_lt (a := 0) hN (by omega)) ?_)
  have key := lp0 (P := fun i => ∀ I' : mI, SE20 I' (n0 + i) (tr I0 hd n0 (x, f, h) i).2.1 (tr I0 hd n0 (x, f, h) i).2.2 → KO (fun o => o != 10 && o != 20 && o != 21 && o != 22) I I' → I' 10 0 = (tr I0 hd n0 (x, f, h) i).1 → Z_Dr_fill_16_20 g Q 11 [(0, .ref 10), (1, .ref 16), (2, .ref 20), (3, .int (nI m)), (4, .int (nI hd)), (5, .int (nI i))] [] I' L c) m ?_ ?_
  · exact key I e KO.rf hx
  · intro I' s1 s2 s3
    exact r_Dr_fill_16_20_11 (br_t (nI_le (Nat.le_refl _) (by omega)) (hq I' s1 s2 s3))
  · intro i hi ih I' s1 s2 s3
    have fe' : FE I0 I' := ⟨(s2 16 rfl).trans fe.1, (s2 17 rfl).trans fe.2.1, (s2 18 rfl).trans fe.2.2.1, (s2 19 rfl).trans fe.2.2.2⟩
    have bd := tr_b (hd := hd) (s := (x, f, h)) hN hf i
    have st : tr I0 hd n0 (x, f, h) (i + 1) = (cX I0 hd (tr I0 hd n0 (x, f, h) i).1 (n0 + i), up1 (tr I0 hd n0 (x, f, h) i).2.1 (n0 + i) (cV I0 hd (tr I0 hd n0 (x, f, h) i).1 (n0 + i) (tr I0 hd n0 (x, f, h) i).2.1), up1 (tr I0 hd n0 (x, f, h) i).2.2 (n0 + i) (cW I0 (tr I0 hd n0 (x, f, h) i).1)) := rfl
    rw [st] at ih
    generalize tr I0 hd n0 (x, f, h) i = s at s1 s3 bd ih
    have hb := qd_b (nx s.1)
    refine r_Dr_fill_16_20_11 (br_f (nI_ge hi (by omega)) (j_draw s3 ⟨?_, ?_⟩))
    · rw [e165 (gm_u I' 10 0 (nx s.1)) fe']
      exact nI_ne0 hN (by omega)
    · rw [e165 (gm_u I' 10 0 (nx s.1)) fe', pk_rem (by omega) hN (by omega), show (gm_u I' 10 0 (nx s.1)) 20 2 = nI (n0 + i) from s1.1, show qd (nx s.1) % nv I0 0 = cW I0 s.1 from rfl]
      refine s_goal20 (f := s.2.1) (h := s.2.2) s1 (by omega) hd1 (fun k hk => (bd k hk).1) ?_
      refine j_next (x := s.1) (n := n0 + i) (f := s.2.1) h0 fe' hN (fun k hk => (bd k hk).1) (gm_u_eq _ _ _ _) (fun I2 b1 b2 => ?_)
      have s4 : SE20 I2 (n0 + i) s.2.1 s.2.2 := by
        unfold SE20
        rw [b1 20 rfl, b1 21 rfl, b1 22 rfl]
        exact s1
      refine s_add20 s4 (by omega) (fun I3 c1 c2 => ?_)
      rw [nI_1]
      refine ih I3 c1 (fun o q => ?_) ?_
      · have q' : (o ≠ 10 ∧ o ≠ 20 ∧ o ≠ 21 ∧ o ≠ 22) := by simp at q; omega
        rw [c2 o (by simp; omega), b1 o (by simp [p10]; omega), gm_u_ne _ _ _ (by omega)]
        exact s2 o q
      · rw [c2 10 rfl, b2]
/-- the sheet of cell 7: n numbers f by h -/
def SE7 (I : mI) (n : Nat) (f h : Nat → Nat) : Prop := I 7 2 = nI n ∧ ∀ k, k < n → I 8 k = nI (f k) ∧ I 9 k = nI (h k)
theorem s_sum7 {Q : Int32 → mI → mL → gm_cfg → Prop} {n : Nat} {f h : Nat → Nat} (e : SE7 I n f h) (hn : n ≤ 40) (hq : Q (nI (sN f n)) I L c) : C_Sh7_sumOf g (nI n) I L c Q := by
  refine e_Sh7_sumOf ?_
  refine lp0 (P := fun k => Z_Sh7_sumOf g Q 4 [(0, .ref 7), (1, .int (nI n)), (2, .int (nI (sN f k))), (3, .int (nI k))] [] I L c) n ?_ ?_
  · exact r_Sh7_sumOf_4 (br_t (nI_le (Nat.le_refl _) (by omega)) hq)
  · intro k hk ih
    refine r_Sh7_sumOf_4 (br_f (nI_ge hk (by omega)) (br_f (by rw [e.1]; exact nI_ge hk (by omega)) ⟨vp_in_nI (by omega) (by omega), ?_⟩))
    rw [nI_clamp (by omega), (e.2 k hk).1, nI_add, nI_1]
    exact ih
theorem s_goal7 {Q : Int32 → mI → mL → gm_cfg → Prop} {n hd : Nat} {f h : Nat → Nat} (e : SE7 I n f h) (hn : n ≤ 40) (hd1 : hd ≤ 1) (hf : ∀ k, k < n → f k ≤ 2000) (hq : Q (go hd f n) I L c) : C_Sh7_goalAt g (nI n) (nI hd) I L c Q := by
  have sb := sN_le (f := f) (B := 2000) n hf
  have hm : n * 2000 ≤ 40 * 2000 := Nat.mul_le_mul_right _ hn
  unfold go mn at hq
  refine e_Sh7_goalAt (pk_eq hd 0 (fun z => ?_) (fun z => ?_))
  · rw [if_neg (by omega)] at hq
    refine pk_lt 0 n (fun z2 => s_sum7 e hn ⟨nI_ne0 z2 (by omega), ?_⟩) (fun z2 => ?_)
    · rw [if_neg (by omega)] at hq
      rw [pk_div (by omega) z2 (by omega)]
      exact hq
    · rw [if_pos (by omega)] at hq
      exact hq
  · rw [if_pos (by omega)] at hq
    exact hq
theorem s_add7 {Q : mI → mL → gm_cfg → Prop} {n w v : Nat} {f h : Nat → Nat} (e : SE7 I n f h) (hn : n < 40) (hq : ∀ I' : mI, SE7 I' (n + 1) (up1 f n v) (up1 h n w) → KO (fun o => o != 7 && o != 8 && o != 9) I I' → Q I' L c) : C_Sh7_add g (nI w) (nI v) I L c Q := by
  refine e_Sh7_add ?_
  rw [e.1]
  refine br_f (nI_ge (b := 40) hn (by omega)) ⟨vp_in_nI hn (by omega), vp_in_nI hn (by omega), ?_⟩
  rw [nI_clamp (by omega), nI_1]
  refine hq _ ⟨rfl, fun k hk => ?_⟩ (KO.u rfl (KO.u rfl (KO.u rfl KO.rf)))
  show gm_u I 8 n (nI v) 8 k = _ ∧ gm_u (gm_u I 8 n (nI v)) 9 n (nI w) 9 k = _
  unfold up1
  rcases Nat.lt_or_ge k n with q | q
  · rw [gm_u_ne2 _ _ _ _ (by omega), gm_u_ne2 _ _ _ _ (by omega), if_neg (by omega), if_neg (by omega)]
    exact e.2 k q
  · rw [show k = n by omega, gm_u_eq, gm_u_eq, if_pos rfl, if_pos rfl]
    exact ⟨rfl, rfl⟩
theorem j_fill7 {Q : mI → mL → gm_cfg → Prop} {x : Int32} {n0 m hd : Nat} {f h : Nat → Nat} (h0 : FS0 I0) (fe : FE I0 I) (hN : 0 < nv I0 0) (hd1 : hd ≤ 1) (e : SE7 I n0 f h) (hn : n0 + m ≤ 40) (hf : ∀ k, k < n0 → f k ≤ 2000 ∧ h k < nv I0 0) (hx : I 10 0 = x) (hq : ∀ I' : mI, SE7 I' (n0 + m) (tr I0 hd n0 (x, f, h) m).2.1 (tr I0 hd n0 (x, f, h) m).2.2 → KO (fun o => o != 10 && o != 7 && o != 8 && o != 9) I I' → I' 10 0 = (tr I0 hd n0 (x, f, h) m).1 → Q I' L c) : C_Dr_fill_16_7 g (nI m) (nI hd) I L c Q := by
  have hN6 := fN h0
  have e165 : ∀ I' : mI, FE I0 I' → I' 16 5 = nI (nv I0 0) := fun I' q => by rw [q.1]; exact hN6.2.2
  refine e_Dr_fill_16_7 (br_t (by rw [e165 I fe]; exact nI_lt (a := 0) hN (by omega)) ?_)
  have key := lp0 (P := fun i => ∀ I' : mI, SE7 I' (n0 + i) (tr I0 hd n0 (x, f, h) i).2.1 (tr I0 hd n0 (x, f, h) i).2.2 → KO (fun o => o != 10 && o != 7 && o != 8 && o != 9) I I' → I' 10 0 = (tr I0 hd n0 (x, f, h) i).1 → Z_Dr_fill_16_7 g Q 11 [(0, .ref 10), (1, .ref 16), (2, .ref 7), (3, .int (nI m)), (4, .int (nI hd)), (5, .int (nI i))] [] I' L c) m ?_ ?_
  · exact key I e KO.rf hx
  · intro I' s1 s2 s3
    exact r_Dr_fill_16_7_11 (br_t (nI_le (Nat.le_refl _) (by omega)) (hq I' s1 s2 s3))
  · intro i hi ih I' s1 s2 s3
    have fe' : FE I0 I' := ⟨(s2 16 rfl).trans fe.1, (s2 17 rfl).trans fe.2.1, (s2 18 rfl).trans fe.2.2.1, (s2 19 rfl).trans fe.2.2.2⟩
    have bd := tr_b (hd := hd) (s := (x, f, h)) hN hf i
    have st : tr I0 hd n0 (x, f, h) (i + 1) = (cX I0 hd (tr I0 hd n0 (x, f, h) i).1 (n0 + i), up1 (tr I0 hd n0 (x, f, h) i).2.1 (n0 + i) (cV I0 hd (tr I0 hd n0 (x, f, h) i).1 (n0 + i) (tr I0 hd n0 (x, f, h) i).2.1), up1 (tr I0 hd n0 (x, f, h) i).2.2 (n0 + i) (cW I0 (tr I0 hd n0 (x, f, h) i).1)) := rfl
    rw [st] at ih
    generalize tr I0 hd n0 (x, f, h) i = s at s1 s3 bd ih
    have hb := qd_b (nx s.1)
    refine r_Dr_fill_16_7_11 (br_f (nI_ge hi (by omega)) (j_draw s3 ⟨?_, ?_⟩))
    · rw [e165 (gm_u I' 10 0 (nx s.1)) fe']
      exact nI_ne0 hN (by omega)
    · rw [e165 (gm_u I' 10 0 (nx s.1)) fe', pk_rem (by omega) hN (by omega), show (gm_u I' 10 0 (nx s.1)) 7 2 = nI (n0 + i) from s1.1, show qd (nx s.1) % nv I0 0 = cW I0 s.1 from rfl]
      refine s_goal7 (f := s.2.1) (h := s.2.2) s1 (by omega) hd1 (fun k hk => (bd k hk).1) ?_
      refine j_next (x := s.1) (n := n0 + i) (f := s.2.1) h0 fe' hN (fun k hk => (bd k hk).1) (gm_u_eq _ _ _ _) (fun I2 b1 b2 => ?_)
      have s4 : SE7 I2 (n0 + i) s.2.1 s.2.2 := by
        unfold SE7
        rw [b1 7 rfl, b1 8 rfl, b1 9 rfl]
        exact s1
      refine s_add7 s4 (by omega) (fun I3 c1 c2 => ?_)
      rw [nI_1]
      refine ih I3 c1 (fun o q => ?_) ?_
      · have q' : (o ≠ 10 ∧ o ≠ 7 ∧ o ≠ 8 ∧ o ≠ 9) := by simp at q; omega
        rw [c2 o (by simp; omega), b1 o (by simp [p10]; omega), gm_u_ne _ _ _ (by omega)]
        exact s2 o q
      · rw [c2 10 rfl, b2]
theorem P_come {x y : Int32} (hI : Inv I L c) : C_J_come g x y I L c (mQ (C_M_come g x y)) := by
  have h : FS0 I := hI.1
  have hm0 := FS0.m h
  have hT : FM (gm_u I 59 0 0) := FM.k hm0 (kT (L := L))
  have hG := fG h
  have hN := fN h
  have hJ := fJr h
  have hH := fHd h
  rcases inAB y 1 40 (by omega) (by omega) with ⟨m, m1, m2, rfl⟩ | hy
  · refine e_J_come (br_f (nI_nlt (b := 1) m1 (by omega)) (br_t (nI_le (b := 40) m2 (by omega)) ?_))
    have M5 : (nv I 0 = 0 ∨ nv I 6 = 0) → mQ (C_M_come g x (nI m)) (-5) I L c := by
      intro q
      refine e_M_come (m_wt (a := 1) (b := 40) rfl rfl m1 m2 (by omega) (bt ?_))
      rcases Nat.eq_zero_or_pos (nv I 0) with z | z
      · exact br_t (show I 60 0 = 0 by rw [hN.1, z]; rfl) (fin hI rfl kT)
      · exact br_f (show ¬ I 60 0 = 0 by rw [hN.1]; exact nI_ne0 z (by omega)) (br_t (show I 60 6 = 0 by rw [hJ.1, show nv I 6 = 0 by omega]; rfl) (fin hI rfl kT))
    refine e_J_canDraw ?_
    rw [hN.2.2, hJ.2.2]
    rcases Nat.eq_zero_or_pos (nv I 0) with z | z
    · rw [z]
      exact br_t (by decide) (bf (M5 (Or.inl z)))
    · refine br_f (nI_nle z (by omega)) (pk_eq (nv I 6) 0 (fun z2 => bf (M5 (Or.inr z2))) (fun z2 => bt ?_))
      rw [hG.2.2, nI_add]
      have MC : ∀ (I2 : mI) (L2 : mL) (Q : Int32 → mI → mL → gm_cfg → Prop), I2 60 = I 60 → ((nI (nv I 1 + m) ≤ 40 → Z_M_come g Q 65 [(0, .ref 59), (1, .int x), (2, .int (nI m)), (3, .int 0)] [] (gm_u (gm_u I2 59 0 0) 59 17 x) L2 c) ∧ (¬ nI (nv I 1 + m) ≤ 40 → Q (-4) (gm_u I2 59 0 0) L2 c)) → C_M_come g x (nI m) I2 L2 c Q := by
        intro I2 L2 Q e60 hq
        have E : ∀ k, (gm_u I2 59 0 0) 60 k = I 60 k := fun k => by show I2 60 k = _; rw [e60]
        refine e_M_come (m_wt (a := 1) (b := 40) rfl rfl m1 m2 (by omega) (bt (br_f (by rw [E, hN.1]; exact nI_ne0 z (by omega)) (br_f (by rw [E, hJ.1]; exact nI_ne0 (by omega) (by omega)) ?_))))
        rw [E, hG.1, nI_add]
        exact hq
      refine pk_le (nv I 1 + m) 40 (fun z3 => e_Dr_start ?_) (fun z3 => MC I L _ rfl (br_f (nI_ge (a := 40) (by omega) (by omega)) (fin hI rfl kT)))
      rw [show (gm_u I 10 0 x) 16 9 = nI (nv I 7) from hH.2.2]
      refine j_fill20 (I0 := I) (x := x) (n0 := nv I 1) (f := nu I) (h := wr I) h ⟨rfl, rfl, rfl, rfl⟩ z hH.2.1 ⟨hG.2.2, fun k hk => ⟨(fNu h hk).1.2.2, (fNu h hk).2.2.2⟩⟩ z3 (fun k hk => ⟨(fNu h hk).1.2.1, (fNu h hk).2.2.1⟩) (gm_u_eq _ _ _ _) (fun I1 a1 a2 a3 => ?_)
      have bd0 : ∀ k, k < nv I 1 → nu I k ≤ 2000 ∧ wr I k < nv I 0 := fun k hk => ⟨(fNu h hk).1.2.1, (fNu h hk).2.2.1⟩
      have O1 : ∀ o, o ≠ 10 → o ≠ 20 → o ≠ 21 → o ≠ 22 → I1 o = I o := fun o q1 q2 q3 q4 => by
        rw [a2 o (by simp; omega), gm_u_ne _ _ _ q1]
      rw [a1.1]
      refine MC I1 L _ (O1 60 (by omega) (by omega) (by omega) (by omega)) (br_t (nI_le (b := 40) z3 (by omega)) ?_)
      have key := lp0 (P := fun i => ∀ I2 : mI, EM I I2 (nv I 1 + i) (tr I (nv I 7) (nv I 1) (x, nu I, wr I) i).2.1 (tr I (nv I 7) (nv I 1) (x, nu I, wr I) i).2.2 → KO p60 I1 I2 → I2 59 17 = (tr I (nv I 7) (nv I 1) (x, nu I, wr I) i).1 → (∀ k, k ≠ 17 → k ≠ 0 → I2 59 k = I1 59 k) → Z_M_come g (fun r' I2 L2 c2 => nI (nv I 1 + m) = r' ∧ Inv I2 L2 c2) 65 [(0, .ref 59), (1, .int x), (2, .int (nI m)), (3, .int (nI i))] [] I2 L c) m ?_ ?_
      · refine key _ (EM_k (EM_0 hm0) (O1 60 (by omega) (by omega) (by omega) (by omega))) (KO.u rfl (KO.u rfl KO.rf)) (gm_u_eq _ _ _ _) (fun k q1 q2 => ?_)
        rw [gm_u_ne2 _ _ _ _ q1, gm_u_ne2 _ _ _ _ q2]
      · intro I2 b1 b2 b3 b4
        refine r_M_come_65 (br_t (nI_le (Nat.le_refl _) (by omega)) ⟨b1.1.symm, ?_⟩)
        have bd := tr_b (hd := nv I 7) (s := (x, nu I, wr I)) z bd0 m
        have O : ∀ o, p60 o = true → o ≠ 10 → o ≠ 20 → o ≠ 21 → o ≠ 22 → I2 o = I o := fun o q q1 q2 q3 q4 => (b2 o q).trans (O1 o q1 q2 q3 q4)
        have S59 : ∀ k, k ≠ 17 → k ≠ 0 → I2 59 k = I 59 k := fun k q1 q2 => by rw [b4 k q1 q2, O1 59 (by omega) (by omega) (by omega) (by omega)]
        refine hI.setF (EE_FS h b1 z3 bd ?_ (fun j hj => ?_) ⟨O 16 rfl (by omega) (by omega) (by omega) (by omega), O 17 rfl (by omega) (by omega) (by omega) (by omega), O 18 rfl (by omega) (by omega) (by omega) (by omega), O 19 rfl (by omega) (by omega) (by omega) (by omega)⟩) (TP_congr ?_ (O 1 rfl (by omega) (by omega) (by omega) (by omega)) (S59 5 (by omega) (by omega)) (O 62 rfl (by omega) (by omega) (by omega) (by omega)) hI.2.1) ⟨?_, ?_⟩ b1.2.2.2 (fun o q => ?_) KO.rf hI.cf
        · rw [b2 20 rfl]; exact a1.1
        · rw [b2 21 rfl, b2 22 rfl]; exact a1.2 j hj
        · rw [O 0 rfl (by omega) (by omega) (by omega) (by omega)]
        · rw [O 6 rfl (by omega) (by omega) (by omega) (by omega), S59 13 (by omega) (by omega)]; exact hI.2.2.1.1
        · rw [O 6 rfl (by omega) (by omega) (by omega) (by omega), S59 14 (by omega) (by omega)]; exact hI.2.2.1.2
        · have q2 : o ≠ 59 ∧ o ≠ 60 ∧ o ≠ 20 ∧ o ≠ 21 ∧ o ≠ 22 ∧ o ≠ 10 := by
            refine ⟨?_, ?_, ?_, ?_, ?_, ?_⟩ <;> (rintro rfl; cases q)
          exact O o (by simp [p60]; omega) (by omega) (by omega) (by omega) (by omega)
      · intro i hi ih I2 b1 b2 b3 b4
        have bd := tr_b (hd := nv I 7) (s := (x, nu I, wr I)) z bd0 i
        refine r_M_come_65 (br_f (nI_ge hi (by omega)) (m_comes hm0 b1 (by omega) z bd b3 (fun I3 d1 d2 d3 d4 => ?_)))
        rw [nI_1]
        exact ih I3 d1 (b2.tr d2) d3 (fun k q1 q2 => by rw [d4 k q1]; exact b4 k q1 q2)
  · have M : mQ (C_M_come g x y) (-3) I L c := e_M_come (m_wf (a := 1) (b := 40) rfl rfl (by omega) (by omega) hy (bf (fin hI rfl kT)))
    refine e_J_come (br_c (fun _ => M) (fun q => br_f (fun w => ?_) M))
    have hy' := hy.resolve_left q
    rw [Int32.le_iff_toInt_le] at w
    rw [Int32.lt_iff_toInt_lt] at hy'
    have e1 : (40 : Int32).toInt = 40 := rfl
    have e2 : (nI 40).toInt = 40 := rfl
    omega
end Dr
