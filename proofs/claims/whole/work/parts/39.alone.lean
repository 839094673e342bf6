/-! how far some of one guesser are off together -/
theorem Keep.uL {I I' : mI} {L L' : mL} {o k : Nat} {v : Int64} (h : Keep I L I' L') (ho : perL o = false) (h25 : o ≠ 25) : Keep I L I' (gm_u L' o k v) := ⟨h.1, fun o' q => by
  rw [gm_u_ne _ _ _ (fun e => by subst e; rw [ho] at q; cases q)]; exact h.2.1 o' q, by rw [gm_u_ne _ _ _ (fun e => h25 e.symm)]; exact h.2.2⟩
/-- ways that m offs of 0 .. w - 1 have the sum x -/
def dw (w : Nat) : Nat → Nat → Nat
  | 0, x => if x = 0 then 1 else 0
  | m + 1, x => sN (fun d => if d ≤ x then dw w m (x - d) else 0) w
theorem sN_rev {f : Nat → Nat} {x : Nat} : ∀ w, sN (fun d => if d ≤ x then f (x - d) else 0) w = sN f (x + 1) - sN f (x + 1 - w)
  | 0 => by show 0 = _; rw [Nat.sub_zero]; omega
  | w + 1 => by
    have ih := sN_rev (f := f) (x := x) w
    show sN (fun d => if d ≤ x then f (x - d) else 0) w + (if w ≤ x then f (x - w) else 0) = _
    rw [ih]
    rcases Nat.lt_or_ge x w with q | q
    · rw [if_neg (by omega), show x + 1 - w = 0 by omega, show x + 1 - (w + 1) = 0 by omega]; rfl
    · rw [if_pos q, show x + 1 - w = (x - w) + 1 by omega, show x + 1 - (w + 1) = x - w by omega]
      have h1 := sN_mono (f := f) (a := x - w + 1) (x + 1) (by omega)
      show sN f (x + 1) - (sN f (x - w) + f (x - w)) + f (x - w) = _
      have h2 : sN f (x - w + 1) = sN f (x - w) + f (x - w) := rfl
      omega
theorem dw_s {w m x : Nat} : dw w (m + 1) x = sN (dw w m) (x + 1) - sN (dw w m) (x + 1 - w) := sN_rev w
theorem sN_top {f : Nat → Nat} {a : Nat} (h : ∀ j, a ≤ j → f j = 0) : ∀ n, a ≤ n → sN f n = sN f a
  | 0, hn => by rw [show a = 0 by omega]
  | n + 1, hn => by
    rcases Nat.lt_or_ge a (n + 1) with q | q
    · show sN f n + f n = _
      rw [sN_top h n (by omega), h n (by omega), Nat.add_zero]
    · rw [show a = n + 1 by omega]
/-- no sum is greater -/
theorem dw_top {s : Nat} : ∀ m x, 2 * s * m < x → dw (2 * s + 1) m x = 0
  | 0, x, h => by show (if x = 0 then 1 else 0) = 0; rw [if_neg (by omega)]
  | m + 1, x, h => by
    have e : 2 * s * (m + 1) = 2 * s * m + 2 * s := Nat.mul_succ _ _
    rw [dw_s, sN_top (a := 2 * s * m + 1) (fun j hj => dw_top m j (by omega)) (x + 1) (by omega), sN_top (a := 2 * s * m + 1) (fun j hj => dw_top m j (by omega)) (x + 1 - (2 * s + 1)) (by omega)]
    omega
/-- what the class keeps of the offs, in the array cur -/
def OJ (cur : Nat) (I : mI) (L : mL) (s m : Nat) : Prop := I 11 1 = nI s ∧ I 11 2 = nI m ∧ L 11 0 = lN ((2 * s + 1) ^ m) ∧ ∀ x, x ≤ 2 * s * m → L cur x = lN (dw (2 * s + 1) m x)
/-- how many are within far -/
def wi (s m far : Nat) : Nat := sN (fun x => if ad x (m * s) ≤ far then dw (2 * s + 1) m x else 0) 321
theorem wi_J {s m far : Nat} (hc : m * s ≤ 160) : wi s m far = sN (dw (2 * s + 1) m) ((if m * s + far < 2 * (m * s) then m * s + far else 2 * (m * s)) + 1) - sN (dw (2 * s + 1) m) (m * s - far) := by
  have e2 : 2 * s * m = 2 * (m * s) := by rw [Nat.mul_assoc, Nat.mul_comm s m]
  unfold wi
  rw [sN_if (f := dw (2 * s + 1) m) (P := fun x => ad x (m * s) ≤ far) (P' := fun x => m * s - far ≤ x ∧ x < m * s + far + 1) 321 (fun x _ => by unfold ad; omega), sN_iv, show (if 321 < m * s - far then 321 else m * s - far) = m * s - far by rw [if_neg (by omega)]]
  congr 1
  by_cases q : m * s + far < 2 * (m * s)
  · rw [if_pos q, if_neg (by omega)]
  · rw [if_neg q]
    have t := fun j (hj : 2 * (m * s) + 1 ≤ j) => dw_top (s := s) m j (by omega)
    rw [sN_top t (if 321 < m * s + far + 1 then 321 else m * s + far + 1) (by split <;> omega)]
section Al
variable {g : gm_G} {I : mI} {L : mL} {c : gm_cfg}
theorem sm_b {s m : Nat} (hs : s ≤ 20) (hm : m ≤ 8) : m * s ≤ 160 ∧ 2 * s * m = 2 * (m * s) := ⟨by have := Nat.mul_le_mul hm hs; omega, by rw [Nat.mul_assoc, Nat.mul_comm s m]⟩
theorem j_start_ab {I0 : mI} {L0 : mL} {t : Option Nat} {Q : mI → mL → gm_cfg → Prop} {s : Nat} (hs : s ≤ 20) (hk : Keep I0 L0 I L) (hq : ∀ (I1 : mI) (L1 : mL), OJ 12 I1 L1 s 0 → Keep I0 L0 I1 L1 → Q I1 L1 ((some 12), (some 13), t)) : C_Of_start g (nI s) I L ((some 12), (some 13), t) Q := by
  refine e_Of_start_ab ?_
  have e1 : (if nI s < 20 then nI s else 20 : Int32) = nI s := by
    by_cases q : s < 20
    · have q2 : nI s < 20 := nI_lt (b := 20) q (by omega)
      rw [if_pos q2]
    · have q2 : ¬ nI s < 20 := nI_nlt (b := 20) (by omega) (by omega)
      rw [if_neg q2, show s = 20 by omega]; rfl
  have e2 : (if 0 < nI s then nI s else 0 : Int32) = nI s := by
    by_cases q : 0 < s
    · have q2 : 0 < nI s := nI_lt (a := 0) q (by omega)
      rw [if_pos q2]
    · have q2 : ¬ 0 < nI s := nI_nlt (a := 0) (by omega) (by omega)
      rw [if_neg q2, show s = 0 by omega]; rfl
  rw [e1, e2]
  refine hq _ _ ⟨rfl, rfl, rfl, fun x hx => ?_⟩ (((hk.tr ((Keep.u rfl).tr (Keep.u rfl))).uL rfl (by omega)).uL rfl (by omega))
  rw [show x = 0 by omega, gm_u_eq]; rfl
theorem j_within_ab {t : Option Nat} {Q : Int64 → mI → mL → gm_cfg → Prop} {s m far : Nat} (hs : s ≤ 20) (hm : m ≤ 8) (hf : far < 2 ^ 20) (ho : OJ 12 I L s m) (hq : Q (lN (wi s m far)) I L ((some 12), (some 13), t)) : C_Of_within g (nI far) I L ((some 12), (some 13), t) Q := by
  obtain ⟨b1, b2⟩ := sm_b hs hm
  obtain ⟨o1, o2, o3, o4⟩ := ho
  rw [wi_J b1] at hq
  refine e_Of_within_ab ?_
  rw [o1, o2, pk_mul, Nat.mul_comm s m]
  have e1 : (if 0 < nI (m * s) - nI far then nI (m * s) - nI far else 0 : Int32) = nI (m * s - far) := by
    rcases Nat.lt_or_ge far (m * s) with q | q
    · rw [pk_sub (by omega)]
      have q2 : 0 < nI (m * s - far) := nI_lt (a := 0) (by omega) (by omega)
      rw [if_pos q2]
    · rcases Nat.lt_or_ge (m * s) far with q2 | q2
      · have q3 := pk_sneg (a := m * s) (b := far) (by omega) q2
        rw [if_neg (fun w => by rw [Int32.lt_iff_toInt_lt] at w q3; omega), show m * s - far = 0 by omega]; rfl
      · rw [show far = m * s by omega, pk_sub (Nat.le_refl _), Nat.sub_self]; rfl
  rw [e1]
  have e2 : (if nI (m * s) + nI far < 2 * nI (m * s) then nI (m * s) + nI far else 2 * nI (m * s) : Int32) = nI (if m * s + far < 2 * (m * s) then m * s + far else 2 * (m * s)) := by
    rw [show (2 * nI (m * s) : Int32) = nI (2 * (m * s)) from pk_mul 2 _, nI_add]
    by_cases q : m * s + far < 2 * (m * s)
    · rw [if_pos q, if_pos (nI_lt q (by omega))]
    · rw [if_neg q, if_neg (nI_nlt (by omega) (by omega))]
  generalize hb : (if m * s + far < 2 * (m * s) then m * s + far else 2 * (m * s)) = b at hq e2
  have hb2 : m * s - far ≤ b + 1 ∧ b ≤ 2 * (m * s) := by rw [← hb]; split <;> omega
  have key := lp (P := fun x => m * s - far ≤ x → Z_Of_within g Q 21 [(0, .ref 11), (1, .int (nI far)), (2, .int (nI (m * s))), (3, .long (lN (sN (dw (2 * s + 1) m) x - sN (dw (2 * s + 1) m) (m * s - far)))), (5, .int (nI x))] [] I L ((some 12), (some 13), t)) (b + 1) ?_ ?_ (m * s - far) hb2.1
  · have := key (Nat.le_refl _)
    rw [Nat.sub_self] at this
    exact this
  · intro _
    exact r_Of_within_21_ab (br_t (by rw [e2]; exact nI_lt (by omega) (by omega)) hq)
  · intro x hx ih hax
    refine r_Of_within_21_ab (br_f (by rw [e2]; exact nI_nlt (by omega) (by omega)) (br_f (nI_ge (b := 321) (by omega) (by omega)) ⟨vp_in_nI (by omega) (by omega), ?_⟩))
    rw [nI_clamp (by omega), o4 x (by omega), lN_add, nI_1]
    have h1 := sN_mono (f := dw (2 * s + 1) m) (a := m * s - far) x hax
    have h2 : sN (dw (2 * s + 1) m) (x + 1) = sN (dw (2 * s + 1) m) x + dw (2 * s + 1) m x := rfl
    have := ih (by omega)
    rw [h2, show sN (dw (2 * s + 1) m) x + dw (2 * s + 1) m x - sN (dw (2 * s + 1) m) (m * s - far) = sN (dw (2 * s + 1) m) x - sN (dw (2 * s + 1) m) (m * s - far) + dw (2 * s + 1) m x by omega] at this
    exact this
theorem j_addOne_ab {I0 : mI} {L0 : mL} {t : Option Nat} {Q : mI → mL → gm_cfg → Prop} {s m : Nat} (hs : s ≤ 20) (hm : m < 8) (ho : OJ 12 I L s m) (hk : Keep I0 L0 I L) (hq : ∀ (I1 : mI) (L1 : mL), OJ 13 I1 L1 s (m + 1) → Keep I0 L0 I1 L1 → Q I1 L1 ((some 13), (some 12), t)) : C_Of_addOne g I L ((some 12), (some 13), t) Q := by
  obtain ⟨b1, b2⟩ := sm_b hs (show m ≤ 8 by omega)
  obtain ⟨c1, c2⟩ := sm_b hs (show m + 1 ≤ 8 by omega)
  have c3 : 2 * s * (m + 1) = 2 * s * m + 2 * s := Nat.mul_succ _ _
  obtain ⟨o1, o2, o3, o4⟩ := ho
  have dz : ∀ x, 2 * s * m < x → dw (2 * s + 1) m x = 0 := dw_top m
  refine e_Of_addOne_ab (br_t (by rw [o2]; exact nI_lt (b := 8) hm (by omega)) ?_)
  rw [o1, o2, show (2 * nI s : Int32) = nI (2 * s) from pk_mul 2 s, pk_mul]
  have key := lp0 (P := fun x => ∀ L1 : mL, Keep I0 L0 I L1 → L1 11 = L 11 → L1 12 = L 12 → (∀ y, y < x → L1 13 y = lN (dw (2 * s + 1) (m + 1) y)) → Z_Of_addOne g Q 34 [(0, .ref 11), (1, .int (nI (2 * s * m))), (2, .int (nI (2 * s))), (3, .long (lN (sN (dw (2 * s + 1) m) x - sN (dw (2 * s + 1) m) (x - (2 * s + 1))))), (5, .int (nI x))] [] I L1 ((some 12), (some 13), t)) (2 * s * m + 2 * s + 1) ?_ ?_
  · have k0 := key L hk rfl rfl (fun y hy => absurd hy (by omega))
    rw [show sN (dw (2 * s + 1) m) 0 - sN (dw (2 * s + 1) m) (0 - (2 * s + 1)) = 0 by show 0 - _ = 0; omega] at k0
    exact k0
  · intro L1 a1 a2 a3 a4
    refine r_Of_addOne_34_ab (br_t (by rw [nI_add]; exact nI_lt (by omega) (by omega)) (hq _ _ ⟨o1, ?_, ?_, fun x hx => ?_⟩ ((a1.tr (Keep.u rfl)).uL rfl (by omega))))
    · rw [gm_u_eq, o2, nI_1]
    · rw [gm_u_eq, a2, o3, nI_1, nI_l (by omega), lN_mul, Nat.pow_succ]
    · exact a4 x (by omega)
  · intro x hx ih L1 a1 a2 a3 a4
    have T : Int32.toNatClampNeg (nI x) = x := nI_clamp (by omega)
    have v321 : vp_in (nI x) 321 := vp_in_nI (by omega) (by omega)
    have S1 : sN (dw (2 * s + 1) m) (x + 1) = sN (dw (2 * s + 1) m) x + dw (2 * s + 1) m x := rfl
    have Dx : dw (2 * s + 1) (m + 1) x = sN (dw (2 * s + 1) m) (x + 1) - sN (dw (2 * s + 1) m) (x + 1 - (2 * s + 1)) := dw_s
    have go : ∀ v : Int64, v = lN (dw (2 * s + 1) (m + 1) x) → Z_Of_addOne g Q 34 [(0, .ref 11), (1, .int (nI (2 * s * m))), (2, .int (nI (2 * s))), (3, .long v), (5, .int (nI x + 1))] [] I (gm_u L1 13 x v) ((some 12), (some 13), t) := by
      intro v ev
      rw [nI_1, ev]
      have := ih (gm_u L1 13 x (lN (dw (2 * s + 1) (m + 1) x))) (a1.uL rfl (by omega)) a2 a3 (fun y hy => by
        rcases Nat.lt_or_ge y x with q | q
        · rw [gm_u_ne2 _ _ _ _ (by omega)]; exact a4 y q
        · rw [show y = x by omega, gm_u_eq])
      rw [← Dx] at this
      exact this
    have up : nI x - nI (2 * s) - 1 = nI (x - 2 * s - 1) ∨ x ≤ 2 * s := by
      rcases Nat.lt_or_ge (2 * s) x with q | q
      · left
        rw [pk_sub (by omega)]
        exact pk_sub (b := 1) (by omega)
      · exact Or.inr q
    refine r_Of_addOne_34_ab (br_f (by rw [nI_add]; exact nI_nlt (by omega) (by omega)) (br_f (nI_ge (b := 321) (by omega) (by omega)) ?_))
    rw [T]
    refine pk_lt (2 * s * m) x (fun z => pk_le x (2 * s) (fun z2 => ⟨v321, go _ ?_⟩) (fun z2 => ?_)) (fun z => ⟨v321, ?_⟩)
    · congr 1
      rw [Dx, S1, dz x z, show x + 1 - (2 * s + 1) = 0 by omega, show x - (2 * s + 1) = 0 by omega]; omega
    · have ex := up.resolve_right (by omega)
      rw [ex, nI_clamp (by omega), a3, o4 _ (by omega)]
      refine ⟨vp_in_nI (by omega) (by omega), v321, go _ ?_⟩
      have h1 : sN (dw (2 * s + 1) m) (x - 2 * s - 1 + 1) = sN (dw (2 * s + 1) m) (x - 2 * s - 1) + dw (2 * s + 1) m (x - 2 * s - 1) := rfl
      have h2 := sN_mono (f := dw (2 * s + 1) m) (a := x - 2 * s - 1 + 1) x (by omega)
      rw [show x - (2 * s + 1) = x - 2 * s - 1 by omega, lN_sub (by omega)]
      congr 1
      rw [Dx, S1, dz x z, show x + 1 - (2 * s + 1) = x - 2 * s - 1 + 1 by omega]; omega
    · rw [a3, o4 x z]
      refine pk_le x (2 * s) (fun z2 => ⟨v321, go _ ?_⟩) (fun z2 => ?_)
      · rw [lN_add]
        congr 1
        rw [Dx, S1, show x + 1 - (2 * s + 1) = 0 by omega, show x - (2 * s + 1) = 0 by omega]
        show sN _ x - 0 + _ = _ - 0
        omega
      · have ex := up.resolve_right (by omega)
        rw [ex, nI_clamp (by omega), o4 _ (by omega)]
        refine ⟨vp_in_nI (by omega) (by omega), v321, go _ ?_⟩
        have h1 : sN (dw (2 * s + 1) m) (x - 2 * s - 1 + 1) = sN (dw (2 * s + 1) m) (x - 2 * s - 1) + dw (2 * s + 1) m (x - 2 * s - 1) := rfl
        have h2 := sN_mono (f := dw (2 * s + 1) m) (a := x - 2 * s - 1 + 1) x (by omega)
        rw [show x - (2 * s + 1) = x - 2 * s - 1 by omega, lN_add, lN_sub (by omega)]
        congr 1
        rw [Dx, S1, show x + 1 - (2 * s + 1) = x - 2 * s - 1 + 1 by omega]; omega
theorem j_start_ba {I0 : mI} {L0 : mL} {t : Option Nat} {Q : mI → mL → gm_cfg → Prop} {s : Nat} (hs : s ≤ 20) (hk : Keep I0 L0 I L) (hq : ∀ (I1 : mI) (L1 : mL), OJ 13 I1 L1 s 0 → Keep I0 L0 I1 L1 → Q I1 L1 ((some 13), (some 12), t)) : C_Of_start g (nI s) I L ((some 13), (some 12), t) Q := by
  refine e_Of_start_ba ?_
  have e1 : (if nI s < 20 then nI s else 20 : Int32) = nI s := by
    by_cases q : s < 20
    · have q2 : nI s < 20 := nI_lt (b := 20) q (by omega)
      rw [if_pos q2]
    · have q2 : ¬ nI s < 20 := nI_nlt (b := 20) (by omega) (by omega)
      rw [if_neg q2, show s = 20 by omega]; rfl
  have e2 : (if 0 < nI s then nI s else 0 : Int32) = nI s := by
    by_cases q : 0 < s
    · have q2 : 0 < nI s := nI_lt (a := 0) q (by omega)
      rw [if_pos q2]
    · have q2 : ¬ 0 < nI s := nI_nlt (a := 0) (by omega) (by omega)
      rw [if_neg q2, show s = 0 by omega]; rfl
  rw [e1, e2]
  refine hq _ _ ⟨rfl, rfl, rfl, fun x hx => ?_⟩ (((hk.tr ((Keep.u rfl).tr (Keep.u rfl))).uL rfl (by omega)).uL rfl (by omega))
  rw [show x = 0 by omega, gm_u_eq]; rfl
theorem j_within_ba {t : Option Nat} {Q : Int64 → mI → mL → gm_cfg → Prop} {s m far : Nat} (hs : s ≤ 20) (hm : m ≤ 8) (hf : far < 2 ^ 20) (ho : OJ 13 I L s m) (hq : Q (lN (wi s m far)) I L ((some 13), (some 12), t)) : C_Of_within g (nI far) I L ((some 13), (some 12), t) Q := by
  obtain ⟨b1, b2⟩ := sm_b hs hm
  obtain ⟨o1, o2, o3, o4⟩ := ho
  rw [wi_J b1] at hq
  refine e_Of_within_ba ?_
  rw [o1, o2, pk_mul, Nat.mul_comm s m]
  have e1 : (if 0 < nI (m * s) - nI far then nI (m * s) - nI far else 0 : Int32) = nI (m * s - far) := by
    rcases Nat.lt_or_ge far (m * s) with q | q
    · rw [pk_sub (by omega)]
      have q2 : 0 < nI (m * s - far) := nI_lt (a := 0) (by omega) (by omega)
      rw [if_pos q2]
    · rcases Nat.lt_or_ge (m * s) far with q2 | q2
      · have q3 := pk_sneg (a := m * s) (b := far) (by omega) q2
        rw [if_neg (fun w => by rw [Int32.lt_iff_toInt_lt] at w q3; omega), show m * s - far = 0 by omega]; rfl
      · rw [show far = m * s by omega, pk_sub (Nat.le_refl _), Nat.sub_self]; rfl
  rw [e1]
  have e2 : (if nI (m * s) + nI far < 2 * nI (m * s) then nI (m * s) + nI far else 2 * nI (m * s) : Int32) = nI (if m * s + far < 2 * (m * s) then m * s + far else 2 * (m * s)) := by
    rw [show (2 * nI (m * s) : Int32) = nI (2 * (m * s)) from pk_mul 2 _, nI_add]
    by_cases q : m * s + far < 2 * (m * s)
    · rw [if_pos q, if_pos (nI_lt q (by omega))]
    · rw [if_neg q, if_neg (nI_nlt (by omega) (by omega))]
  generalize hb : (if m * s + far < 2 * (m * s) then m * s + far else 2 * (m * s)) = b at hq e2
  have hb2 : m * s - far ≤ b + 1 ∧ b ≤ 2 * (m * s) := by rw [← hb]; split <;> omega
  have key := lp (P := fun x => m * s - far ≤ x → Z_Of_within g Q 21 [(0, .ref 11), (1, .int (nI far)), (2, .int (nI (m * s))), (3, .long (lN (sN (dw (2 * s + 1) m) x - sN (dw (2 * s + 1) m) (m * s - far)))), (5, .int (nI x))] [] I L ((some 13), (some 12), t)) (b + 1) ?_ ?_ (m * s - far) hb2.1
  · have := key (Nat.le_refl _)
    rw [Nat.sub_self] at this
    exact this
  · intro _
    exact r_Of_within_21_ba (br_t (by rw [e2]; exact nI_lt (by omega) (by omega)) hq)
  · intro x hx ih hax
    refine r_Of_within_21_ba (br_f (by rw [e2]; exact nI_nlt (by omega) (by omega)) (br_f (nI_ge (b := 321) (by omega) (by omega)) ⟨vp_in_nI (by omega) (by omega), ?_⟩))
    rw [nI_clamp (by omega), o4 x (by omega), lN_add, nI_1]
    have h1 := sN_mono (f := dw (2 * s + 1) m) (a := m * s - far) x hax
    have h2 : sN (dw (2 * s + 1) m) (x + 1) = sN (dw (2 * s + 1) m) x + dw (2 * s + 1) m x := rfl
    have := ih (by omega)
    rw [h2, show sN (dw (2 * s + 1) m) x + dw (2 * s + 1) m x - sN (dw (2 * s + 1) m) (m * s - far) = sN (dw (2 * s + 1) m) x - sN (dw (2 * s + 1) m) (m * s - far) + dw (2 * s + 1) m x by omega] at this
    exact this
theorem j_addOne_ba {I0 : mI} {L0 : mL} {t : Option Nat} {Q : mI → mL → gm_cfg → Prop} {s m : Nat} (hs : s ≤ 20) (hm : m < 8) (ho : OJ 13 I L s m) (hk : Keep I0 L0 I L) (hq : ∀ (I1 : mI) (L1 : mL), OJ 12 I1 L1 s (m + 1) → Keep I0 L0 I1 L1 → Q I1 L1 ((some 12), (some 13), t)) : C_Of_addOne g I L ((some 13), (some 12), t) Q := by
  obtain ⟨b1, b2⟩ := sm_b hs (show m ≤ 8 by omega)
  obtain ⟨c1, c2⟩ := sm_b hs (show m + 1 ≤ 8 by omega)
  have c3 : 2 * s * (m + 1) = 2 * s * m + 2 * s := Nat.mul_succ _ _
  obtain ⟨o1, o2, o3, o4⟩ := ho
  have dz : ∀ x, 2 * s * m < x → dw (2 * s + 1) m x = 0 := dw_top m
  refine e_Of_addOne_ba (br_t (by rw [o2]; exact nI_lt (b := 8) hm (by omega)) ?_)
  rw [o1, o2, show (2 * nI s : Int32) = nI (2 * s) from pk_mul 2 s, pk_mul]
  have key := lp0 (P := fun x => ∀ L1 : mL, Keep I0 L0 I L1 → L1 11 = L 11 → L1 13 = L 13 → (∀ y, y < x → L1 12 y = lN (dw (2 * s + 1) (m + 1) y)) → Z_Of_addOne g Q 34 [(0, .ref 11), (1, .int (nI (2 * s * m))), (2, .int (nI (2 * s))), (3, .long (lN (sN (dw (2 * s + 1) m) x - sN (dw (2 * s + 1) m) (x - (2 * s + 1))))), (5, .int (nI x))] [] I L1 ((some 13), (some 12), t)) (2 * s * m + 2 * s + 1) ?_ ?_
  · have k0 := key L hk rfl rfl (fun y hy => absurd hy (by omega))
    rw [show sN (dw (2 * s + 1) m) 0 - sN (dw (2 * s + 1) m) (0 - (2 * s + 1)) = 0 by show 0 - _ = 0; omega] at k0
    exact k0
  · intro L1 a1 a2 a3 a4
    refine r_Of_addOne_34_ba (br_t (by rw [nI_add]; exact nI_lt (by omega) (by omega)) (hq _ _ ⟨o1, ?_, ?_, fun x hx => ?_⟩ ((a1.tr (Keep.u rfl)).uL rfl (by omega))))
    · rw [gm_u_eq, o2, nI_1]
    · rw [gm_u_eq, a2, o3, nI_1, nI_l (by omega), lN_mul, Nat.pow_succ]
    · exact a4 x (by omega)
  · intro x hx ih L1 a1 a2 a3 a4
    have T : Int32.toNatClampNeg (nI x) = x := nI_clamp (by omega)
    have v321 : vp_in (nI x) 321 := vp_in_nI (by omega) (by omega)
    have S1 : sN (dw (2 * s + 1) m) (x + 1) = sN (dw (2 * s + 1) m) x + dw (2 * s + 1) m x := rfl
    have Dx : dw (2 * s + 1) (m + 1) x = sN (dw (2 * s + 1) m) (x + 1) - sN (dw (2 * s + 1) m) (x + 1 - (2 * s + 1)) := dw_s
    have go : ∀ v : Int64, v = lN (dw (2 * s + 1) (m + 1) x) → Z_Of_addOne g Q 34 [(0, .ref 11), (1, .int (nI (2 * s * m))), (2, .int (nI (2 * s))), (3, .long v), (5, .int (nI x + 1))] [] I (gm_u L1 12 x v) ((some 13), (some 12), t) := by
      intro v ev
      rw [nI_1, ev]
      have := ih (gm_u L1 12 x (lN (dw (2 * s + 1) (m + 1) x))) (a1.uL rfl (by omega)) a2 a3 (fun y hy => by
        rcases Nat.lt_or_ge y x with q | q
        · rw [gm_u_ne2 _ _ _ _ (by omega)]; exact a4 y q
        · rw [show y = x by omega, gm_u_eq])
      rw [← Dx] at this
      exact this
    have up : nI x - nI (2 * s) - 1 = nI (x - 2 * s - 1) ∨ x ≤ 2 * s := by
      rcases Nat.lt_or_ge (2 * s) x with q | q
      · left
        rw [pk_sub (by omega)]
        exact pk_sub (b := 1) (by omega)
      · exact Or.inr q
    refine r_Of_addOne_34_ba (br_f (by rw [nI_add]; exact nI_nlt (by omega) (by omega)) (br_f (nI_ge (b := 321) (by omega) (by omega)) ?_))
    rw [T]
    refine pk_lt (2 * s * m) x (fun z => pk_le x (2 * s) (fun z2 => ⟨v321, go _ ?_⟩) (fun z2 => ?_)) (fun z => ⟨v321, ?_⟩)
    · congr 1
      rw [Dx, S1, dz x z, show x + 1 - (2 * s + 1) = 0 by omega, show x - (2 * s + 1) = 0 by omega]; omega
    · have ex := up.resolve_right (by omega)
      rw [ex, nI_clamp (by omega), a3, o4 _ (by omega)]
      refine ⟨vp_in_nI (by omega) (by omega), v321, go _ ?_⟩
      have h1 : sN (dw (2 * s + 1) m) (x - 2 * s - 1 + 1) = sN (dw (2 * s + 1) m) (x - 2 * s - 1) + dw (2 * s + 1) m (x - 2 * s - 1) := rfl
      have h2 := sN_mono (f := dw (2 * s + 1) m) (a := x - 2 * s - 1 + 1) x (by omega)
      rw [show x - (2 * s + 1) = x - 2 * s - 1 by omega, lN_sub (by omega)]
      congr 1
      rw [Dx, S1, dz x z, show x + 1 - (2 * s + 1) = x - 2 * s - 1 + 1 by omega]; omega
    · rw [a3, o4 x z]
      refine pk_le x (2 * s) (fun z2 => ⟨v321, go _ ?_⟩) (fun z2 => ?_)
      · rw [lN_add]
        congr 1
        rw [Dx, S1, show x + 1 - (2 * s + 1) = 0 by omega, show x - (2 * s + 1) = 0 by omega]
        show sN _ x - 0 + _ = _ - 0
        omega
      · have ex := up.resolve_right (by omega)
        rw [ex, nI_clamp (by omega), o4 _ (by omega)]
        refine ⟨vp_in_nI (by omega) (by omega), v321, go _ ?_⟩
        have h1 : sN (dw (2 * s + 1) m) (x - 2 * s - 1 + 1) = sN (dw (2 * s + 1) m) (x - 2 * s - 1) + dw (2 * s + 1) m (x - 2 * s - 1) := rfl
        have h2 := sN_mono (f := dw (2 * s + 1) m) (a := x - 2 * s - 1 + 1) x (by omega)
        rw [show x - (2 * s + 1) = x - 2 * s - 1 by omega, lN_add, lN_sub (by omega)]
        congr 1
        rw [Dx, S1, show x + 1 - (2 * s + 1) = x - 2 * s - 1 + 1 by omega]; omega
/-! the reference -/
theorem m_aloneOf {I0 : mI} {L0 : mL} {Q : Int64 → mI → mL → gm_cfg → Prop} {s n far : Nat} (hs : s ≤ 20) (hn : n ≤ 8) (hf : far ≤ 20) (hk : Keep I0 L0 I L) (hq : ∀ L1 : mL, Keep I0 L0 I L1 → Q (lN (wi s n (n * far))) I L1 c) : C_M_aloneOf g (nI s) (nI n) (nI far) I L c Q := by
  obtain ⟨b1, b2⟩ := sm_b hs hn
  have b3 : n * far ≤ 160 := by have := Nat.mul_le_mul hn hf; omega
  refine e_M_aloneOf ?_
  rw [show (2 * nI s + 1 : Int32) = nI (2 * s + 1) by rw [show (2 * nI s : Int32) = nI (2 * s) from pk_mul 2 s, nI_1]]
  have k1 := lp0 (P := fun x => ∀ L1 : mL, Keep I0 L0 I L1 → (∀ y, y < x → L1 69 y = lN (dw (2 * s + 1) 0 y)) → Z_M_aloneOf g Q 10 [(0, .ref 59), (1, .int (nI s)), (2, .int (nI n)), (3, .int (nI far)), (4, .int (nI (2 * s + 1))), (5, .int (nI x))] [] I L1 c) 321 ?_ ?_
  · exact k1 L hk (fun y hy => absurd hy (by omega))
  · intro L1 a1 a2
    refine r_M_aloneOf_10 (br_t (by decide) ?_)
    have k2 := lp0 (P := fun m => ∀ L2 : mL, Keep I0 L0 I L2 → (∀ y, y < 321 → L2 69 y = lN (dw (2 * s + 1) m y)) → Z_M_aloneOf g Q 44 [(0, .ref 59), (1, .int (nI s)), (2, .int (nI n)), (3, .int (nI far)), (4, .int (nI (2 * s + 1))), (5, .int (nI m))] [] I L2 c) n ?_ ?_
    · exact k2 L1 a1 a2
    · intro L2 d1 d2
      refine r_M_aloneOf_44 (br_t (nI_le (Nat.le_refl _) (by omega)) ?_)
      refine lp0 (P := fun x => Z_M_aloneOf g Q 161 [(0, .ref 59), (1, .int (nI s)), (2, .int (nI n)), (3, .int (nI far)), (4, .int (nI (2 * s + 1))), (5, .long (lN (sN (fun x => if ad x (n * s) ≤ n * far then dw (2 * s + 1) n x else 0) x))), (7, .int (nI x))] [] I L2 c) 321 ?_ ?_
      · exact r_M_aloneOf_161 (br_t (by decide) (hq L2 d1))
      · intro x hx ih
        have had : ad x (n * s) < 2 ^ 30 := by unfold ad; omega
        refine r_M_aloneOf_161 (br_f (nI_ge (b := 321) hx (by omega)) ?_)
        rw [pk_mul, pk_mul, nI_1]
        refine m_off (by omega) (by omega) ?_
        have st : sN (fun x => if ad x (n * s) ≤ n * far then dw (2 * s + 1) n x else 0) (x + 1) = sN (fun x => if ad x (n * s) ≤ n * far then dw (2 * s + 1) n x else 0) x + (if ad x (n * s) ≤ n * far then dw (2 * s + 1) n x else 0) := rfl
        rw [st] at ih
        refine pk_lt (n * far) (ad x (n * s)) (fun z => ?_) (fun z => ⟨vp_in_nI (by omega) (by omega), ?_⟩)
        · rw [if_neg (by omega)] at ih
          rw [Int64.add_zero]
          exact ih
        · rw [if_pos z] at ih
          rw [nI_clamp (by omega), d2 x hx, lN_add]
          exact ih
    · intro m hm ih L2 d1 d2
      refine r_M_aloneOf_44 (br_f (nI_ge hm (by omega)) ?_)
      have k3 := lp0 (P := fun x => ∀ L3 : mL, Keep I0 L0 I L3 → (∀ y, y < 321 → L3 69 y = lN (dw (2 * s + 1) m y)) → (∀ y, y < x → L3 70 y = lN (dw (2 * s + 1) (m + 1) y)) → Z_M_aloneOf g Q 53 [(0, .ref 59), (1, .int (nI s)), (2, .int (nI n)), (3, .int (nI far)), (4, .int (nI (2 * s + 1))), (5, .int (nI m)), (6, .int (nI x))] [] I L3 c) 321 ?_ ?_
      · exact k3 L2 d1 d2 (fun y hy => absurd hy (by omega))
      · intro L3 e1 e2 e3
        refine r_M_aloneOf_53 (br_t (by decide) ?_)
        have k5 := lp0 (P := fun x => ∀ L4 : mL, Keep I0 L0 I L4 → (∀ y, y < 321 → L4 70 y = lN (dw (2 * s + 1) (m + 1) y)) → (∀ y, y < x → L4 69 y = lN (dw (2 * s + 1) (m + 1) y)) → Z_M_aloneOf g Q 121 [(0, .ref 59), (1, .int (nI s)), (2, .int (nI n)), (3, .int (nI far)), (4, .int (nI (2 * s + 1))), (5, .int (nI m)), (6, .int (nI x))] [] I L4 c) 321 ?_ ?_
        · exact k5 L3 e1 e3 (fun y hy => absurd hy (by omega))
        · intro L4 f1 f2 f3
          refine r_M_aloneOf_121 (br_t (by decide) ?_)
          rw [nI_1]
          exact ih L4 f1 f3
        · intro x hx ih5 L4 f1 f2 f3
          refine r_M_aloneOf_121 (br_f (nI_ge (b := 321) hx (by omega)) ⟨vp_in_nI hx (by omega), vp_in_nI hx (by omega), ?_⟩)
          rw [nI_clamp (by omega), nI_1, f2 x hx]
          refine ih5 _ (f1.uL rfl (by omega)) f2 (fun y hy => ?_)
          rcases Nat.lt_or_ge y x with q | q
          · rw [gm_u_ne2 _ _ _ _ (by omega)]; exact f3 y q
          · rw [show y = x by omega, gm_u_eq]
      · intro x hx ih3 L3 e1 e2 e3
        have T : Int32.toNatClampNeg (nI x) = x := nI_clamp (by omega)
        have v321 : vp_in (nI x) 321 := vp_in_nI hx (by omega)
        refine r_M_aloneOf_53 (br_f (nI_ge (b := 321) hx (by omega)) ⟨v321, ?_⟩)
        rw [T]
        have G0 : dw (2 * s + 1) (m + 1) x = sN (fun d => if d ≤ x then dw (2 * s + 1) m (x - d) else 0) (2 * s + 1) := rfl
        generalize hG : (fun d => if d ≤ x then dw (2 * s + 1) m (x - d) else 0) = G at G0
        have eG : ∀ d, G d = if d ≤ x then dw (2 * s + 1) m (x - d) else 0 := fun d => by rw [← hG]
        have done : ∀ L4 : mL, Keep I0 L0 I L4 → (∀ y, y < 321 → L4 69 y = lN (dw (2 * s + 1) m y)) → (∀ y, y < x → L4 70 y = lN (dw (2 * s + 1) (m + 1) y)) → L4 70 x = lN (dw (2 * s + 1) (m + 1) x) → Z_M_aloneOf g Q 53 [(0, .ref 59), (1, .int (nI s)), (2, .int (nI n)), (3, .int (nI far)), (4, .int (nI (2 * s + 1))), (5, .int (nI m)), (6, .int (nI x + 1))] [] I L4 c := by
          intro L4 f1 f2 f3 f4
          rw [nI_1]
          refine ih3 L4 f1 f2 (fun y hy => ?_)
          rcases Nat.lt_or_ge y x with q | q
          · exact f3 y q
          · rw [show y = x by omega]; exact f4
        have k4 := lp0 (P := fun d => ∀ L4 : mL, Keep I0 L0 I L4 → (∀ y, y < 321 → L4 69 y = lN (dw (2 * s + 1) m y)) → (∀ y, y < x → L4 70 y = lN (dw (2 * s + 1) (m + 1) y)) → L4 70 x = lN (sN G d) → Z_M_aloneOf g Q 72 [(0, .ref 59), (1, .int (nI s)), (2, .int (nI n)), (3, .int (nI far)), (4, .int (nI (2 * s + 1))), (5, .int (nI m)), (6, .int (nI x)), (7, .int (nI d))] [] I L4 c) (2 * s + 1) ?_ ?_
        · refine k4 _ (e1.uL rfl (by omega)) e2 (fun y hy => ?_) (gm_u_eq _ _ _ _)
          rw [gm_u_ne2 _ _ _ _ (by omega)]; exact e3 y hy
        · intro L4 f1 f2 f3 f4
          refine r_M_aloneOf_72 (br_t (nI_le (Nat.le_refl _) (by omega)) (done L4 f1 f2 f3 ?_))
          rw [f4, G0]
        · intro d hd ih4 L4 f1 f2 f3 f4
          refine r_M_aloneOf_72 (br_f (nI_ge hd (by omega)) (pk_lt x d (fun z => done L4 f1 f2 f3 ?_) (fun z => ⟨v321, ?_⟩)))
          · rw [f4, G0, sN_top (f := G) (a := d) (fun j hj => by rw [eG, if_neg (by omega)]) (2 * s + 1) (by omega)]
          · rw [pk_sub z]
            refine ⟨vp_in_nI (by omega) (by omega), v321, ?_⟩
            rw [T, nI_clamp (by omega), f2 _ (by omega), f4, lN_add, nI_1]
            refine ih4 _ (f1.uL rfl (by omega)) f2 (fun y hy => ?_) ?_
            · rw [gm_u_ne2 _ _ _ _ (by omega)]; exact f3 y hy
            · rw [gm_u_eq]
              show _ = lN (sN G d + G d)
              rw [eG, if_pos z]
  · intro x hx ih L1 a1 a2
    have v321 : vp_in (nI x) 321 := vp_in_nI hx (by omega)
    refine r_M_aloneOf_10 (br_f (nI_ge (b := 321) hx (by omega)) (pk_eq x 0 (fun z => ⟨v321, ?_⟩) (fun z => ⟨v321, ?_⟩)))
    · rw [nI_clamp (by omega), nI_1]
      refine ih _ (a1.uL rfl (by omega)) (fun y hy => ?_)
      rcases Nat.lt_or_ge y x with q | q
      · omega
      · rw [show y = x by omega, gm_u_eq, z]; rfl
    · rw [nI_clamp (by omega), nI_1]
      refine ih _ (a1.uL rfl (by omega)) (fun y hy => ?_)
      rcases Nat.lt_or_ge y x with q | q
      · rw [gm_u_ne2 _ _ _ _ (by omega)]; exact a2 y q
      · rw [show y = x by omega, gm_u_eq]
        show (0 : Int64) = lN (if x = 0 then 1 else 0)
        rw [if_neg z]; rfl
theorem CF_flip {t : Option Nat} : CF (some 12, some 13, t) ∧ CF (some 13, some 12, t) := ⟨⟨t, Or.inl rfl⟩, ⟨t, Or.inr rfl⟩⟩
theorem fin2 {I I' : mI} {L L' : mL} {c c' : gm_cfg} {α : Type} {r r' : α} (h : Inv I L c) (hc : CF c') (e : r = r') (k : Keep I L I' L') : r = r' ∧ Inv I' L' c' := ⟨e, h.keep k hc⟩
theorem P_alone_ab {x y z : Int32} {t : Option Nat} (hI : Inv I L (some 12, some 13, t)) : C_J_alone g x y z I L (some 12, some 13, t) (mQ (C_M_alone g x y z)) := by
  have h : FS0 I := hI.1
  have hT : FM (gm_u I 59 0 0) := FM.k (FS0.m h) (kT (L := L))
  have hN := fN h
  rcases inR x (nv I 0) (by omega) with ⟨j, hj, rfl⟩ | hx
  · refine e_J_alone_ab (j_hasT h hj ⟨rfl, bt ?_⟩)
    obtain ⟨g1, g2, g3⟩ := fGs h hj
    rcases inAB y 1 8 (by omega) (by omega) with ⟨n, n1, n2, rfl⟩ | hy
    · refine br_f (nI_nlt (b := 1) n1 (by omega)) (br_f (nI_nlt (a := 8) n2 (by omega)) ?_)
      rcases inAB z 0 20 (by omega) (by omega) with ⟨fa, -, f2, rfl⟩ | hz
      · refine br_f (nI_pos (by omega)) (br_t (nI_le (b := 20) f2 (by omega)) ⟨vp_in_nI (by omega) (by omega), ?_⟩)
        rw [nI_clamp (by omega), g2.2.2]
        have fb : n * fa < 2 ^ 20 := by have := Nat.mul_le_mul n2 f2; omega
        have M : ∀ (I2 : mI) (L2 : mL) (c2 : gm_cfg), CF c2 → Keep I L I2 L2 → mQ (C_M_alone g (nI j) (nI n) (nI fa)) (lN (wi (nv I (17 + j)) n (n * fa))) I2 L2 c2 := by
          intro I2 L2 c2 hc k2
          have k3 := k2.tr (kT (I := I2) (L := L2))
          have hT2 : FM (gm_u I2 59 0 0) := FM.k (FS0.m h) k3
          have e17 : Int32.toNatClampNeg (17 + nI j) = 17 + j := ixa 17 j (by omega)
          refine e_M_alone (m_isGuesserT hT2 (by rw [nv_k k3]; exact hj) (bt (m_wt (a := 1) (b := 8) rfl rfl n1 n2 (by omega) (bt (m_0t (n := 20) rfl (by omega) f2 (bt ⟨via 17 j 330 (by omega) (by omega), ?_⟩))))))
          rw [e17, show (gm_u I2 59 0 0) 60 (17 + j) = nI (nv I (17 + j)) by rw [I60_k k3]; exact g2.1]
          exact m_aloneOf (I0 := I) (L0 := L) g2.2.1 n2 f2 k3 (fun L3 k4 => fin2 hI hc rfl k4)
        refine j_start_ab (I0 := I) (L0 := L) g2.2.1 Keep.rf (fun I1 L1 o1 k1 => ⟨rfl, ?_⟩)
        have key := lp0 (P := fun m => (∀ (I1 : mI) (L1 : mL), OJ 12 I1 L1 (nv I (17 + j)) m → Keep I L I1 L1 → Z_J_alone g (mQ (C_M_alone g (nI j) (nI n) (nI fa))) 59 [(0, .ref 0), (1, .int (nI j)), (2, .int (nI n)), (3, .int (nI fa)), (4, .int (nI m))] [] I1 L1 (some 12, some 13, t)) ∧ (∀ (I1 : mI) (L1 : mL), OJ 13 I1 L1 (nv I (17 + j)) m → Keep I L I1 L1 → Z_J_alone g (mQ (C_M_alone g (nI j) (nI n) (nI fa))) 59 [(0, .ref 0), (1, .int (nI j)), (2, .int (nI n)), (3, .int (nI fa)), (4, .int (nI m))] [] I1 L1 (some 13, some 12, t))) n ?_ ?_
        · exact key.1 I1 L1 o1 k1
        · constructor
          · intro I2 L2 o2 k2
            refine r_J_alone_59_ab (br_t (nI_le (Nat.le_refl _) (by omega)) ?_)
            rw [pk_mul]
            exact j_within_ab g2.2.1 n2 fb o2 ⟨rfl, M I2 L2 _ CF_flip.1 k2⟩
          · intro I2 L2 o2 k2
            refine r_J_alone_59_ba (br_t (nI_le (Nat.le_refl _) (by omega)) ?_)
            rw [pk_mul]
            exact j_within_ba g2.2.1 n2 fb o2 ⟨rfl, M I2 L2 _ CF_flip.2 k2⟩
        · intro m hm ih
          constructor
          · intro I2 L2 o2 k2
            refine r_J_alone_59_ab (br_f (nI_ge hm (by omega)) (j_addOne_ab g2.2.1 (by omega) o2 k2 (fun I3 L3 o3 k3 => ⟨rfl, ?_⟩)))
            rw [nI_1]; exact ih.2 I3 L3 o3 k3
          · intro I2 L2 o2 k2
            refine r_J_alone_59_ba (br_f (nI_ge hm (by omega)) (j_addOne_ba g2.2.1 (by omega) o2 k2 (fun I3 L3 o3 k3 => ⟨rfl, ?_⟩)))
            rw [nI_1]; exact ih.1 I3 L3 o3 k3
      · have M : mQ (C_M_alone g (nI j) (nI n) z) (-3) I L (some 12, some 13, t) := e_M_alone (m_isGuesserT hT hj (bt (m_wt (a := 1) (b := 8) rfl rfl n1 n2 (by omega) (bt (m_wf (a := 0) (b := 20) rfl rfl (by omega) (by omega) hz (bf (fin hI rfl kT)))))))
        refine br_c (fun _ => M) (fun q => br_f (fun w => ?_) M)
        have hz' := hz.resolve_left q
        rw [Int32.le_iff_toInt_le] at w
        rw [Int32.lt_iff_toInt_lt] at hz'
        have e1 : (20 : Int32).toInt = 20 := rfl
        have e2 : (nI 20).toInt = 20 := rfl
        omega
    · have M : mQ (C_M_alone g (nI j) y z) (-3) I L (some 12, some 13, t) := e_M_alone (m_isGuesserT hT hj (bt (m_wf (a := 1) (b := 8) rfl rfl (by omega) (by omega) hy (bf (fin hI rfl kT)))))
      exact br_c (fun _ => M) (fun q => br_t (hy.resolve_left q) M)
  · exact e_J_alone_ab (j_hasF h hx ⟨rfl, bf (e_M_alone (m_isGuesserF hT hx (bf (fin hI rfl kT))))⟩)
theorem P_fewest_ab {x y z : Int32} {t : Option Nat} (hI : Inv I L (some 12, some 13, t)) : C_J_fewest g x y z I L (some 12, some 13, t) (mQ (C_M_fewest g x y z)) := by
  have h : FS0 I := hI.1
  have hT : FM (gm_u I 59 0 0) := FM.k (FS0.m h) (kT (L := L))
  have hN := fN h
  rcases inR x (nv I 0) (by omega) with ⟨j, hj, rfl⟩ | hx
  · refine e_J_fewest_ab (j_hasT h hj ⟨rfl, bt ?_⟩)
    obtain ⟨g1, g2, g3⟩ := fGs h hj
    rcases inAB y 0 20 (by omega) (by omega) with ⟨fa, -, f2, rfl⟩ | hy
    · refine br_f (nI_pos (by omega)) (br_f (nI_nlt (a := 20) f2 (by omega)) ?_)
      rcases inAB z 0 100 (by omega) (by omega) with ⟨pc, -, p2, rfl⟩ | hz
      · refine br_f (nI_pos (by omega)) (br_t (nI_le (b := 100) p2 (by omega)) ⟨vp_in_nI (by omega) (by omega), ?_⟩)
        rw [nI_clamp (by omega), g2.2.2]
        obtain ⟨m, m1, m2, m3⟩ := SR_ex (fun k => ¬ lN (wi (nv I (17 + j)) (k + 1) ((k + 1) * fa)) * 100 < Int32.toInt64 (nI pc) * lN ((2 * nv I (17 + j) + 1) ^ (k + 1))) 8
        have m2' : ∀ k, k < m → lN (wi (nv I (17 + j)) (k + 1) ((k + 1) * fa)) * 100 < Int32.toInt64 (nI pc) * lN ((2 * nv I (17 + j) + 1) ^ (k + 1)) := fun k hk => Classical.not_not.mp (m2 k hk)
        have M : ∀ (I2 : mI) (L2 : mL) (c2 : gm_cfg), CF c2 → Keep I L I2 L2 → mQ (C_M_fewest g (nI j) (nI fa) (nI pc)) (if m < 8 then nI (m + 1) else -1) I2 L2 c2 := by
          intro I2 L2 c2 hc k2
          have k3 := k2.tr (kT (I := I2) (L := L2))
          have hT2 : FM (gm_u I2 59 0 0) := FM.k (FS0.m h) k3
          have e17 : Int32.toNatClampNeg (17 + nI j) = 17 + j := ixa 17 j (by omega)
          have v17 : vp_in (17 + nI j) 330 := via 17 j 330 (by omega) (by omega)
          refine e_M_fewest (m_isGuesserT hT2 (by rw [nv_k k3]; exact hj) (bt (m_0t (n := 20) rfl (by omega) f2 (bt (m_0t (n := 100) rfl (by omega) p2 (bt ?_))))))
          have key := lp0 (P := fun k => ∀ L3 : mL, Keep I L (gm_u I2 59 0 0) L3 → Z_M_fewest g (fun r' I2 L2 c2 => (if m < 8 then nI (m + 1) else -1) = r' ∧ Inv I2 L2 c2) 50 [(0, .ref 59), (1, .int (nI j)), (2, .int (nI fa)), (3, .int (nI pc)), (4, .long (lN ((2 * nv I (17 + j) + 1) ^ k))), (6, .int (nI (k + 1)))] [] (gm_u I2 59 0 0) L3 c2) m ?_ ?_
          · exact key L2 k3
          · intro L3 k4
            rcases Nat.lt_or_ge m 8 with q | q
            · rw [if_pos q]
              refine r_M_fewest_50 (br_f (nI_ge (b := 9) (by omega) (by omega)) ⟨v17, v17, ?_⟩)
              rw [e17, show (gm_u I2 59 0 0) 60 (17 + j) = nI (nv I (17 + j)) by rw [I60_k k3]; exact g2.1]
              refine m_aloneOf (I0 := I) (L0 := L) g2.2.1 (by omega) f2 k4 (fun L5 k5 => br_f ?_ (fin2 hI hc rfl k5))
              rw [show (2 * nI (nv I (17 + j)) + 1 : Int32) = nI (2 * nv I (17 + j) + 1) by rw [show (2 * nI (nv I (17 + j)) : Int32) = nI (2 * nv I (17 + j)) from pk_mul 2 _, nI_1], nI_l (n := 2 * nv I (17 + j) + 1) (by omega), lN_mul, ← Nat.pow_succ, Int64.mul_comm]
              exact m3 q
            · rw [if_neg (by omega)]
              exact r_M_fewest_50 (br_t (nI_le (a := 9) (by omega) (by omega)) (fin2 hI hc rfl k4))
          · intro k hk ih L3 k4
            refine r_M_fewest_50 (br_f (nI_ge (b := 9) (by omega) (by omega)) ⟨v17, v17, ?_⟩)
            rw [e17, show (gm_u I2 59 0 0) 60 (17 + j) = nI (nv I (17 + j)) by rw [I60_k k3]; exact g2.1]
            refine m_aloneOf (I0 := I) (L0 := L) g2.2.1 (by omega) f2 k4 (fun L5 k5 => ?_)
            rw [show (2 * nI (nv I (17 + j)) + 1 : Int32) = nI (2 * nv I (17 + j) + 1) by rw [show (2 * nI (nv I (17 + j)) : Int32) = nI (2 * nv I (17 + j)) from pk_mul 2 _, nI_1], nI_l (n := 2 * nv I (17 + j) + 1) (by omega), lN_mul, ← Nat.pow_succ, nI_1]
            refine br_t ?_ (ih L5 k5)
            rw [Int64.mul_comm]
            exact m2' k hk
        refine j_start_ab (I0 := I) (L0 := L) g2.2.1 Keep.rf (fun I1 L1 o1 k1 => ⟨rfl, ?_⟩)
        have key := lp0 (P := fun k => (∀ (I1 : mI) (L1 : mL), OJ 12 I1 L1 (nv I (17 + j)) k → Keep I L I1 L1 → Z_J_fewest g (mQ (C_M_fewest g (nI j) (nI fa) (nI pc))) 56 [(0, .ref 0), (1, .int (nI j)), (2, .int (nI fa)), (3, .int (nI pc)), (4, .int (nI (k + 1)))] [] I1 L1 (some 12, some 13, t)) ∧ (∀ (I1 : mI) (L1 : mL), OJ 13 I1 L1 (nv I (17 + j)) k → Keep I L I1 L1 → Z_J_fewest g (mQ (C_M_fewest g (nI j) (nI fa) (nI pc))) 56 [(0, .ref 0), (1, .int (nI j)), (2, .int (nI fa)), (3, .int (nI pc)), (4, .int (nI (k + 1)))] [] I1 L1 (some 13, some 12, t))) m ?_ ?_
        · exact key.1 I1 L1 o1 k1
        · constructor
          · intro I2 L2 o2 k2
            rcases Nat.lt_or_ge m 8 with q | q
            · refine r_J_fewest_56_ab (br_f (nI_nlt (a := 8) (by omega) (by omega)) (j_addOne_ab g2.2.1 (by omega) o2 k2 (fun I3 L3 o3 k3 => ⟨rfl, ?_⟩)))
              rw [pk_mul]
              have fb : (m + 1) * fa < 2 ^ 20 := by have := Nat.mul_le_mul (show m + 1 ≤ 8 by omega) f2; omega
              refine j_within_ba g2.2.1 (by omega) fb o3 ⟨rfl, br_f ?_ ?_⟩
              · rw [o3.2.2.1]; exact m3 q
              · have := M I3 L3 _ (CF_flip (t := t)).2 k3
                rw [if_pos q] at this
                exact this
            · have := M I2 L2 _ (CF_flip (t := t)).1 k2
              rw [if_neg (by omega)] at this
              exact r_J_fewest_56_ab (br_t (nI_lt (a := 8) (by omega) (by omega)) this)
          · intro I2 L2 o2 k2
            rcases Nat.lt_or_ge m 8 with q | q
            · refine r_J_fewest_56_ba (br_f (nI_nlt (a := 8) (by omega) (by omega)) (j_addOne_ba g2.2.1 (by omega) o2 k2 (fun I3 L3 o3 k3 => ⟨rfl, ?_⟩)))
              rw [pk_mul]
              have fb : (m + 1) * fa < 2 ^ 20 := by have := Nat.mul_le_mul (show m + 1 ≤ 8 by omega) f2; omega
              refine j_within_ab g2.2.1 (by omega) fb o3 ⟨rfl, br_f ?_ ?_⟩
              · rw [o3.2.2.1]; exact m3 q
              · have := M I3 L3 _ (CF_flip (t := t)).1 k3
                rw [if_pos q] at this
                exact this
            · have := M I2 L2 _ (CF_flip (t := t)).2 k2
              rw [if_neg (by omega)] at this
              exact r_J_fewest_56_ba (br_t (nI_lt (a := 8) (by omega) (by omega)) this)
        · intro k hk ih
          constructor
          · intro I2 L2 o2 k2
            refine r_J_fewest_56_ab (br_f (nI_nlt (a := 8) (by omega) (by omega)) (j_addOne_ab g2.2.1 (by omega) o2 k2 (fun I3 L3 o3 k3 => ⟨rfl, ?_⟩)))
            rw [pk_mul]
            have fb : (k + 1) * fa < 2 ^ 20 := by have := Nat.mul_le_mul (show k + 1 ≤ 8 by omega) f2; omega
            refine j_within_ba g2.2.1 (by omega) fb o3 ⟨rfl, br_t ?_ ?_⟩
            · rw [o3.2.2.1]; exact m2' k hk
            · rw [nI_1]; exact ih.2 I3 L3 o3 k3
          · intro I2 L2 o2 k2
            refine r_J_fewest_56_ba (br_f (nI_nlt (a := 8) (by omega) (by omega)) (j_addOne_ba g2.2.1 (by omega) o2 k2 (fun I3 L3 o3 k3 => ⟨rfl, ?_⟩)))
            rw [pk_mul]
            have fb : (k + 1) * fa < 2 ^ 20 := by have := Nat.mul_le_mul (show k + 1 ≤ 8 by omega) f2; omega
            refine j_within_ab g2.2.1 (by omega) fb o3 ⟨rfl, br_t ?_ ?_⟩
            · rw [o3.2.2.1]; exact m2' k hk
            · rw [nI_1]; exact ih.1 I3 L3 o3 k3
      · have M : mQ (C_M_fewest g (nI j) (nI fa) z) (-3) I L (some 12, some 13, t) := e_M_fewest (m_isGuesserT hT hj (bt (m_0t (n := 20) rfl (by omega) f2 (bt (m_wf (a := 0) (b := 100) rfl rfl (by omega) (by omega) hz (bf (fin hI rfl kT)))))))
        refine br_c (fun _ => M) (fun q => br_f (fun w => ?_) M)
        have hz' := hz.resolve_left q
        rw [Int32.le_iff_toInt_le] at w
        rw [Int32.lt_iff_toInt_lt] at hz'
        have e1 : (100 : Int32).toInt = 100 := rfl
        have e2 : (nI 100).toInt = 100 := rfl
        omega
    · have M : mQ (C_M_fewest g (nI j) y z) (-3) I L (some 12, some 13, t) := e_M_fewest (m_isGuesserT hT hj (bt (m_wf (a := 0) (b := 20) rfl rfl (by omega) (by omega) hy (bf (fin hI rfl kT)))))
      exact br_c (fun _ => M) (fun q => br_t (hy.resolve_left q) M)
  · exact e_J_fewest_ab (j_hasF h hx ⟨rfl, bf (e_M_fewest (m_isGuesserF hT hx (bf (fin hI rfl kT))))⟩)
theorem P_alone_ba {x y z : Int32} {t : Option Nat} (hI : Inv I L (some 13, some 12, t)) : C_J_alone g x y z I L (some 13, some 12, t) (mQ (C_M_alone g x y z)) := by
  have h : FS0 I := hI.1
  have hT : FM (gm_u I 59 0 0) := FM.k (FS0.m h) (kT (L := L))
  have hN := fN h
  rcases inR x (nv I 0) (by omega) with ⟨j, hj, rfl⟩ | hx
  · refine e_J_alone_ba (j_hasT h hj ⟨rfl, bt ?_⟩)
    obtain ⟨g1, g2, g3⟩ := fGs h hj
    rcases inAB y 1 8 (by omega) (by omega) with ⟨n, n1, n2, rfl⟩ | hy
    · refine br_f (nI_nlt (b := 1) n1 (by omega)) (br_f (nI_nlt (a := 8) n2 (by omega)) ?_)
      rcases inAB z 0 20 (by omega) (by omega) with ⟨fa, -, f2, rfl⟩ | hz
      · refine br_f (nI_pos (by omega)) (br_t (nI_le (b := 20) f2 (by omega)) ⟨vp_in_nI (by omega) (by omega), ?_⟩)
        rw [nI_clamp (by omega), g2.2.2]
        have fb : n * fa < 2 ^ 20 := by have := Nat.mul_le_mul n2 f2; omega
        have M : ∀ (I2 : mI) (L2 : mL) (c2 : gm_cfg), CF c2 → Keep I L I2 L2 → mQ (C_M_alone g (nI j) (nI n) (nI fa)) (lN (wi (nv I (17 + j)) n (n * fa))) I2 L2 c2 := by
          intro I2 L2 c2 hc k2
          have k3 := k2.tr (kT (I := I2) (L := L2))
          have hT2 : FM (gm_u I2 59 0 0) := FM.k (FS0.m h) k3
          have e17 : Int32.toNatClampNeg (17 + nI j) = 17 + j := ixa 17 j (by omega)
          refine e_M_alone (m_isGuesserT hT2 (by rw [nv_k k3]; exact hj) (bt (m_wt (a := 1) (b := 8) rfl rfl n1 n2 (by omega) (bt (m_0t (n := 20) rfl (by omega) f2 (bt ⟨via 17 j 330 (by omega) (by omega), ?_⟩))))))
          rw [e17, show (gm_u I2 59 0 0) 60 (17 + j) = nI (nv I (17 + j)) by rw [I60_k k3]; exact g2.1]
          exact m_aloneOf (I0 := I) (L0 := L) g2.2.1 n2 f2 k3 (fun L3 k4 => fin2 hI hc rfl k4)
        refine j_start_ba (I0 := I) (L0 := L) g2.2.1 Keep.rf (fun I1 L1 o1 k1 => ⟨rfl, ?_⟩)
        have key := lp0 (P := fun m => (∀ (I1 : mI) (L1 : mL), OJ 12 I1 L1 (nv I (17 + j)) m → Keep I L I1 L1 → Z_J_alone g (mQ (C_M_alone g (nI j) (nI n) (nI fa))) 59 [(0, .ref 0), (1, .int (nI j)), (2, .int (nI n)), (3, .int (nI fa)), (4, .int (nI m))] [] I1 L1 (some 12, some 13, t)) ∧ (∀ (I1 : mI) (L1 : mL), OJ 13 I1 L1 (nv I (17 + j)) m → Keep I L I1 L1 → Z_J_alone g (mQ (C_M_alone g (nI j) (nI n) (nI fa))) 59 [(0, .ref 0), (1, .int (nI j)), (2, .int (nI n)), (3, .int (nI fa)), (4, .int (nI m))] [] I1 L1 (some 13, some 12, t))) n ?_ ?_
        · exact key.2 I1 L1 o1 k1
        · constructor
          · intro I2 L2 o2 k2
            refine r_J_alone_59_ab (br_t (nI_le (Nat.le_refl _) (by omega)) ?_)
            rw [pk_mul]
            exact j_within_ab g2.2.1 n2 fb o2 ⟨rfl, M I2 L2 _ CF_flip.1 k2⟩
          · intro I2 L2 o2 k2
            refine r_J_alone_59_ba (br_t (nI_le (Nat.le_refl _) (by omega)) ?_)
            rw [pk_mul]
            exact j_within_ba g2.2.1 n2 fb o2 ⟨rfl, M I2 L2 _ CF_flip.2 k2⟩
        · intro m hm ih
          constructor
          · intro I2 L2 o2 k2
            refine r_J_alone_59_ab (br_f (nI_ge hm (by omega)) (j_addOne_ab g2.2.1 (by omega) o2 k2 (fun I3 L3 o3 k3 => ⟨rfl, ?_⟩)))
            rw [nI_1]; exact ih.2 I3 L3 o3 k3
          · intro I2 L2 o2 k2
            refine r_J_alone_59_ba (br_f (nI_ge hm (by omega)) (j_addOne_ba g2.2.1 (by omega) o2 k2 (fun I3 L3 o3 k3 => ⟨rfl, ?_⟩)))
            rw [nI_1]; exact ih.1 I3 L3 o3 k3
      · have M : mQ (C_M_alone g (nI j) (nI n) z) (-3) I L (some 13, some 12, t) := e_M_alone (m_isGuesserT hT hj (bt (m_wt (a := 1) (b := 8) rfl rfl n1 n2 (by omega) (bt (m_wf (a := 0) (b := 20) rfl rfl (by omega) (by omega) hz (bf (fin hI rfl kT)))))))
        refine br_c (fun _ => M) (fun q => br_f (fun w => ?_) M)
        have hz' := hz.resolve_left q
        rw [Int32.le_iff_toInt_le] at w
        rw [Int32.lt_iff_toInt_lt] at hz'
        have e1 : (20 : Int32).toInt = 20 := rfl
        have e2 : (nI 20).toInt = 20 := rfl
        omega
    · have M : mQ (C_M_alone g (nI j) y z) (-3) I L (some 13, some 12, t) := e_M_alone (m_isGuesserT hT hj (bt (m_wf (a := 1) (b := 8) rfl rfl (by omega) (by omega) hy (bf (fin hI rfl kT)))))
      exact br_c (fun _ => M) (fun q => br_t (hy.resolve_left q) M)
  · exact e_J_alone_ba (j_hasF h hx ⟨rfl, bf (e_M_alone (m_isGuesserF hT hx (bf (fin hI rfl kT))))⟩)
theorem P_fewest_ba {x y z : Int32} {t : Option Nat} (hI : Inv I L (some 13, some 12, t)) : C_J_fewest g x y z I L (some 13, some 12, t) (mQ (C_M_fewest g x y z)) := by
  have h : FS0 I := hI.1
  have hT : FM (gm_u I 59 0 0) := FM.k (FS0.m h) (kT (L := L))
  have hN := fN h
  rcases inR x (nv I 0) (by omega) with ⟨j, hj, rfl⟩ | hx
  · refine e_J_fewest_ba (j_hasT h hj ⟨rfl, bt ?_⟩)
    obtain ⟨g1, g2, g3⟩ := fGs h hj
    rcases inAB y 0 20 (by omega) (by omega) with ⟨fa, -, f2, rfl⟩ | hy
    · refine br_f (nI_pos (by omega)) (br_f (nI_nlt (a := 20) f2 (by omega)) ?_)
      rcases inAB z 0 100 (by omega) (by omega) with ⟨pc, -, p2, rfl⟩ | hz
      · refine br_f (nI_pos (by omega)) (br_t (nI_le (b := 100) p2 (by omega)) ⟨vp_in_nI (by omega) (by omega), ?_⟩)
        rw [nI_clamp (by omega), g2.2.2]
        obtain ⟨m, m1, m2, m3⟩ := SR_ex (fun k => ¬ lN (wi (nv I (17 + j)) (k + 1) ((k + 1) * fa)) * 100 < Int32.toInt64 (nI pc) * lN ((2 * nv I (17 + j) + 1) ^ (k + 1))) 8
        have m2' : ∀ k, k < m → lN (wi (nv I (17 + j)) (k + 1) ((k + 1) * fa)) * 100 < Int32.toInt64 (nI pc) * lN ((2 * nv I (17 + j) + 1) ^ (k + 1)) := fun k hk => Classical.not_not.mp (m2 k hk)
        have M : ∀ (I2 : mI) (L2 : mL) (c2 : gm_cfg), CF c2 → Keep I L I2 L2 → mQ (C_M_fewest g (nI j) (nI fa) (nI pc)) (if m < 8 then nI (m + 1) else -1) I2 L2 c2 := by
          intro I2 L2 c2 hc k2
          have k3 := k2.tr (kT (I := I2) (L := L2))
          have hT2 : FM (gm_u I2 59 0 0) := FM.k (FS0.m h) k3
          have e17 : Int32.toNatClampNeg (17 + nI j) = 17 + j := ixa 17 j (by omega)
          have v17 : vp_in (17 + nI j) 330 := via 17 j 330 (by omega) (by omega)
          refine e_M_fewest (m_isGuesserT hT2 (by rw [nv_k k3]; exact hj) (bt (m_0t (n := 20) rfl (by omega) f2 (bt (m_0t (n := 100) rfl (by omega) p2 (bt ?_))))))
          have key := lp0 (P := fun k => ∀ L3 : mL, Keep I L (gm_u I2 59 0 0) L3 → Z_M_fewest g (fun r' I2 L2 c2 => (if m < 8 then nI (m + 1) else -1) = r' ∧ Inv I2 L2 c2) 50 [(0, .ref 59), (1, .int (nI j)), (2, .int (nI fa)), (3, .int (nI pc)), (4, .long (lN ((2 * nv I (17 + j) + 1) ^ k))), (6, .int (nI (k + 1)))] [] (gm_u I2 59 0 0) L3 c2) m ?_ ?_
          · exact key L2 k3
          · intro L3 k4
            rcases Nat.lt_or_ge m 8 with q | q
            · rw [if_pos q]
              refine r_M_fewest_50 (br_f (nI_ge (b := 9) (by omega) (by omega)) ⟨v17, v17, ?_⟩)
              rw [e17, show (gm_u I2 59 0 0) 60 (17 + j) = nI (nv I (17 + j)) by rw [I60_k k3]; exact g2.1]
              refine m_aloneOf (I0 := I) (L0 := L) g2.2.1 (by omega) f2 k4 (fun L5 k5 => br_f ?_ (fin2 hI hc rfl k5))
              rw [show (2 * nI (nv I (17 + j)) + 1 : Int32) = nI (2 * nv I (17 + j) + 1) by rw [show (2 * nI (nv I (17 + j)) : Int32) = nI (2 * nv I (17 + j)) from pk_mul 2 _, nI_1], nI_l (n := 2 * nv I (17 + j) + 1) (by omega), lN_mul, ← Nat.pow_succ, Int64.mul_comm]
              exact m3 q
            · rw [if_neg (by omega)]
              exact r_M_fewest_50 (br_t (nI_le (a := 9) (by omega) (by omega)) (fin2 hI hc rfl k4))
          · intro k hk ih L3 k4
            refine r_M_fewest_50 (br_f (nI_ge (b := 9) (by omega) (by omega)) ⟨v17, v17, ?_⟩)
            rw [e17, show (gm_u I2 59 0 0) 60 (17 + j) = nI (nv I (17 + j)) by rw [I60_k k3]; exact g2.1]
            refine m_aloneOf (I0 := I) (L0 := L) g2.2.1 (by omega) f2 k4 (fun L5 k5 => ?_)
            rw [show (2 * nI (nv I (17 + j)) + 1 : Int32) = nI (2 * nv I (17 + j) + 1) by rw [show (2 * nI (nv I (17 + j)) : Int32) = nI (2 * nv I (17 + j)) from pk_mul 2 _, nI_1], nI_l (n := 2 * nv I (17 + j) + 1) (by omega), lN_mul, ← Nat.pow_succ, nI_1]
            refine br_t ?_ (ih L5 k5)
            rw [Int64.mul_comm]
            exact m2' k hk
        refine j_start_ba (I0 := I) (L0 := L) g2.2.1 Keep.rf (fun I1 L1 o1 k1 => ⟨rfl, ?_⟩)
        have key := lp0 (P := fun k => (∀ (I1 : mI) (L1 : mL), OJ 12 I1 L1 (nv I (17 + j)) k → Keep I L I1 L1 → Z_J_fewest g (mQ (C_M_fewest g (nI j) (nI fa) (nI pc))) 56 [(0, .ref 0), (1, .int (nI j)), (2, .int (nI fa)), (3, .int (nI pc)), (4, .int (nI (k + 1)))] [] I1 L1 (some 12, some 13, t)) ∧ (∀ (I1 : mI) (L1 : mL), OJ 13 I1 L1 (nv I (17 + j)) k → Keep I L I1 L1 → Z_J_fewest g (mQ (C_M_fewest g (nI j) (nI fa) (nI pc))) 56 [(0, .ref 0), (1, .int (nI j)), (2, .int (nI fa)), (3, .int (nI pc)), (4, .int (nI (k + 1)))] [] I1 L1 (some 13, some 12, t))) m ?_ ?_
        · exact key.2 I1 L1 o1 k1
        · constructor
          · intro I2 L2 o2 k2
            rcases Nat.lt_or_ge m 8 with q | q
            · refine r_J_fewest_56_ab (br_f (nI_nlt (a := 8) (by omega) (by omega)) (j_addOne_ab g2.2.1 (by omega) o2 k2 (fun I3 L3 o3 k3 => ⟨rfl, ?_⟩)))
              rw [pk_mul]
              have fb : (m + 1) * fa < 2 ^ 20 := by have := Nat.mul_le_mul (show m + 1 ≤ 8 by omega) f2; omega
              refine j_within_ba g2.2.1 (by omega) fb o3 ⟨rfl, br_f ?_ ?_⟩
              · rw [o3.2.2.1]; exact m3 q
              · have := M I3 L3 _ (CF_flip (t := t)).2 k3
                rw [if_pos q] at this
                exact this
            · have := M I2 L2 _ (CF_flip (t := t)).1 k2
              rw [if_neg (by omega)] at this
              exact r_J_fewest_56_ab (br_t (nI_lt (a := 8) (by omega) (by omega)) this)
          · intro I2 L2 o2 k2
            rcases Nat.lt_or_ge m 8 with q | q
            · refine r_J_fewest_56_ba (br_f (nI_nlt (a := 8) (by omega) (by omega)) (j_addOne_ba g2.2.1 (by omega) o2 k2 (fun I3 L3 o3 k3 => ⟨rfl, ?_⟩)))
              rw [pk_mul]
              have fb : (m + 1) * fa < 2 ^ 20 := by have := Nat.mul_le_mul (show m + 1 ≤ 8 by omega) f2; omega
              refine j_within_ab g2.2.1 (by omega) fb o3 ⟨rfl, br_f ?_ ?_⟩
              · rw [o3.2.2.1]; exact m3 q
              · have := M I3 L3 _ (CF_flip (t := t)).1 k3
                rw [if_pos q] at this
                exact this
            · have := M I2 L2 _ (CF_flip (t := t)).2 k2
              rw [if_neg (by omega)] at this
              exact r_J_fewest_56_ba (br_t (nI_lt (a := 8) (by omega) (by omega)) this)
        · intro k hk ih
          constructor
          · intro I2 L2 o2 k2
            refine r_J_fewest_56_ab (br_f (nI_nlt (a := 8) (by omega) (by omega)) (j_addOne_ab g2.2.1 (by omega) o2 k2 (fun I3 L3 o3 k3 => ⟨rfl, ?_⟩)))
            rw [pk_mul]
            have fb : (k + 1) * fa < 2 ^ 20 := by have := Nat.mul_le_mul (show k + 1 ≤ 8 by omega) f2; omega
            refine j_within_ba g2.2.1 (by omega) fb o3 ⟨rfl, br_t ?_ ?_⟩
            · rw [o3.2.2.1]; exact m2' k hk
            · rw [nI_1]; exact ih.2 I3 L3 o3 k3
          · intro I2 L2 o2 k2
            refine r_J_fewest_56_ba (br_f (nI_nlt (a := 8) (by omega) (by omega)) (j_addOne_ba g2.2.1 (by omega) o2 k2 (fun I3 L3 o3 k3 => ⟨rfl, ?_⟩)))
            rw [pk_mul]
            have fb : (k + 1) * fa < 2 ^ 20 := by have := Nat.mul_le_mul (show k + 1 ≤ 8 by omega) f2; omega
            refine j_within_ab g2.2.1 (by omega) fb o3 ⟨rfl, br_t ?_ ?_⟩
            · rw [o3.2.2.1]; exact m2' k hk
            · rw [nI_1]; exact ih.1 I3 L3 o3 k3
      · have M : mQ (C_M_fewest g (nI j) (nI fa) z) (-3) I L (some 13, some 12, t) := e_M_fewest (m_isGuesserT hT hj (bt (m_0t (n := 20) rfl (by omega) f2 (bt (m_wf (a := 0) (b := 100) rfl rfl (by omega) (by omega) hz (bf (fin hI rfl kT)))))))
        refine br_c (fun _ => M) (fun q => br_f (fun w => ?_) M)
        have hz' := hz.resolve_left q
        rw [Int32.le_iff_toInt_le] at w
        rw [Int32.lt_iff_toInt_lt] at hz'
        have e1 : (100 : Int32).toInt = 100 := rfl
        have e2 : (nI 100).toInt = 100 := rfl
        omega
    · have M : mQ (C_M_fewest g (nI j) y z) (-3) I L (some 13, some 12, t) := e_M_fewest (m_isGuesserT hT hj (bt (m_wf (a := 0) (b := 20) rfl rfl (by omega) (by omega) hy (bf (fin hI rfl kT)))))
      exact br_c (fun _ => M) (fun q => br_t (hy.resolve_left q) M)
  · exact e_J_fewest_ba (j_hasF h hx ⟨rfl, bf (e_M_fewest (m_isGuesserF hT hx (bf (fin hI rfl kT))))⟩)
theorem P_alone {x y z : Int32} (hI : Inv I L c) : C_J_alone g x y z I L c (mQ (C_M_alone g x y z)) := by
  obtain ⟨t, rfl | rfl⟩ := hI.cf
  · exact P_alone_ab hI
  · exact P_alone_ba hI
theorem P_fewest {x y z : Int32} (hI : Inv I L c) : C_J_fewest g x y z I L c (mQ (C_M_fewest g x y z)) := by
  obtain ⟨t, rfl | rfl⟩ := hI.cf
  · exact P_fewest_ab hI
  · exact P_fewest_ba hI
end Al
