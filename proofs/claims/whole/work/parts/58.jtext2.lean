/-! the class reads a text -/
theorem nu1_t {F : Nat → Nat} {n p lo hi : Nat} {K : Nat → Nat → Sum (Nat × Nat) ((Nat → Int32) × Nat)} (z : nf F n p lo hi = 0) : nu1 F n p lo hi K = K (xv F n p) (xe F n p) := if_pos z
theorem nu1_f {F : Nat → Nat} {n p lo hi : Nat} {K : Nat → Nat → Sum (Nat × Nat) ((Nat → Int32) × Nat)} (z : ¬ nf F n p lo hi = 0) : nu1 F n p lo hi K = Sum.inl (nf F n p lo hi, xb F n p) := if_neg z
/-- a line's end -/
def lt (F : Nat → Nat) (n : Nat) (D : Nat → Int32) (q : Nat) : Sum (Nat × Nat) ((Nat → Int32) × Nat) := if xk F n q = 10 then Sum.inr (us D 8 (D 8 + 1), xe F n q) else Sum.inl (fq F n q 2, xb F n q)
theorem ll_l {F : Nat → Nat} {n p : Nat} {D : Nat → Int32} {x : Nat × Nat} (h : ln F n D p = Sum.inl x) : ll F n D p = Sum.inl x := by unfold ll; rw [h]
theorem ll_r {F : Nat → Nat} {n p q : Nat} {D D' : Nat → Int32} (h : ln F n D p = Sum.inr (D', q)) : ll F n D p = lt F n D' q := by unfold ll; rw [h]; rfl
/-- what holds for each way in which a line may end well -/
theorem nu1_ind {F : Nat → Nat} {n p lo hi : Nat} {P : (Nat → Int32) × Nat → Prop} {K : Nat → Nat → Sum (Nat × Nat) ((Nat → Int32) × Nat)} {x : (Nat → Int32) × Nat} (h : nu1 F n p lo hi K = Sum.inr x) (hp : p ≤ n) (k : ∀ v, lo ≤ v → v ≤ hi → ∀ q, p ≤ q → q ≤ n → K v q = Sum.inr x → P x) : P x := by
  by_cases z : nf F n p lo hi = 0
  · rw [nu1_t z] at h
    obtain ⟨-, z2, z3, -⟩ := nf9 z
    have := xe_le (F := F) hp
    exact k _ z2 z3 _ (by omega) this.1 h
  · rw [nu1_f z] at h
    cases h
theorem ln_ind {F : Nat → Nat} {n p : Nat} {D : Nat → Int32} {P : (Nat → Int32) × Nat → Prop} {x : (Nat → Int32) × Nat} (h : ln F n D p = Sum.inr x) (hp : p ≤ n)
    (k0 : ∀ v v2 q, 1 ≤ v → v ≤ 999 → v ≤ v2 → v2 ≤ v + 199 → p ≤ q → q ≤ n → P (us (us D 2 (nI v)) 3 (nI v2), q))
    (k1 : ∀ v v2 q, v ≤ 999 → v2 ≤ 8 → p ≤ q → q ≤ n → P (us (us D 9 (nI v)) 10 (nI v2), q))
    (k2 : ∀ v v2 v3 q, ¬ D 0 = 6 → 1 ≤ v → v ≤ 200 → v2 ≤ 20 → v3 ≤ 10 → p ≤ q → q ≤ n → P (gs1 D v v2 v3, q))
    (k4 : ∀ q, p ≤ q → q ≤ n → P (us D 7 1, q))
    (k5 : ∀ v q, v ≤ 99 → p ≤ q → q ≤ n → P (us D 4 (nI v), q))
    (k6 : ∀ v q, v ≤ 9999 → p ≤ q → q ≤ n → P (us D 5 (nI v), q))
    (k7 : ∀ v q, v ≤ 999 → p ≤ q → q ≤ n → P (us D 6 (nI v), q)) : P x := by
  have xl := xe_le (F := F) hp
  unfold ln at h
  split at h
  · refine nu1_ind h xl.1 (fun v a1 a2 q b1 b2 h => nu1_ind h b2 (fun v2 a3 a4 q2 b3 b4 h => ?_))
    cases h
    exact k0 _ _ _ a1 a2 a3 a4 (by omega) b4
  split at h
  · refine nu1_ind h xl.1 (fun v a1 a2 q b1 b2 h => nu1_ind h b2 (fun v2 a3 a4 q2 b3 b4 h => ?_))
    cases h
    exact k1 _ _ _ a2 a4 (by omega) b4
  split at h
  · split at h
    · cases h
    · rename_i z6
      refine nu1_ind h xl.1 (fun v a1 a2 q b1 b2 h => nu1_ind h b2 (fun v2 a3 a4 q2 b3 b4 h => ?_))
      split at h
      · have xl2 := xe_le (F := F) b4
        refine nu1_ind h xl2.1 (fun v3 a5 a6 q3 b5 b6 h => ?_)
        cases h
        exact k2 _ _ _ _ z6 a1 a2 a4 a6 (by omega) b6
      · cases h
        exact k2 _ _ _ _ z6 a1 a2 a4 (by omega) (by omega) b4
  split at h
  · cases h
    exact k4 _ (by omega) xl.1
  split at h
  · refine nu1_ind h xl.1 (fun v a1 a2 q b1 b2 h => ?_)
    cases h
    exact k5 _ _ a2 (by omega) b2
  split at h
  · refine nu1_ind h xl.1 (fun v a1 a2 q b1 b2 h => ?_)
    cases h
    exact k6 _ _ a2 (by omega) b2
  split at h
  · refine nu1_ind h xl.1 (fun v a1 a2 q b1 b2 h => ?_)
    cases h
    exact k7 _ _ a2 (by omega) b2
  · cases h
theorem ln_q {F : Nat → Nat} {n p q : Nat} {D D' : Nat → Int32} (h : ln F n D p = Sum.inr (D', q)) (hp : p ≤ n) : p ≤ q ∧ q ≤ n :=
  ln_ind (P := fun x => p ≤ x.2 ∧ x.2 ≤ n) h hp (fun _ _ _ _ _ _ _ a b => ⟨a, b⟩) (fun _ _ _ _ _ a b => ⟨a, b⟩) (fun _ _ _ _ _ _ _ _ _ a b => ⟨a, b⟩) (fun _ a b => ⟨a, b⟩) (fun _ _ _ a b => ⟨a, b⟩) (fun _ _ _ a b => ⟨a, b⟩) (fun _ _ _ a b => ⟨a, b⟩)
theorem xk_10 {F : Nat → Nat} {n p : Nat} (h : xk F n p ≠ 11) : xb F n p < n := by
  unfold xk at h
  split at h
  · exact absurd rfl h
  · omega
theorem xk_n {F : Nat → Nat} {n : Nat} : xk F n n = 11 := by
  have := (ru_spec F n isB n).1
  unfold xk
  rw [if_pos (show n ≤ xb F n n from this)]
theorem ll_q {F : Nat → Nat} {n p q : Nat} {D D' : Nat → Int32} (h : ll F n D p = Sum.inr (D', q)) (hp : p ≤ n) : p < q ∧ q ≤ n := by
  cases e : ln F n D p with
  | inl x => rw [ll_l e] at h; cases h
  | inr x =>
    obtain ⟨D1, q1⟩ := x
    rw [ll_r e] at h
    have a := ln_q e hp
    have b := xe_le (F := F) a.2
    unfold lt at h
    split at h
    · rename_i z
      have := xk_10 (F := F) (n := n) (p := q1) (by omega)
      cases h
      omega
    · cases h
section Jt
variable {g : gm_G} {I : mI} {L : mL} {w a t : Option Nat}
theorem PT_l {c : gm_cfg} {I0 : mI} {Q : mI → mL → gm_cfg → Prop} {x : Nat × Nat} (h : PT L c I0 Q (Sum.inl x)) : ∀ I', KO pD I0 I' → I' 6 0 = nI x.1 → I' 6 1 = nI x.2 → Q I' L c := h
theorem j_lines {Q : mI → mL → gm_cfg → Prop} {n : Nat} {F : Nat → Nat} {I0 : mI} {x2 : Int32} (hn : n ≤ 700) : ∀ f k p D I, k + f = n → k ≤ p → p ≤ n → TX I n F → NJ I n F p → DR I D → I 6 0 = 0 → I 6 1 = -1 → KO pD I0 I → PT L (w, a, some 1) I0 Q (tx F n f D p) → Z_Rd_readText_1_2 g Q 41 [(0, .ref 6), (1, .ref 1), (2, .int x2), (3, .ref 2), (4, .int (nI k))] [] I L (w, a, (some 1)) := by
  intro f
  induction f with
  | zero =>
    intro k p D I hk hkp hp e h d f0 f1 ko hl
    have e3 := e.2.1
    refine r_Rd_readText_1_2_41 (br_t ?_ (hl I ko f0 f1 d))
    rw [e3]
    exact nI_le (by omega) (by omega)
  | succ f ih =>
    intro k p D I hk hkp hp e h d f0 f1 ko hl
    have e3 := e.2.1
    have hx := xk_b (F := F) (n := n) (p := p)
    have hj := jc_b (xk F n p)
    unfold tx at hl
    refine r_Rd_readText_1_2_41 (br_f ?_ ?_)
    · rw [e3]
      exact nI_ge (by omega) (by omega)
    rw [h.1]
    refine pk_eq (jc (xk F n p)) 3 (fun z => ?_) (fun z => ?_)
    · rw [if_pos ((jc_23 hx).2.mp z)] at hl
      exact hl I ko f0 f1 d
    rw [if_neg (fun q => z ((jc_23 hx).2.mpr q))] at hl
    refine j_line e hp h d ?_
    cases e1 : ln F n D p with
    | inl x =>
      rw [ll_l e1] at hl
      exact fun I' a1 a2 a3 => ⟨rfl, bf (hl I' (ko.tr a1) a2 a3)⟩
    | inr x =>
      obtain ⟨D1, q⟩ := x
      rw [ll_r e1] at hl
      have lq := ln_q e1 hp
      intro I' a1 a2 a3 a4 a5
      refine ⟨rfl, bt ?_⟩
      have e' : TX I' n F := ⟨hn, by rw [a2 3 (by omega)]; exact e3, fun k hk => ⟨(e.2.2 k hk).1, by rw [a1 1 rfl]; exact (e.2.2 k hk).2⟩⟩
      have xl := xe_le (F := F) lq.2
      refine j_end e' a4 a3 (fun z I5 f5 n5 => ⟨rfl, bt ?_⟩) (fun z I5 b1 b2 b3 => ⟨rfl, bf ?_⟩)
      · have hl2 : PT L (w, a, some 1) I0 Q (tx F n f (us D1 8 (D1 8 + 1)) (xe F n q)) := by
          unfold lt at hl
          rw [if_pos z] at hl
          exact hl
        have z' : xk F n q = 10 := z
        have xq := xk_10 (F := F) (n := n) (p := q) (by omega)
        have d5 : DR I5 D1 := DR_k a5 f5.1
        rw [nI_1]
        refine ih (k + 1) (xe F n q) (us D1 8 (D1 8 + 1)) _ (by omega) (by omega) xl.1 (TX_k (TX_f e' f5) rfl rfl) (NJ_k n5 rfl) (DR_1 (i := 13) (k := 8) d5 (by omega) (fun j hj => gm_u_ne2 _ _ _ _ hj) ?_ rfl rfl rfl) ?_ ?_ (KO.u rfl (ko.tr (a1.tr (n6D f5.1)))) hl2
        · rw [gm_u_eq]
          obtain ⟨m, -, -, -, -, -, -, -, -, -, q13, -⟩ := d5
          rw [q13]
        · show I5 6 0 = 0
          rw [f5.2 0 (by omega), a2 0 (by omega)]
          exact f0
        · show I5 6 1 = -1
          rw [f5.2 1 (by omega), a2 1 (by omega)]
          exact f1
      · have hl2 : PT L (w, a, some 1) I0 Q (Sum.inl (fq F n q 2, xb F n q)) := by
          unfold lt at hl
          rw [if_neg z] at hl
          exact hl
        exact hl2 I5 (ko.tr (a1.tr (n6D b1))) b2 b3
/-- the row at the start -/
def D0 : Nat → Int32 := us (us (us (us (us (fun _ => 0) 2 1) 3 100) 4 10) 5 100) 10 (-1)
theorem j_text {Q : mI → mL → gm_cfg → Prop} {n : Nat} {F : Nat → Nat} (hn : n ≤ 700) (hF : ∀ k, k < n → F k < 256 ∧ I 1 k = jb (F k)) (hl : PT L (w, a, some 1) I Q (tx F n n D0 0)) : C_Rd_readText_1_2 g (nI n) I L (w, a, t) Q := by
  refine e_Rd_readText_1_2 (e_Fe2_clear ⟨rfl, ?_⟩)
  have e0 : (if 700 < nI n then 700 else nI n : Int32) = nI n := if_neg (fun z => by have := nlt (a := 700) z (by omega) (by omega); omega)
  rw [e0]
  refine j_nextTok (p := 0) (n := n) (F := F) ⟨hn, rfl, fun k hk => ⟨(hF k hk).1, (hF k hk).2⟩⟩ (by omega) rfl (fun I1 f1 n1 => ⟨rfl, ?_⟩)
  have g2 := f1.1 2 rfl
  have g6 : ∀ k, k < 4 → _ := fun k hk => f1.2 k (Or.inl hk)
  refine j_lines hn n 0 0 D0 I1 (by omega) (by omega) (by omega) ⟨hn, g6 3 (by omega), fun k hk => ⟨(hF k hk).1, by rw [f1.1 1 rfl]; exact (hF k hk).2⟩⟩ n1 ⟨0, by omega, rfl, ?_, ?_, ?_, ?_, ?_, ?_, ?_, ?_, ?_, fun j hj => absurd hj (by omega)⟩ (g6 0 (by omega)) (g6 1 (by omega)) (KO.tr ?_ (n6D f1.1)) hl
  · rw [g2]; rfl
  · rw [g2]; rfl
  · rw [g2]; rfl
  · rw [g2]; rfl
  · rw [g2]; rfl
  · rw [g2]; rfl
  · rw [g2]; rfl
  · rw [g2]; rfl
  · rw [g2]; exact Or.inl ⟨rfl, rfl⟩
  · intro o q
    have : o ≠ 2 ∧ o ≠ 6 := by
      refine ⟨?_, ?_⟩ <;> (rintro rfl; cases q)
    simp only [gm_u_ne _ _ _ this.1, gm_u_ne _ _ _ this.2]
end Jt
