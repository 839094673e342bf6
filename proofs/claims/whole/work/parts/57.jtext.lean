/-! the class reads a line and a text -/
section Js
variable {g : gm_G} {I : mI} {L : mL} {w a : Option Nat}
theorem j_line {Q : Bool → mI → mL → gm_cfg → Prop} {n p : Nat} {F : Nat → Nat} {D : Nat → Int32} (e : TX I n F) (hp : p ≤ n) (h : NJ I n F p) (d : DR I D) (hl : PL L (w, a, some 1) n F I Q (ln F n D p)) : C_Rd_readLine_2 g I L (w, a, some 1) Q := by
  unfold ln at hl
  have xl := (xe_le (F := F) hp).1
  have k3 : ∀ {I1 : mI}, FR I I1 → ∀ k, k < 4 → I1 6 k = I 6 k := fun f k hk => f.2 k (Or.inl hk)
  refine e_Rd_readLine_2 (j_takeW0 e hp h (fun z0 I1 f1 h1 => ⟨rfl, bt ?_⟩) (fun z0 => ⟨rfl, bf ?_⟩))
  · rw [if_pos z0] at hl
    exact j_grid (TX_f e f1) xl h1 (DR_k d f1.1) (n6D f1.1) (k3 f1) (Q := fun b I' L' c' => c' = (w, a, some 1) ∧ Q b I' L' (w, a, some 1)) (by
      revert hl
      generalize nu1 F n (xe F n p) 1 999 _ = r
      cases r with
      | inl x => exact fun hl I' q1 q2 q3 => ⟨rfl, hl I' q1 q2 q3⟩
      | inr x => exact fun hl I' q1 q2 q3 q4 q5 => ⟨rfl, hl I' q1 q2 q3 q4 q5⟩)
  rw [if_neg z0] at hl
  refine j_takeW1 e hp h (fun z1 I1 f1 h1 => ⟨rfl, bt ?_⟩) (fun z1 => ⟨rfl, bf ?_⟩)
  · rw [if_pos z1] at hl
    exact j_prior (TX_f e f1) xl h1 (DR_k d f1.1) (n6D f1.1) (k3 f1) (Q := fun b I' L' c' => c' = (w, a, some 1) ∧ Q b I' L' (w, a, some 1)) (by
      revert hl
      generalize nu1 F n (xe F n p) 0 999 _ = r
      cases r with
      | inl x => exact fun hl I' q1 q2 q3 => ⟨rfl, hl I' q1 q2 q3⟩
      | inr x => exact fun hl I' q1 q2 q3 q4 q5 => ⟨rfl, hl I' q1 q2 q3 q4 q5⟩)
  rw [if_neg z1] at hl
  refine j_isW2 e hp h (fun z2 => ⟨rfl, bt ?_⟩) (fun z2 => ⟨rfl, bf ?_⟩)
  · rw [if_pos z2] at hl
    exact j_guesser e hp h z2 d (Q := fun b I' L' c' => c' = (w, a, some 1) ∧ Q b I' L' (w, a, some 1)) (by
      revert hl
      generalize (if D 0 = 6 then _ else _ : Sum (Nat × Nat) ((Nat → Int32) × Nat)) = r
      cases r with
      | inl x => exact fun hl I' q1 q2 q3 => ⟨rfl, hl I' q1 q2 q3⟩
      | inr x => exact fun hl I' q1 q2 q3 q4 q5 => ⟨rfl, hl I' q1 q2 q3 q4 q5⟩)
  rw [if_neg z2] at hl
  refine j_takeW4 e hp h (fun z4 I1 f1 h1 => ⟨rfl, bt ?_⟩) (fun z4 => ⟨rfl, bf ?_⟩)
  · rw [if_pos z4] at hl
    refine hl _ (KO.u rfl (n6D f1.1)) (fun k hk => k3 f1 k hk) (NJ_k h1 rfl) xl (DR_1 (i := 9) (k := 7) d (by omega) (fun j hj => ?_) (gm_u_eq _ _ _ _) (f1.1 3 rfl) (f1.1 4 rfl) (f1.1 5 rfl))
    rw [gm_u_ne2 _ _ _ _ hj, f1.1 2 rfl]
  rw [if_neg z4] at hl
  refine j_takeW5 e hp h (fun z5 I1 f1 h1 => ⟨rfl, bt ?_⟩) (fun z5 => ⟨rfl, bf ?_⟩)
  · rw [if_pos z5] at hl
    exact j_one (lo := 0) (hi := 99) (i := 10) (k := 4) (TX_f e f1) xl h1 (DR_k d f1.1) (n6D f1.1) (k3 f1) (by omega) (by omega) (by omega) hl
  rw [if_neg z5] at hl
  refine j_takeW6 e hp h (fun z6 I1 f1 h1 => ⟨rfl, bt ?_⟩) (fun z6 => ⟨rfl, bf ?_⟩)
  · rw [if_pos z6] at hl
    exact j_one (lo := 0) (hi := 9999) (i := 11) (k := 5) (TX_f e f1) xl h1 (DR_k d f1.1) (n6D f1.1) (k3 f1) (by omega) (by omega) (by omega) hl
  rw [if_neg z6] at hl
  refine j_takeW7 e hp h (fun z7 I1 f1 h1 => ⟨rfl, bt ?_⟩) (fun z7 => ⟨rfl, bf ?_⟩)
  · rw [if_pos z7] at hl
    exact j_one (lo := 1) (hi := 999) (i := 12) (k := 6) (TX_f e f1) xl h1 (DR_k d f1.1) (n6D f1.1) (k3 f1) (by omega) (by omega) (by omega) hl
  rw [if_neg z7] at hl
  exact j_refuse (q := 2) h (fun I' a1 a2 a3 => ⟨rfl, hl I' (n6D a1) a2 a3⟩)
theorem j_end {Q : Bool → mI → mL → gm_cfg → Prop} {n p : Nat} {F : Nat → Nat} (e : TX I n F) (hp : p ≤ n) (h : NJ I n F p) (k1 : xk F n p = 10 → ∀ I', FR I I' → NJ I' n F (xe F n p) → Q true I' L (w, a, some 1)) (k2 : ¬ xk F n p = 10 → ∀ I', KO n6 I I' → I' 6 0 = nI (fq F n p 2) → I' 6 1 = nI (xb F n p) → Q false I' L (w, a, some 1)) : C_Rd_endLine g I L (w, a, some 1) Q := by
  have hk := xk_b (F := F) (n := n) (p := p)
  have hj := jc_b (xk F n p)
  refine e_Rd_endLine ?_
  rw [h.1]
  refine pk_eq (jc (xk F n p)) 2 (fun z => j_nextTok e (xe_le hp).1 h.2.2.1 (fun I' f1 f2 => ⟨rfl, k1 ((jc_23 hk).1.mp z) I' f1 f2⟩)) (fun z => j_refuse (q := 2) h (fun I' a1 a2 a3 => ⟨rfl, k2 (fun u => z ((jc_23 hk).1.mpr u)) I' a1 a2 a3⟩))
/-- what a text leads to -/
def PT (L : mL) (c : gm_cfg) (I0 : mI) (Q : mI → mL → gm_cfg → Prop) : Sum (Nat × Nat) (Nat → Int32) → Prop
  | Sum.inl x => ∀ I', KO pD I0 I' → I' 6 0 = nI x.1 → I' 6 1 = nI x.2 → Q I' L c
  | Sum.inr D => ∀ I', KO pD I0 I' → I' 6 0 = 0 → I' 6 1 = -1 → DR I' D → Q I' L c
end Js
