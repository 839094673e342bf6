/-! the class reads a line -/
/-- the class's draft is the row D -/
def DR (I : mI) (D : Nat → Int32) : Prop := ∃ m : Nat, m ≤ 6 ∧ D 0 = nI m ∧ I 2 5 = nI m ∧ I 2 0 = D 2 ∧ I 2 1 = D 3 ∧ I 2 10 = D 4 ∧ I 2 11 = D 5 ∧ I 2 12 = D 6 ∧ I 2 9 = D 7 ∧ I 2 13 = D 8 ∧ ((I 2 2 = 0 ∧ D 10 = -1) ∨ (I 2 2 = 1 ∧ I 2 3 = D 9 ∧ I 2 4 = D 10 ∧ ¬ D 10 = -1)) ∧ ∀ j, j < m → I 3 j = D (11 + j) ∧ I 4 j = D (17 + j) ∧ I 5 j = D (23 + j)
def pD (o : Nat) : Bool := o != 2 && o != 3 && o != 4 && o != 5 && o != 6
theorem n6D {I I' : mI} (h : KO n6 I I') : KO pD I I' := fun o q => h o (by simp [pD] at q; simp [n6]; omega)
theorem DR_k {I I' : mI} {D : Nat → Int32} (h : DR I D) (k : KO n6 I I') : DR I' D := by
  unfold DR at *
  rw [k 2 rfl, k 3 rfl, k 4 rfl, k 5 rfl]
  exact h
/-- what a line leads to -/
def PL (L : mL) (c : gm_cfg) (n : Nat) (F : Nat → Nat) (I0 : mI) (Q : Bool → mI → mL → gm_cfg → Prop) : Sum (Nat × Nat) ((Nat → Int32) × Nat) → Prop
  | Sum.inl x => ∀ I', KO pD I0 I' → I' 6 0 = nI x.1 → I' 6 1 = nI x.2 → Q false I' L c
  | Sum.inr x => ∀ I', KO pD I0 I' → (∀ k, k < 4 → I' 6 k = I0 6 k) → NJ I' n F x.2 → x.2 ≤ n → DR I' x.1 → Q true I' L c
section Jl
variable {g : gm_G} {I : mI} {L : mL} {w a : Option Nat}
/-- a number at the end of what is known, with any frame -/
theorem j_nu {Q : Bool → mI → mL → gm_cfg → Prop} {n p lo hi : Nat} {F : Nat → Nat} {I0 : mI} {K : Nat → Nat → Sum (Nat × Nat) ((Nat → Int32) × Nat)} {R : Bool → mI → mL → gm_cfg → Prop} (e : TX I n F) (hp : p ≤ n) (h : NJ I n F p) (k0 : KO pD I0 I) (k3 : ∀ k, k < 4 → I 6 k = I0 6 k) (hlo : lo < 2 ^ 20) (hhi : hi < 2 ^ 20) (hl : PL L (w, a, some 1) n F I0 R (nu1 F n p lo hi K)) (kf : ∀ I', R false I' L (w, a, some 1) → Q false I' L (w, a, some 1)) (kt : nf F n p lo hi = 0 → PL L (w, a, some 1) n F I0 R (K (xv F n p) (xe F n p)) → ∀ I', KO n6 I I' → (∀ k, k < 4 → I' 6 k = I0 6 k) → I' 6 8 = nI (xv F n p) → TX I' n F → NJ I' n F (xe F n p) → xe F n p ≤ n → Q true I' L (w, a, some 1)) : C_Rd_takeNumber g (nI lo) (nI hi) I L (w, a, some 1) Q := by
  refine j_take e hp h hlo hhi (fun z I' a1 a2 a3 a4 => ?_) (fun z I' a1 a2 a3 => ?_)
  · unfold nu1 at hl
    rw [if_pos z] at hl
    have a2' : ∀ k, k < 4 → I' 6 k = I0 6 k := fun k hk => (a2 k hk).trans (k3 k hk)
    exact kt z hl I' a1 a2' a3 ⟨e.1, (a2 3 (by omega)).trans e.2.1, fun k hk => ⟨(e.2.2 k hk).1, by rw [a1 1 rfl]; exact (e.2.2 k hk).2⟩⟩ a4 (xe_le hp).1
  · unfold nu1 at hl
    rw [if_neg z] at hl
    exact kf I' (hl I' (k0.tr (n6D a1)) a2 a3)
end Jl
