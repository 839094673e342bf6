/-! numbers and faults, one at a time -/
/-- the fault's kind at a token -/
def fq (F : Nat → Nat) (n p q : Nat) : Nat := if xk F n p = 12 then 1 else q
def nf (F : Nat → Nat) (n p lo hi : Nat) : Nat := if xk F n p = 9 then (if xv F n p < lo ∨ hi < xv F n p then 3 else 0) else fq F n p 2
theorem xv_b {F : Nat → Nat} {n p : Nat} (h : xk F n p = 9) : xv F n p < 10000 := by
  rcases Nat.lt_or_ge (xb F n p) n with z | z
  · unfold xk at h
    rw [if_neg (by omega)] at h
    cases hL : isL (F (xb F n p)) with
    | true =>
      rw [if_pos hL] at h
      have := kx_8 (F := F) (b := xb F n p) (e := xe F n p) 8
      omega
    | false =>
      rw [if_neg (by rw [hL]; decide)] at h
      cases hD : isD (F (xb F n p)) with
      | true =>
        have ke : xe F n p = ru F n isD (xb F n p) := by unfold xe; rw [if_neg (by omega), if_neg (by rw [hL]; decide), if_pos hD]
        obtain ⟨s1, s2, s3, s4⟩ := ru_spec F n isD (xb F n p)
        unfold xv
        generalize hj : (if xe F n p - xb F n p < 4 then xe F n p - xb F n p else 4) = j
        have j4 : j ≤ 4 ∧ j ≤ xe F n p - xb F n p := by rw [← hj]; split <;> omega
        have := dg_b (F := F) (b := xb F n p) j (fun k hk => by
          have := (s3 (xb F n p + k) (by omega) (by omega)).2
          simp [isD] at this
          omega)
        have h2 : 10 ^ j ≤ 10 ^ 4 := Nat.pow_le_pow_right (by omega) j4.1
        omega
      | false =>
        rw [if_neg (by rw [hD]; decide)] at h
        split at h <;> omega
  · unfold xk at h
    rw [if_pos z] at h
    omega
theorem jc_4 {k : Nat} (hk : k ≤ 12) : jc k = 4 ↔ k = 12 := by
  have : ∀ k, k ≤ 12 → (jc k = 4 ↔ k = 12) := by decide
  exact this k hk
theorem jc_1 {k : Nat} (hk : k ≤ 12) : jc k = 1 ↔ k = 9 := by
  have : ∀ k, k ≤ 12 → (jc k = 1 ↔ k = 9) := by decide
  exact this k hk
theorem jc_23 {k : Nat} (hk : k ≤ 12) : (jc k = 2 ↔ k = 10) ∧ (jc k = 3 ↔ k = 11) := by
  have : ∀ k, k ≤ 12 → ((jc k = 2 ↔ k = 10) ∧ (jc k = 3 ↔ k = 11)) := by decide
  exact this k hk
theorem xk_b {F : Nat → Nat} {n p : Nat} : xk F n p ≤ 12 := by
  have := kx_8 (F := F) (b := xb F n p) (e := xe F n p) 8
  unfold xk
  split
  · omega
  · split
    · omega
    · split
      · split <;> omega
      · split <;> omega
def n6 (o : Nat) : Bool := o != 6
section Nu
variable {g : gm_G} {I : mI} {L : mL} {w a : Option Nat}
theorem j_refuse {Q : Bool → mI → mL → gm_cfg → Prop} {n p q : Nat} {F : Nat → Nat} (h : NJ I n F p) (hq : ∀ I', KO n6 I I' → I' 6 0 = nI (fq F n p q) → I' 6 1 = nI (xb F n p) → Q false I' L (w, a, some 1)) : C_Rd_refuse g (nI q) I L (w, a, some 1) Q := by
  have hk := xk_b (F := F) (n := n) (p := p)
  have hj := jc_b (xk F n p)
  unfold fq at hq
  refine e_Rd_refuse ?_
  rw [h.1, h.2.1]
  refine pk_eq (jc (xk F n p)) 4 (fun z => hq _ (KO.u rfl (KO.u rfl KO.rf)) ?_ (gm_u_eq _ _ _ _)) (fun z => hq _ (KO.u rfl (KO.u rfl KO.rf)) ?_ (gm_u_eq _ _ _ _))
  · rw [if_pos ((jc_4 hk).mp z)]; rfl
  · rw [if_neg (fun u => z ((jc_4 hk).mpr u))]; rfl
theorem j_take {Q : Bool → mI → mL → gm_cfg → Prop} {n p lo hi : Nat} {F : Nat → Nat} (e : TX I n F) (hp : p ≤ n) (h : NJ I n F p) (hlo : lo < 2 ^ 20) (hhi : hi < 2 ^ 20) (k1 : nf F n p lo hi = 0 → ∀ I', KO n6 I I' → (∀ k, k < 4 → I' 6 k = I 6 k) → I' 6 8 = nI (xv F n p) → NJ I' n F (xe F n p) → Q true I' L (w, a, some 1)) (k2 : ¬ nf F n p lo hi = 0 → ∀ I', KO n6 I I' → I' 6 0 = nI (nf F n p lo hi) → I' 6 1 = nI (xb F n p) → Q false I' L (w, a, some 1)) : C_Rd_takeNumber g (nI lo) (nI hi) I L (w, a, some 1) Q := by
  have hk := xk_b (F := F) (n := n) (p := p)
  have hj := jc_b (xk F n p)
  refine e_Rd_takeNumber ?_
  rw [h.1]
  refine pk_eq (jc (xk F n p)) 1 (fun z => ?_) (fun z => j_refuse (q := 2) h (fun I' a1 a2 a3 => ⟨rfl, ?_⟩))
  · have k9 := (jc_1 hk).mp z
    have vb := xv_b k9
    have h7 := h.2.2.2 k9
    have bad : (xv F n p < lo ∨ hi < xv F n p) → C_Rd_refuse g 3 I L (w, a, some 1) (fun b4 I1 L2 c3 => c3 = (w, a, some 1) ∧ Q b4 I1 L2 (w, a, some 1)) := by
      intro q
      have e3 : nf F n p lo hi = 3 := by unfold nf; rw [if_pos k9, if_pos q]
      refine j_refuse (q := 3) h (fun I' a1 a2 a3 => ⟨rfl, k2 (by omega) I' a1 ?_ a3⟩)
      rw [a2, e3]; unfold fq; rw [if_neg (by omega)]
    rw [h7]
    refine pk_lt (xv F n p) lo (fun y => bad (Or.inl y)) (fun y => pk_le (xv F n p) hi (fun y2 => ?_) (fun y2 => bad (Or.inr y2)))
    have f8 : KO n6 I (gm_u I 6 8 (nI (xv F n p))) := KO.u rfl KO.rf
    have e8 : TX (gm_u I 6 8 (nI (xv F n p))) n F := ⟨e.1, e.2.1, e.2.2⟩
    refine j_nextTok e8 (xe_le hp).1 h.2.2.1 (fun I' f1 f2 => ⟨rfl, k1 ?_ I' (fun o q => (f1.1 o q).trans (f8 o q)) (fun k hk => ?_) ?_ f2⟩)
    · unfold nf; rw [if_pos k9, if_neg (by omega)]
    · rw [f1.2 k (by omega), gm_u_ne2 _ _ _ _ (by omega)]
    · rw [f1.2 8 (by omega), gm_u_eq]
  · have n9 : ¬ xk F n p = 9 := fun u => z ((jc_1 hk).mpr u)
    have e2 : nf F n p lo hi = fq F n p 2 := by unfold nf; rw [if_neg n9]
    refine k2 ?_ I' a1 (by rw [a2, e2]) a3
    rw [e2]; unfold fq; split <;> omega
end Nu
section Nm
variable {g : gm_G} {I : mI} {L : mL} {c : gm_cfg}
/-- nothing wrong so far -/
theorem m_is {Q : Bool → mI → mL → gm_cfg → Prop} {n p k : Nat} {F : Nat → Nat} (h : NM I n F p) (hk : k ≤ 12) (h0 : I 59 11 = 0) (k1 : xk F n p = k → Q true I L c) (k2 : ¬ xk F n p = k → Q false I L c) : C_M_is g (nI k) I L c Q := by
  have hb := xk_b (F := F) (n := n) (p := p)
  refine e_M_is (br_t h0 ?_)
  rw [h.1]
  exact pk_eq (xk F n p) k k1 k2
theorem m_isW {Q : Bool → mI → mL → gm_cfg → Prop} {x : Int32} (h0 : ¬ I 59 11 = 0) (hq : Q false I L c) : C_M_is g x I L c Q := e_M_is (br_f h0 hq)
theorem m_eats {Q : Bool → mI → mL → gm_cfg → Prop} {n p k : Nat} {F : Nat → Nat} (e : TXM I n F) (hp : p ≤ n) (h : NM I n F p) (hk : k ≤ 12) (h0 : I 59 11 = 0) (k1 : xk F n p = k → ∀ I', FRM I I' → NM I' n F (xe F n p) → Q true I' L c) (k2 : ¬ xk F n p = k → Q false I L c) : C_M_eats g (nI k) I L c Q :=
  e_M_eats (m_is h hk h0 (fun q => bt (m_nextTok e (xe_le hp).1 h.2.2.1 (fun I' f1 f2 => k1 q I' f1 f2))) (fun q => bf (k2 q)))
theorem m_eatsW {Q : Bool → mI → mL → gm_cfg → Prop} {x : Int32} (h0 : ¬ I 59 11 = 0) (hq : Q false I L c) : C_M_eats g x I L c Q := e_M_eats (m_isW h0 (bf hq))
theorem m_fails {Q : mI → mL → gm_cfg → Prop} {n p q : Nat} {F : Nat → Nat} (h : NM I n F p) (h0 : I 59 11 = 0) (hq : Q (gm_u (gm_u I 59 11 (nI (fq F n p q))) 59 12 (nI (xb F n p))) L c) : C_M_fails g (nI q) I L c Q := by
  have hb := xk_b (F := F) (n := n) (p := p)
  unfold fq at hq
  refine e_M_fails (br_t h0 ?_)
  rw [h.1, h.2.1]
  refine pk_eq (xk F n p) 12 (fun z => ?_) (fun z => ?_)
  · rw [if_pos z] at hq; exact hq
  · rw [if_neg z] at hq; exact hq
theorem m_failsW {Q : mI → mL → gm_cfg → Prop} {x : Int32} (h0 : ¬ I 59 11 = 0) (hq : Q I L c) : C_M_fails g x I L c Q := e_M_fails (br_f h0 hq)
end Nm
