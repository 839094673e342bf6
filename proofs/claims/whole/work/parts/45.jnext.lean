/-! the class's next token -/
def FR (I I' : mI) : Prop := KO (fun o => o != 6) I I' ∧ ∀ k, (k < 4 ∨ k = 8) → I' 6 k = I 6 k
theorem FR.rf {I : mI} : FR I I := ⟨KO.rf, fun _ _ => rfl⟩
theorem FR.u {I I' : mI} {k : Nat} {v : Int32} (h : FR I I') (hk : 4 ≤ k ∧ k ≤ 7) : FR I (gm_u I' 6 k v) := ⟨KO.u rfl h.1, fun j hj => by rw [gm_u_ne2 _ _ _ _ (by omega)]; exact h.2 j hj⟩
theorem FR.tr {I I' I'' : mI} (h : FR I I') (h' : FR I' I'') : FR I I'' := ⟨h.1.tr h'.1, fun k hk => (h'.2 k hk).trans (h.2 k hk)⟩
theorem TX_f {I I' : mI} {n : Nat} {F : Nat → Nat} (e : TX I n F) (h : FR I I') : TX I' n F := ⟨e.1, (h.2 3 (by omega)).trans e.2.1, fun k hk => ⟨(e.2.2 k hk).1, by rw [h.1 1 rfl]; exact (e.2.2 k hk).2⟩⟩
/-- the token found from p on stands in the reader -/
def NJ (I : mI) (n : Nat) (F : Nat → Nat) (p : Nat) : Prop := I 6 4 = nI (jc (xk F n p)) ∧ I 6 5 = nI (xb F n p) ∧ I 6 6 = nI (xe F n p) ∧ (xk F n p = 9 → I 6 7 = nI (xv F n p))
theorem kx_8 {F : Nat → Nat} {b e : Nat} : ∀ r, kx F b e r ≤ 8
  | 0 => Nat.le_refl _
  | r + 1 => by
    have := kx_8 (F := F) (b := b) (e := e) r
    unfold kx
    split <;> omega
theorem dg_b {F : Nat → Nat} {b : Nat} : ∀ j, (∀ k, k < j → F (b + k) ≤ 57) → dg F b j < 10 ^ j
  | 0, _ => by show 0 < 1; omega
  | j + 1, h => by
    have ih := dg_b (F := F) (b := b) j (fun k hk => h k (by omega))
    have h2 := h j (by omega)
    show dg F b j * 10 + (F (b + j) - 48) < 10 ^ (j + 1)
    rw [Nat.pow_succ]
    omega
section Jn
variable {g : gm_G} {I : mI} {L : mL} {w a : Option Nat}
theorem j_run {Q : mI → mL → gm_cfg → Prop} {x1 : Int32} {n b : Nat} {F : Nat → Nat} (e : TX I n F) (hb : b ≤ n) (h6 : I 6 6 = nI b) (hq : ∀ I', FR I I' → I' 6 4 = I 6 4 → I' 6 5 = I 6 5 → I' 6 6 = nI (ru F n isL b) → Q I' L (w, a, some 1)) : Z_Rd_next g Q 106 [(0, .ref 6), (1, .int x1)] [] I L (w, a, some 1) := by
  obtain ⟨s1, s2, s3, s4⟩ := ru_spec F n isL b
  have hn := e.1
  have key := lp (P := fun q => b ≤ q → ∀ I', FR I I' → I' 6 4 = I 6 4 → I' 6 5 = I 6 5 → I' 6 6 = nI q → Z_Rd_next g Q 106 [(0, .ref 6), (1, .int x1)] [] I' L (w, a, some 1)) (ru F n isL b) ?_ ?_ b s1
  · exact key (Nat.le_refl _) I FR.rf rfl rfl h6
  · intro _ I' f1 f2 f3 f4
    have e' := TX_f e f1
    have s2' := s2 hb
    refine r_Rd_next_106 ?_
    rw [e'.2.1, f4]
    refine pk_le n (ru F n isL b) (fun z => hq I' f1 f2 f3 f4) (fun z => j_byte e' z ⟨rfl, j_isL (e'.2.2 _ z).1 ⟨rfl, ?_⟩⟩)
    have := s4 z
    rw [show isL (F (ru F n isL b)) = false by cases h : isL (F (ru F n isL b)) with | false => rfl | true => exact absurd h this]
    exact bf (hq I' f1 f2 f3 f4)
  · intro q hq1 ih hbq I' f1 f2 f3 f4
    have e' := TX_f e f1
    obtain ⟨z1, z2⟩ := s3 q hbq hq1
    refine r_Rd_next_106 ?_
    rw [e'.2.1, f4]
    refine br_f (nI_ge z1 (by omega)) (j_byte e' z1 ⟨rfl, j_isL (e'.2.2 _ z1).1 ⟨rfl, ?_⟩⟩)
    rw [z2, f4, nI_1]
    exact bt (ih (by omega) _ (f1.u (by omega)) f2 f3 (gm_u_eq _ _ _ _))
theorem j_digits {Q : mI → mL → gm_cfg → Prop} {x1 : Int32} {n b : Nat} {F : Nat → Nat} (e : TX I n F) (hb : b ≤ n) (h5 : I 6 5 = nI b) (h6 : I 6 6 = nI b) (h7 : I 6 7 = 0) (hq : ∀ I', FR I I' → I' 6 4 = nI (if ru F n isD b - b ≤ 4 then 1 else 4) → I' 6 5 = nI b → I' 6 6 = nI (ru F n isD b) → I' 6 7 = nI (dg F b (if ru F n isD b - b < 4 then ru F n isD b - b else 4)) → Q I' L (w, a, some 1)) : Z_Rd_next g Q 156 [(0, .ref 6), (1, .int x1)] [] I L (w, a, some 1) := by
  obtain ⟨s1, s2, s3, s4⟩ := ru_spec F n isD b
  have hn := e.1
  have s2' := s2 hb
  have key := lp (P := fun q => b ≤ q → ∀ I', FR I I' → I' 6 5 = nI b → I' 6 6 = nI q → I' 6 7 = nI (dg F b (if q - b < 4 then q - b else 4)) → Z_Rd_next g Q 156 [(0, .ref 6), (1, .int x1)] [] I' L (w, a, some 1)) (ru F n isD b) ?_ ?_ b s1
  · refine key (Nat.le_refl _) I FR.rf h5 h6 ?_
    rw [h7, Nat.sub_self]; rfl
  · intro _ I' f1 f3 f4 f5
    have e' := TX_f e f1
    have done : ((nI (ru F n isD b) - nI b ≤ 4 → Q (gm_u I' 6 4 1) L (w, a, some 1)) ∧ (¬ nI (ru F n isD b) - nI b ≤ 4 → Q (gm_u I' 6 4 4) L (w, a, some 1))) := by
      rw [pk_sub s1]
      refine pk_le (ru F n isD b - b) 4 (fun z => hq _ (f1.u (by omega)) ?_ f3 f4 f5) (fun z => hq _ (f1.u (by omega)) ?_ f3 f4 f5)
      · rw [gm_u_eq, if_pos z]; rfl
      · rw [gm_u_eq, if_neg (by omega)]; rfl
    refine r_Rd_next_156 ?_
    rw [e'.2.1, f4, f3]
    refine pk_le n (ru F n isD b) (fun z => done) (fun z => j_byte e' z ⟨rfl, j_isD (e'.2.2 _ z).1 ⟨rfl, ?_⟩⟩)
    have := s4 z
    rw [show isD (F (ru F n isD b)) = false by cases h : isD (F (ru F n isD b)) with | false => rfl | true => exact absurd h this, f4, f3]
    exact bf done
  · intro q hq1 ih hbq I' f1 f3 f4 f5
    have e' := TX_f e f1
    obtain ⟨z1, z2⟩ := s3 q hbq hq1
    have zd : 48 ≤ F q ∧ F q ≤ 57 := by simp [isD] at z2; omega
    refine r_Rd_next_156 ?_
    rw [e'.2.1, f4, f3]
    refine br_f (nI_ge z1 (by omega)) (j_byte e' z1 ⟨rfl, j_isD (e'.2.2 _ z1).1 ⟨rfl, ?_⟩⟩)
    rw [z2, f4, f3, pk_sub hbq, nI_1]
    refine bt (pk_le 4 (q - b) (fun y => ?_) (fun y => j_byte e' z1 ⟨rfl, ?_⟩))
    · refine ih (by omega) _ ((f1.u (by omega)).u (by omega)) f3 (gm_u_eq _ _ _ _) ?_
      rw [gm_u_ne2 _ _ _ _ (by omega), gm_u_eq, f5, if_neg (by omega), if_neg (by omega)]
    · rw [f4, nI_1]
      refine ih (by omega) _ ((f1.u (by omega)).u (by omega)) f3 (gm_u_eq _ _ _ _) ?_
      rw [gm_u_ne2 _ _ _ _ (by omega), gm_u_eq, f5, if_pos y, show (if q + 1 - b < 4 then q + 1 - b else 4) = q - b + 1 by split <;> omega, show jb (F q) = nI (F q) from (jb_eq (by omega) (by omega)).mpr rfl, show (nI (dg F b (q - b)) * 10 : Int32) = nI (dg F b (q - b) * 10) from pk_mul _ 10, nI_add]
      show nI (dg F b (q - b) * 10 + F q) - nI 48 = nI (dg F b (q - b) * 10 + (F (b + (q - b)) - 48))
      rw [pk_sub (by omega), show b + (q - b) = q by omega]
      congr 1; omega
theorem j_nextTok {Q : mI → mL → gm_cfg → Prop} {n p : Nat} {F : Nat → Nat} (e : TX I n F) (hp : p ≤ n) (h6 : I 6 6 = nI p) (hq : ∀ I', FR I I' → NJ I' n F p → Q I' L (w, a, some 1)) : C_Rd_next g I L (w, a, some 1) Q := by
  obtain ⟨s1, s2, s3, s4⟩ := ru_spec F n isB p
  have hn := e.1
  have s2' := s2 hp
  refine e_Rd_next ?_
  have eb : xb F n p = ru F n isB p := rfl
  have key := lp (P := fun q => p ≤ q → ∀ I', FR I I' → I' 6 5 = nI q → Z_Rd_next g Q 8 [(0, .ref 6)] [] I' L (w, a, some 1)) (ru F n isB p) ?_ ?_ p s1
  · exact key (Nat.le_refl _) _ (FR.rf.u (by omega)) (by rw [gm_u_eq]; exact h6)
  · intro _ I' f1 f2
    have e' := TX_f e f1
    rw [← eb] at f2 s4 s2'
    refine r_Rd_next_8 ?_
    rw [e'.2.1, f2]
    refine pk_le n (xb F n p) (fun z => j_byteX (by omega) (fun v => ⟨rfl, br_f ?_ ?_⟩)) (fun z => ?_)
    · show ¬ I' 6 5 < I' 6 3
      rw [f2, e'.2.1]; exact nI_nlt z (by omega)
    · have k11 : xk F n p = 11 := by unfold xk; rw [if_pos z]
      have ke : xe F n p = xb F n p := by unfold xe; rw [if_pos z]
      refine hq _ ((f1.u (by omega)).u (by omega)) ⟨?_, ?_, ?_, fun q => by rw [k11] at q; omega⟩
      · rw [gm_u_eq, k11]; rfl
      · exact f2
      · rw [ke]
        show gm_u I' 6 6 (nI (xb F n p)) 6 6 = _
        exact gm_u_eq _ _ _ _
    · have nb := s4 z
      obtain ⟨b1, b2⟩ := e'.2.2 (xb F n p) z
      have c10 : ¬ jb (F (xb F n p)) = 10 := fun q => nb (by rw [(jb_eq (m := 10) b1 (by omega)).mp q]; rfl)
      have c32 : ¬ jb (F (xb F n p)) = 32 := fun q => nb (by rw [(jb_eq (m := 32) b1 (by omega)).mp q]; rfl)
      refine j_byte e' z ⟨rfl, br_f c10 ?_⟩
      rw [f2]
      refine j_byte e' z ⟨rfl, br_f c32 ?_⟩
      rw [f2]
      have f3 : FR I (gm_u I' 6 6 (nI (xb F n p))) := f1.u (by omega)
      have e3 := TX_f e f3
      refine j_byte e3 z ⟨rfl, br_t ?_ (j_isL b1 ⟨rfl, ?_⟩)⟩
      · show I' 6 5 < I' 6 3
        rw [f2, e'.2.1]; exact nI_lt z (by omega)
      · cases hL : isL (F (xb F n p)) with
        | true =>
          refine bt (j_run (b := xb F n p) (TX_f e (f3.u (by omega))) (by omega) rfl (fun I4 g1 g2 g3 g4 => ?_))
          have ke : xe F n p = ru F n isL (xb F n p) := by unfold xe; rw [if_neg (by omega), if_pos hL]
          have kk : xk F n p = kx F (xb F n p) (xe F n p) 8 := by unfold xk; rw [if_neg (by omega), if_pos hL]
          have k8 := kx_8 (F := F) (b := xb F n p) (e := xe F n p) 8
          refine hq I4 ((f3.u (by omega)).tr g1) ⟨?_, ?_, ?_, fun q => by rw [kk] at q; omega⟩
          · rw [g2, gm_u_eq]
            unfold jc
            rw [if_pos (by rw [kk]; exact k8)]; rfl
          · rw [g3]; exact f2
          · rw [g4, ke]
        | false =>
          refine bf (j_isD b1 ⟨rfl, ?_⟩)
          cases hD : isD (F (xb F n p)) with
          | true =>
            refine bt (j_digits (b := xb F n p) (TX_f e (f3.u (by omega))) (by omega) f2 rfl (gm_u_eq _ _ _ _) (fun I4 g1 g2 g3 g4 g5 => ?_))
            have ke : xe F n p = ru F n isD (xb F n p) := by unfold xe; rw [if_neg (by omega), if_neg (by rw [hL]; decide), if_pos hD]
            have kk : xk F n p = if xe F n p - xb F n p ≤ 4 then 9 else 12 := by unfold xk; rw [if_neg (by omega), if_neg (by rw [hL]; decide), if_pos hD]
            refine hq I4 ((f3.u (by omega)).tr g1) ⟨?_, g3, by rw [g4, ke], fun _ => ?_⟩
            · rw [g2, kk, ke]
              split <;> rfl
            · rw [g5]; unfold xv; rw [ke]
          | false =>
            have ke : xe F n p = xb F n p + 1 := by unfold xe; rw [if_neg (by omega), if_neg (by rw [hL]; decide), if_neg (by rw [hD]; decide)]
            have kk : xk F n p = if F (xb F n p) = 59 then 10 else 12 := by unfold xk; rw [if_neg (by omega), if_neg (by rw [hL]; decide), if_neg (by rw [hD]; decide)]
            refine bf (br_c (fun y => ?_) (fun y => ?_))
            · have y' := (jb_eq (m := 59) b1 (by omega)).mp y
              rw [if_pos y'] at kk
              refine hq _ ((f3.u (by omega)).u (by omega)) ⟨?_, f2, ?_, fun q => by rw [kk] at q; omega⟩
              · rw [gm_u_ne2 _ _ _ _ (by omega), gm_u_eq, kk]; rfl
              · rw [gm_u_eq, gm_u_eq, ke, nI_1]
            · have y' : ¬ F (xb F n p) = 59 := fun q => y ((jb_eq (m := 59) b1 (by omega)).mpr q)
              rw [if_neg y'] at kk
              refine hq _ ((f3.u (by omega)).u (by omega)) ⟨?_, f2, ?_, fun q => by rw [kk] at q; omega⟩
              · rw [gm_u_ne2 _ _ _ _ (by omega), gm_u_eq, kk]; rfl
              · rw [gm_u_eq, gm_u_eq, ke, nI_1]
  · intro q hq1 ih hpq I' f1 f2
    have e' := TX_f e f1
    obtain ⟨z1, z2⟩ := s3 q hpq hq1
    obtain ⟨b1, b2⟩ := e'.2.2 q z1
    have zb : F q = 10 ∨ F q = 32 := by simp [isB] at z2; exact z2
    refine r_Rd_next_8 ?_
    rw [e'.2.1, f2]
    refine br_f (nI_ge z1 (by omega)) (j_byte e' z1 ⟨rfl, br_c (fun y => ?_) (fun y => ?_)⟩)
    · rw [f2, nI_1]
      exact ih (by omega) _ (f1.u (by omega)) (gm_u_eq _ _ _ _)
    · have h32 : F q = 32 := by
        rcases zb with u | u
        · exact absurd ((jb_eq (m := 10) b1 (by omega)).mpr u) y
        · exact u
      rw [f2]
      refine j_byte e' z1 ⟨rfl, br_t ((jb_eq (m := 32) b1 (by omega)).mpr h32) ?_⟩
      rw [f2, nI_1]
      exact ih (by omega) _ (f1.u (by omega)) (gm_u_eq _ _ _ _)
end Jn
