/-! the tape -/
/-- byte p of a, from its front -/
def bt4 (a : Int32) (p : Nat) : Nat := a.toBitVec.toNat / 2 ^ (24 - 8 * p) % 256
theorem bt4_b (a : Int32) (p : Nat) : bt4 a p < 256 := Nat.mod_lt _ (by omega)
theorem i32n (a : Int32) : a.toInt = if a.toBitVec.toNat < 2 ^ 31 then (a.toBitVec.toNat : Int) else (a.toBitVec.toNat : Int) - 2 ^ 32 := by
  show a.toBitVec.toInt = _
  rw [BitVec.toInt_eq_toNat_cond]
  split <;> split <;> omega
theorem to8 (x : Int32) : x.toInt8.toInt32 = (nI (x.toBitVec.toNat % 256)).toInt8.toInt32 := by
  have e : x.toInt8 = (nI (x.toBitVec.toNat % 256)).toInt8 := by
    apply Int8.toInt_inj.mp
    rw [Int32.toInt_toInt8, Int32.toInt_toInt8, nI_toInt (by omega), i32n]
    simp only [Int.bmod]
    split <;> omega
  rw [e]
theorem bJ (a s : Int32) (p : Nat) (hp : p < 4) (hs : ((s.toUInt32 &&& Int32.toUInt32 31).toBitVec % 32).toNat = 24 - 8 * p) : vp_nar .byte (Int8.toInt32 (Int32.toInt8 ((a.toUInt32 >>> (s.toUInt32 &&& Int32.toUInt32 31)).toInt32))) = (nI (bt4 a p)).toInt8.toInt32 := by
  rw [pk_vb, to8, pk_ushr a s _ hs]
  rfl
theorem bM (a s : Int32) (p : Nat) (hp : p < 4) (hs : (s.toBitVec.smod 32).toNat = 24 - 8 * p) : (a >>> s) &&& 255 = nI (bt4 a p) := by
  rw [pk_and (a >>> s) 8 rfl]
  congr 1
  have h := pk_shr a s _ hs
  rw [i32n, i32n] at h
  have hb := a.toBitVec.isLt
  have hc := (a >>> s).toBitVec.isLt
  unfold bt4
  generalize (a >>> s).toBitVec.toNat = y at *
  generalize a.toBitVec.toNat = x at *
  rw [Int.shiftRight_eq_div_pow] at h
  match p, hp with
  | 0, _ => simp at h ⊢; split at h <;> split at h <;> omega
  | 1, _ => simp at h ⊢; split at h <;> split at h <;> omega
  | 2, _ => simp at h ⊢; split at h <;> split at h <;> omega
  | 3, _ => simp at h ⊢; split at h <;> split at h <;> omega
def p01 (o : Nat) : Bool := o != 0 && o != 1
def p5962 (o : Nat) : Bool := o != 59 && o != 62
section Fd
variable {g : gm_G} {I : mI} {L : mL} {c : gm_cfg} {I0 : mI}
/-- the class's tape: T bytes F -/
def TJ (I0 I : mI) (T : Nat) (F : Nat → Nat) : Prop := I 0 1 = nI T ∧ (∀ k, k < T → I 1 k = (nI (F k)).toInt8.toInt32) ∧ KO p01 I0 I
theorem j_tape1 {Q : mI → mL → gm_cfg → Prop} {a s s' : Int32} {T p : Nat} {F : Nat → Nat} (e : TJ I0 I T F) (hT : T < 700) (hp : p < 4) (hs0 : ¬ s < 0) (hs : ((s.toUInt32 &&& Int32.toUInt32 31).toBitVec % 32).toNat = 24 - 8 * p) (hs' : s + (-8) = s') (hF : F T = bt4 a p) (hq : ∀ I' : mI, TJ I0 I' (T + 1) F → Z_J_tapeInt g Q 3 [(0, .ref 0), (1, .int a), (2, .int s')] [] I' L c) : Z_J_tapeInt g Q 3 [(0, .ref 0), (1, .int a), (2, .int s)] [] I L c := by
  obtain ⟨e1, e2, e3⟩ := e
  refine r_J_tapeInt_3 (br_f hs0 ?_)
  rw [e1]
  refine br_f (nI_ge (b := 700) hT (by omega)) ⟨vp_in_nI hT (by omega), ?_⟩
  rw [nI_clamp (by omega), bJ a s p hp hs, nI_1, hs']
  refine hq _ ⟨gm_u_eq _ _ _ _, fun k hk => ?_, KO.u rfl (KO.u rfl e3)⟩
  rw [gm_u_ne _ _ _ (by omega)]
  rcases Nat.lt_or_ge k T with q | q
  · rw [gm_u_ne2 _ _ _ _ (by omega)]; exact e2 k q
  · rw [show k = T by omega, gm_u_eq, hF]
theorem j_tape4 {Q : mI → mL → gm_cfg → Prop} {a : Int32} {T : Nat} {F : Nat → Nat} (e : TJ I0 I T F) (hT : T + 4 ≤ 700) (hF : ∀ p, p < 4 → F (T + p) = bt4 a p) (hq : ∀ I' : mI, TJ I0 I' (T + 4) F → Q I' L c) : C_J_tapeInt g a I L c Q := by
  refine e_J_tapeInt ?_
  refine j_tape1 (p := 0) (s' := 16) e (by omega) (by omega) (by decide) (by decide) (by decide) (hF 0 (by omega)) (fun I1 e1 => ?_)
  refine j_tape1 (p := 1) (s' := 8) e1 (by omega) (by omega) (by decide) (by decide) (by decide) (hF 1 (by omega)) (fun I2 e2 => ?_)
  refine j_tape1 (p := 2) (s' := 0) e2 (by omega) (by omega) (by decide) (by decide) (by decide) (hF 2 (by omega)) (fun I3 e3 => ?_)
  refine j_tape1 (p := 3) (s' := -8) e3 (by omega) (by omega) (by decide) (by decide) (by decide) (hF 3 (by omega)) (fun I4 e4 => ?_)
  exact r_J_tapeInt_3 (br_t (by decide) (hq I4 e4))
/-- the reference's tape -/
def TM (I0 I : mI) (T : Nat) (F : Nat → Nat) : Prop := I 59 5 = nI T ∧ (∀ k, k < T → I 62 k = nI (F k)) ∧ KO p5962 I0 I ∧ (∀ k, k ≠ 5 → k ≠ 0 → I 59 k = I0 59 k)
theorem P_feed {x1 x2 x3 x4 x5 : Int32} (hI : Inv I L c) : C_J_feed g x1 x2 x3 x4 x5 I L c (mQ (C_M_feed g x1 x2 x3 x4 x5)) := by
  obtain ⟨T, t1, t2, t3, t4⟩ := hI.2.1
  refine e_J_feed ?_
  rw [t2, show (nI T + 20 : Int32) = nI (T + 20) from nI_add T 20]
  refine pk_le (T + 20) 700 (fun z => ?_) (fun z => ?_)
  · obtain ⟨B, hB⟩ : ∃ B : Nat → Nat, ∀ k, k < T → B k < 256 ∧ I 62 k = nI (B k) ∧ I 1 k = (nI (B k)).toInt8.toInt32 := by
      have ex : ∀ k, ∃ b : Nat, k < T → b < 256 ∧ I 62 k = nI b ∧ I 1 k = (nI b).toInt8.toInt32 := fun k => by
        by_cases q : k < T
        · obtain ⟨b, hb⟩ := t4 k q
          exact ⟨b, fun _ => hb⟩
        · exact ⟨0, fun u => absurd u q⟩
      exact ⟨fun k => Classical.choose (ex k), fun k => Classical.choose_spec (ex k)⟩
    let A : Nat → Int32 := fun i => match i with | 0 => x1 | 1 => x2 | 2 => x3 | 3 => x4 | _ => x5
    obtain ⟨F, hF⟩ : ∃ F : Nat → Nat, F = fun k => if k < T then B k else bt4 (A ((k - T) / 4)) ((k - T) % 4) := ⟨_, rfl⟩
    have F0 : ∀ k, k < T → F k = B k := fun k hk => by rw [hF]; exact if_pos hk
    have F1 : ∀ i, F (T + i) = bt4 (A (i / 4)) (i % 4) := fun i => by
      rw [hF]
      show (if T + i < T then _ else bt4 (A ((T + i - T) / 4)) ((T + i - T) % 4)) = _
      rw [if_neg (by omega), show T + i - T = i by omega]
    have FA : ∀ j p, p < 4 → F (T + 4 * j + p) = bt4 (A j) p := fun j p hp => by
      rw [show T + 4 * j + p = T + (4 * j + p) by omega, F1, show (4 * j + p) / 4 = j by omega, show (4 * j + p) % 4 = p by omega]
    have e0 : TJ I I T F := ⟨t2, fun k hk => by rw [F0 k hk]; exact (hB k hk).2.2, KO.rf⟩
    refine j_tape4 e0 (by omega) (fun p hp => FA 0 p hp) (fun I1 e1 => ?_)
    refine j_tape4 e1 (by omega) (fun p hp => FA 1 p hp) (fun I2 e2 => ?_)
    refine j_tape4 e2 (by omega) (fun p hp => FA 2 p hp) (fun I3 e3 => ?_)
    refine j_tape4 e3 (by omega) (fun p hp => FA 3 p hp) (fun I4 e4 => ?_)
    refine j_tape4 e4 (by omega) (fun p hp => FA 4 p hp) (fun I5 e5 => ?_)
    rw [e5.1]
    refine e_M_feed ?_
    rw [show I5 59 5 = nI T by rw [e5.2.2 59 rfl]; exact t3, show (nI T + 20 : Int32) = nI (T + 20) from nI_add T 20]
    refine br_t (nI_le (b := 700) z (by omega)) ?_
    have key := lp0 (P := fun i => ∀ I' : mI, TM I5 I' (T + i) F → Z_M_feed g (fun r' I2 L2 c2 => nI (T + 4 + 4 + 4 + 4 + 4) = r' ∧ Inv I2 L2 c2) 24 [(0, .ref 59), (1, .int x1), (2, .int x2), (3, .int x3), (4, .int x4), (5, .int x5), (6, .int (nI i))] [] I' L c) 20 ?_ ?_
    · refine key _ ⟨?_, fun k hk => ?_, KO.u rfl KO.rf, fun k k1 k2 => gm_u_ne2 _ _ _ _ k2⟩
      · show I5 59 5 = _
        rw [e5.2.2 59 rfl]; exact t3
      · show I5 62 k = _
        rw [e5.2.2 62 rfl, F0 k hk]; exact (hB k hk).2.1
    · intro I' e
      obtain ⟨d1, d2, d3, d4⟩ := e
      refine r_M_feed_24 (br_t (by decide) ⟨d1.symm, ?_⟩)
      have O : ∀ o, p5962 o = true → p01 o = true → I' o = I o := fun o q1 q2 => (d3 o q1).trans (e5.2.2 o q2)
      have S59 : ∀ k, k ≠ 5 → k ≠ 0 → I' 59 k = I 59 k := fun k k1 k2 => by rw [d4 k k1 k2, e5.2.2 59 rfl]
      refine hI.setF (FS_congr (O 60 rfl rfl) (O 16 rfl rfl) (O 17 rfl rfl) (O 18 rfl rfl) (O 19 rfl rfl) (O 20 rfl rfl) (O 21 rfl rfl) (O 22 rfl rfl) hI.1) ⟨T + 20, by omega, ?_, d1, fun k hk => ⟨F k, ?_, d2 k hk, ?_⟩⟩ ⟨?_, ?_⟩ (fun k _ => by rw [O 60 rfl rfl]) (fun o q => ?_) KO.rf hI.cf
      · rw [d3 0 rfl]; exact e5.1
      · rcases Nat.lt_or_ge k T with q | q
        · rw [F0 k q]; exact (hB k q).1
        · rw [show k = T + (k - T) by omega, F1]; exact bt4_b _ _
      · rw [d3 1 rfl]; exact e5.2.1 k (by omega)
      · rw [O 6 rfl rfl, S59 13 (by omega) (by omega)]; exact hI.2.2.1.1
      · rw [O 6 rfl rfl, S59 14 (by omega) (by omega)]; exact hI.2.2.1.2
      · have q2 : o ≠ 59 ∧ o ≠ 62 ∧ o ≠ 0 ∧ o ≠ 1 := by
          refine ⟨?_, ?_, ?_, ?_⟩ <;> (rintro rfl; cases q)
        exact O o (by simp [p5962]; omega) (by simp [p01]; omega)
    · intro i hi ih I' e
      obtain ⟨d1, d2, d3, d4⟩ := e
      have sh : (24 - 8 * (nI i - nI i / 4 * 4) : Int32) = nI (24 - 8 * (i % 4)) := by
        rw [show (nI i - nI i / 4 * 4 : Int32) = nI (i % 4) from pk_rem (d := 4) (by omega) (by omega) (by omega), show (8 * nI (i % 4) : Int32) = nI (8 * (i % 4)) from pk_mul 8 _]
        exact pk_sub (a := 24) (by omega)
      have bv : ∀ a : Int32, ((a >>> ((24 - (8 * (nI i - nI i / 4 * 4))) &&& 31)) &&& 255) = nI (bt4 a (i % 4)) := fun a => by
        rw [sh]
        have hp : i % 4 < 4 := Nat.mod_lt _ (by omega)
        refine bM a _ (i % 4) hp ?_
        generalize i % 4 = p at hp
        match p, hp with
        | 0, _ => decide
        | 1, _ => decide
        | 2, _ => decide
        | 3, _ => decide
      have st : ∀ a : Int32, a = A (i / 4) → (vp_in (I' 59 5) 700 ∧ Z_M_feed g (fun r' I2 L2 c2 => nI (T + 4 + 4 + 4 + 4 + 4) = r' ∧ Inv I2 L2 c2) 24 [(0, .ref 59), (1, .int x1), (2, .int x2), (3, .int x3), (4, .int x4), (5, .int x5), (6, .int (nI i + 1))] [] (gm_u (gm_u I' 62 (Int32.toNatClampNeg (I' 59 5)) ((a >>> ((24 - (8 * (nI i - nI i / 4 * 4))) &&& 31)) &&& 255)) 59 5 ((I' 59 5) + 1)) L c) := by
        intro a ea
        rw [d1, bv a, nI_clamp (by omega), nI_1, nI_1]
        refine ⟨vp_in_nI (by omega) (by omega), ih _ ⟨gm_u_eq _ _ _ _, fun k hk => ?_, KO.u rfl (KO.u rfl d3), fun k k1 k2 => ?_⟩⟩
        · rw [gm_u_ne _ _ _ (by omega)]
          rcases Nat.lt_or_ge k (T + i) with q | q
          · rw [gm_u_ne2 _ _ _ _ (by omega)]; exact d2 k q
          · rw [show k = T + i by omega, gm_u_eq, F1, ea]
        · rw [gm_u_ne2 _ _ _ _ k1, gm_u_ne _ _ _ (by omega)]; exact d4 k k1 k2
      refine r_M_feed_24 (br_f (nI_ge (b := 20) hi (by omega)) (pk_le 4 i (fun q => pk_le 8 i (fun q2 => pk_le 12 i (fun q3 => pk_le 16 i (fun q4 => st x5 ?_) (fun q4 => st x4 ?_)) (fun q3 => st x3 ?_)) (fun q2 => st x2 ?_)) (fun q => st x1 ?_)))
      · rw [show i / 4 = 4 by omega]; rfl
      · rw [show i / 4 = 3 by omega]; rfl
      · rw [show i / 4 = 2 by omega]; rfl
      · rw [show i / 4 = 1 by omega]; rfl
      · rw [show i / 4 = 0 by omega]; rfl
  · refine e_M_feed ?_
    rw [t3, show (nI T + 20 : Int32) = nI (T + 20) from nI_add T 20]
    exact br_f (nI_ge (a := 700) (by omega) (by omega)) (fin hI rfl kT)
end Fd
