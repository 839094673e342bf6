/-! runs of numbers that one number wins -/
def p24 (o : Nat) : Bool := o != 24
theorem Keep.o {I I' : mI} {L : mL} {p : Nat → Bool} (h : KO p I I') (hp : ∀ o k, per o k = true → p o = true) : Keep I L I' L := ⟨fun o k q => by rw [h o (hp o k q)], fun _ _ => rfl, rfl⟩
theorem per24 (o k : Nat) (q : per o k = true) : p24 o = true := by
  by_cases e : o = 24
  · subst e; cases q
  · simp [p24, e]
/-- the numbers from F to T are those of S -/
def RS (F T : Nat) (S : Nat → Prop) : Prop := 1 ≤ F ∧ F ≤ 3000 ∧ T ≤ 3000 ∧ ∀ t, (F ≤ t ∧ t ≤ T) ↔ S t
/-- the reach as it stands -/
def RI (I : mI) (v F T : Nat) : Prop := I 24 2 = nI v ∧ I 24 0 = nI F ∧ I 24 1 = nI T
section Re
variable {g : gm_G} {I : mI} {L : mL} {c : gm_cfg}
theorem j_yield {Q : mI → mL → gm_cfg → Prop} {v e F T : Nat} {S : Nat → Prop} (hr : RI I v F T) (hs : RS F T S) (hv : v ≤ 2000) (he : e ≤ 2000) (hq : ∀ (I' : mI) (F' T' : Nat), RI I' v F' T' → KO p24 I I' → RS F' T' (fun t => S t ∧ ad v t < ad e t) → Q I' L c) : C_Re_yieldTo g (nI e) I L c Q := by
  obtain ⟨r2, r0, r1⟩ := hr
  obtain ⟨s1, s2, s3, s4⟩ := hs
  refine e_Re_yieldTo ?_
  rw [r2, r0, r1]
  refine pk_eq e v (fun z => ?_) (fun z => pk_le v e (fun z2 => ?_) (fun z2 => ?_))
  · obtain ⟨F', rfl⟩ : ∃ F', F = F' + 1 := ⟨F - 1, by omega⟩
    rw [nI_pred]
    refine hq _ (F' + 1) F' ⟨r2, r0, gm_u_eq _ _ _ _⟩ (KO.u rfl KO.rf) ⟨s1, s2, by omega, fun t => ?_⟩
    constructor
    · intro q; omega
    · intro q; rw [z] at q; exact absurd q.2 (Nat.lt_irrefl _)
  · have e1 : (nI v + nI e + 1) / 2 - 1 = nI ((v + e + 1) / 2 - 1) := by
      rw [nI_add, nI_1, show nI (v + e + 1) / 2 = nI ((v + e + 1) / 2) from pk_div (d := 2) (by omega) (by omega) (by omega)]
      exact pk_sub (b := 1) (by omega)
    rw [e1]
    have e2 : (if nI ((v + e + 1) / 2 - 1) < nI T then nI ((v + e + 1) / 2 - 1) else nI T : Int32) = nI (if (v + e + 1) / 2 - 1 < T then (v + e + 1) / 2 - 1 else T) := by
      by_cases q : (v + e + 1) / 2 - 1 < T
      · rw [if_pos q, if_pos (nI_lt q (by omega))]
      · rw [if_neg q, if_neg (nI_nlt (by omega) (by omega))]
    rw [e2]
    refine hq _ F _ ⟨r2, r0, gm_u_eq _ _ _ _⟩ (KO.u rfl KO.rf) ⟨s1, s2, by split <;> omega, fun t => ?_⟩
    have q := s4 t
    constructor
    · intro w
      have w1 : F ≤ t ∧ t ≤ T ∧ t ≤ (v + e + 1) / 2 - 1 := by
        refine ⟨w.1, ?_, ?_⟩
        · have := w.2; split at this <;> omega
        · have := w.2; split at this <;> omega
      exact ⟨q.mp ⟨w1.1, w1.2.1⟩, by unfold ad; omega⟩
    · intro ⟨w1, w2⟩
      have w3 := q.mpr w1
      unfold ad at w2
      refine ⟨w3.1, ?_⟩
      split <;> omega
  · have e1 : (nI v + nI e) / 2 + 1 = nI ((v + e) / 2 + 1) := by
      rw [nI_add, show nI (v + e) / 2 = nI ((v + e) / 2) from pk_div (d := 2) (by omega) (by omega) (by omega), nI_1]
    rw [e1]
    have e2 : (if nI F < nI ((v + e) / 2 + 1) then nI ((v + e) / 2 + 1) else nI F : Int32) = nI (if F < (v + e) / 2 + 1 then (v + e) / 2 + 1 else F) := by
      by_cases q : F < (v + e) / 2 + 1
      · rw [if_pos q, if_pos (nI_lt q (by omega))]
      · rw [if_neg q, if_neg (nI_nlt (by omega) (by omega))]
    rw [e2]
    refine hq _ _ T ⟨r2, gm_u_eq _ _ _ _, r1⟩ (KO.u rfl KO.rf) ⟨by split <;> omega, by split <;> omega, s3, fun t => ?_⟩
    have q := s4 t
    constructor
    · intro w
      have w1 : F ≤ t ∧ t ≤ T ∧ (v + e) / 2 + 1 ≤ t := by
        refine ⟨?_, w.2, ?_⟩
        · have := w.1; split at this <;> omega
        · have := w.1; split at this <;> omega
      exact ⟨q.mp ⟨w1.1, w1.2.1⟩, by unfold ad; omega⟩
    · intro ⟨w1, w2⟩
      have w3 := q.mpr w1
      unfold ad at w2
      refine ⟨?_, w3.2⟩
      split <;> omega
theorem j_keep {Q : mI → mL → gm_cfg → Prop} {v e F T : Nat} {S : Nat → Prop} (hr : RI I v F T) (hs : RS F T S) (hv : v ≤ 2000) (he : e ≤ 2000) (hq : ∀ (I' : mI) (F' T' : Nat), RI I' v F' T' → KO p24 I I' → RS F' T' (fun t => S t ∧ ad v t ≤ ad e t) → Q I' L c) : C_Re_keepFrom g (nI e) I L c Q := by
  have hr0 := hr
  obtain ⟨r2, r0, r1⟩ := hr
  have hs0 := hs
  obtain ⟨s1, s2, s3, s4⟩ := hs
  refine e_Re_keepFrom ?_
  rw [r2, r0, r1]
  refine pk_le v e (fun z => pk_le e v (fun z2 => ?_) (fun z2 => ?_)) (fun z => ?_)
  · have : e = v := by omega
    subst this
    refine hq I F T hr0 KO.rf ⟨s1, s2, s3, fun t => ?_⟩
    have q := s4 t
    exact ⟨fun w => ⟨q.mp w, Nat.le_refl _⟩, fun w => q.mpr w.1⟩
  · have e1 : (nI v + nI e) / 2 = nI ((v + e) / 2) := by
      rw [nI_add]
      exact pk_div (d := 2) (by omega) (by omega) (by omega)
    rw [e1]
    have e2 : (if nI ((v + e) / 2) < nI T then nI ((v + e) / 2) else nI T : Int32) = nI (if (v + e) / 2 < T then (v + e) / 2 else T) := by
      by_cases q : (v + e) / 2 < T
      · rw [if_pos q, if_pos (nI_lt q (by omega))]
      · rw [if_neg q, if_neg (nI_nlt (by omega) (by omega))]
    rw [e2]
    refine hq _ F _ ⟨r2, r0, gm_u_eq _ _ _ _⟩ (KO.u rfl KO.rf) ⟨s1, s2, by split <;> omega, fun t => ?_⟩
    have q := s4 t
    constructor
    · intro w
      have w1 : F ≤ t ∧ t ≤ T ∧ t ≤ (v + e) / 2 := by
        refine ⟨w.1, ?_, ?_⟩
        · have := w.2; split at this <;> omega
        · have := w.2; split at this <;> omega
      exact ⟨q.mp ⟨w1.1, w1.2.1⟩, by unfold ad; omega⟩
    · intro ⟨w1, w2⟩
      have w3 := q.mpr w1
      unfold ad at w2
      refine ⟨w3.1, ?_⟩
      split <;> omega
  · have e1 : (nI v + nI e + 1) / 2 = nI ((v + e + 1) / 2) := by
      rw [nI_add, nI_1]
      exact pk_div (d := 2) (by omega) (by omega) (by omega)
    rw [e1]
    have e2 : (if nI F < nI ((v + e + 1) / 2) then nI ((v + e + 1) / 2) else nI F : Int32) = nI (if F < (v + e + 1) / 2 then (v + e + 1) / 2 else F) := by
      by_cases q : F < (v + e + 1) / 2
      · rw [if_pos q, if_pos (nI_lt q (by omega))]
      · rw [if_neg q, if_neg (nI_nlt (by omega) (by omega))]
    rw [e2]
    refine hq _ _ T ⟨r2, gm_u_eq _ _ _ _, r1⟩ (KO.u rfl KO.rf) ⟨by split <;> omega, by split <;> omega, s3, fun t => ?_⟩
    have q := s4 t
    constructor
    · intro w
      have w1 : F ≤ t ∧ t ≤ T ∧ (v + e + 1) / 2 ≤ t := by
        refine ⟨?_, w.2, ?_⟩
        · have := w.1; split at this <;> omega
        · have := w.1; split at this <;> omega
      exact ⟨q.mp ⟨w1.1, w1.2.1⟩, by unfold ad; omega⟩
    · intro ⟨w1, w2⟩
      have w3 := q.mpr w1
      unfold ad at w2
      refine ⟨?_, w3.2⟩
      split <;> omega
theorem RS_iff {F T : Nat} {S S' : Nat → Prop} (h : RS F T S) (e : ∀ t, S t ↔ S' t) : RS F T S' := ⟨h.1, h.2.1, h.2.2.1, fun t => (h.2.2.2 t).trans (e t)⟩
/-- behind the first many numbers -/
def Sb (I : mI) (v many t : Nat) : Prop := (nv I 2 ≤ t ∧ t ≤ nv I 3) ∧ ∀ i, i < many → ad v t < ad (nu I i) t
theorem j_behind {Q : Nat → mI → mL → gm_cfg → Prop} {v many : Nat} (h : FS0 I) (hv : v ≤ 2000) (hm : many ≤ nv I 1) (hq : ∀ (I' : mI) (F T : Nat), RI I' v F T → KO p24 I I' → RS F T (Sb I v many) → Q 24 I' L c) : C_Sr_reachBehind g (nI v) (nI many) I L c Q := by
  have hLo := fLo h
  have hHi := fHi h
  have hG := fG h
  refine e_Sr_reachBehind (e_Re_open ?_)
  have key := lp0 (P := fun k => ∀ (I' : mI) (F T : Nat), RI I' v F T → KO p24 I I' → RS F T (Sb I v k) → Z_Sr_reachBehind g Q 24 [(0, .ref 23), (1, .int (nI v)), (2, .int (nI many)), (3, .int (nI k))] [] I' L c) many ?_ ?_
  · refine key _ (nv I 2) (nv I 3) ⟨rfl, hLo.2.2.2, hHi.2.2.2⟩ (KO.u rfl (KO.u rfl (KO.u rfl KO.rf))) ⟨by omega, by omega, by omega, fun t => ?_⟩
    exact ⟨fun q => ⟨q, fun i hi => absurd hi (by omega)⟩, fun q => q.1⟩
  · intro I' F T r1 r2 r3
    exact r_Sr_reachBehind_24 (br_t (nI_le (Nat.le_refl _) (by omega)) (hq I' F T r1 r2 r3))
  · intro k hk ih I' F T r1 r2 r3
    have h' : FS0 I' := FS0.k h (Keep.o (L := L) r2 per24)
    have n' : nv I' = nv I := nv_60 (r2 60 rfl)
    have hk' : k < nv I 1 := by omega
    have hn := fNu h hk'
    refine r_Sr_reachBehind_24 (br_f (nI_ge hk (by omega)) (j_shT h' (by rw [n']; exact hk') (bt ⟨vp_in_nI (by omega) (by omega), ?_⟩)))
    rw [nI_clamp (by omega), show I' 21 k = nI (nu I k) by rw [r2 21 rfl]; exact hn.1.2.2]
    refine j_yield r1 r3 hv hn.1.2.1 (fun I2 F2 T2 a1 a2 a3 => ?_)
    rw [nI_1]
    refine ih I2 F2 T2 a1 (r2.tr a2) (RS_iff a3 (fun t => ?_))
    constructor
    · intro ⟨⟨q1, q2⟩, q3⟩
      refine ⟨q1, fun i hi => ?_⟩
      rcases Nat.lt_or_ge i k with z | z
      · exact q2 i z
      · rw [show i = k by omega]; exact q3
    · intro ⟨q1, q2⟩
      exact ⟨⟨q1, fun i hi => q2 i (by omega)⟩, q2 k (by omega)⟩
def So (I : mI) (k t : Nat) : Prop := Sb I (nu I k) k t ∧ ∀ i, k < i → i < nv I 1 → ad (nu I k) t ≤ ad (nu I i) t
theorem j_reachOf {Q : Nat → mI → mL → gm_cfg → Prop} {k : Nat} (h : FS0 I) (hk : k < nv I 1) (hq : ∀ (I' : mI) (F T : Nat), RI I' (nu I k) F T → KO p24 I I' → RS F T (So I k) → Q 24 I' L c) : C_Sr_reachOf g (nI k) I L c Q := by
  have hG := fG h
  have hn := fNu h hk
  refine e_Sr_reachOf (j_shT h hk (bt ⟨vp_in_nI (by omega) (by omega), ?_⟩))
  rw [nI_clamp (by omega), hn.1.2.2]
  refine j_behind (v := nu I k) h hn.1.2.1 (by omega) (fun I1 F1 T1 a1 a2 a3 => ⟨rfl, ?_⟩)
  rw [nI_1]
  have key := lp (P := fun i => k + 1 ≤ i → ∀ (I' : mI) (F T : Nat), RI I' (nu I k) F T → KO p24 I I' → RS F T (fun t => Sb I (nu I k) k t ∧ ∀ j, k < j → j < i → ad (nu I k) t ≤ ad (nu I j) t) → Z_Sr_reachOf g Q 30 [(0, .ref 23), (1, .int (nI k)), (2, .int (nI i))] [] I' L c) (nv I 1) ?_ ?_ (k + 1) (by omega)
  · refine key (Nat.le_refl _) I1 F1 T1 a1 a2 (RS_iff a3 (fun t => ?_))
    exact ⟨fun q => ⟨q, fun j j1 j2 => absurd j2 (by omega)⟩, fun q => q.1⟩
  · intro _ I' F T r1 r2 r3
    refine r_Sr_reachOf_30 (br_t ?_ (hq I' F T r1 r2 r3))
    rw [r2 20 rfl, hG.2.2]
    exact nI_le (Nat.le_refl _) (by omega)
  · intro i hi ih hki I' F T r1 r2 r3
    have hni := fNu h hi
    refine r_Sr_reachOf_30 (br_f ?_ ⟨vp_in_nI (by omega) (by omega), ?_⟩)
    · rw [r2 20 rfl, hG.2.2]
      exact nI_ge hi (by omega)
    rw [nI_clamp (by omega), show I' 21 i = nI (nu I i) by rw [r2 21 rfl]; exact hni.1.2.2]
    refine j_keep r1 r3 hn.1.2.1 hni.1.2.1 (fun I2 F2 T2 b1 b2 b3 => ?_)
    rw [nI_1]
    refine ih (by omega) I2 F2 T2 b1 (r2.tr b2) (RS_iff b3 (fun t => ?_))
    constructor
    · intro ⟨⟨q1, q2⟩, q3⟩
      refine ⟨q1, fun j j1 j2 => ?_⟩
      rcases Nat.lt_or_ge j i with z | z
      · exact q2 j j1 z
      · rw [show j = i by omega]; exact q3
    · intro ⟨q1, q2⟩
      exact ⟨⟨q1, fun j j1 j2 => q2 j j1 (by omega)⟩, q2 i (by omega) (by omega)⟩
/-- who is nearest, said outright -/
theorem nr_iff {f : Nat → Nat} {t k : Nat} : ∀ n, (nr f t n = some k ↔ k < n ∧ (∀ i, i < k → ad (f k) t < ad (f i) t) ∧ ∀ i, k < i → i < n → ad (f k) t ≤ ad (f i) t)
  | 0 => ⟨(fun q => by cases q), fun q => absurd q.1 (by omega)⟩
  | n + 1 => by
    have ih := nr_iff (f := f) (t := t) (k := k) n
    have hlt := nr_lt (f := f) (t := t) n
    have hex := nr_some (f := f) (t := t) n
    simp only [nr]
    cases hb : nr f t n with
    | none =>
      have h0 : n = 0 := by
        rcases Nat.eq_zero_or_pos n with q | q
        · exact q
        · obtain ⟨b, q2⟩ := hex q; rw [hb] at q2; cases q2
      subst h0
      constructor
      · intro q; cases q
        exact ⟨by omega, fun i hi => absurd hi (by omega), fun i h1 h2 => absurd h2 (by omega)⟩
      · intro ⟨q1, _, _⟩
        rw [show k = 0 by omega]
    | some b =>
      have hbn := hlt b hb
      have sb := (nr_iff (f := f) (t := t) (k := b) n).mp hb
      simp only
      by_cases z : ad (f n) t < ad (f b) t
      · rw [if_pos z]
        constructor
        · intro q; cases q
          refine ⟨by omega, fun i hi => ?_, fun i h1 h2 => absurd h2 (by omega)⟩
          rcases Nat.lt_or_ge i b with w | w
          · have := sb.2.1 i w; omega
          · rcases Nat.lt_or_ge b i with w2 | w2
            · have := sb.2.2 i w2 hi; omega
            · rw [show i = b by omega]; exact z
        · intro ⟨q1, q2, q3⟩
          rcases Nat.lt_or_ge k n with w | w
          · have h1 := q3 n w (by omega)
            have h2 := ih.mpr ⟨w, q2, fun i h1 h2 => q3 i h1 (by omega)⟩
            rw [hb] at h2
            have h3 : b = k := Option.some.inj h2
            rw [h3] at z
            omega
          · rw [show k = n by omega]
      · rw [if_neg z]
        constructor
        · intro q; cases q
          refine ⟨by omega, sb.2.1, fun i h1 h2 => ?_⟩
          rcases Nat.lt_or_ge i n with w | w
          · exact sb.2.2 i h1 w
          · rw [show i = n by omega]; omega
        · intro ⟨q1, q2, q3⟩
          rcases Nat.lt_or_ge k n with w | w
          · rw [← hb]
            exact ih.mpr ⟨w, q2, fun i h1 h2 => q3 i h1 (by omega)⟩
          · have := q2 b (by omega)
            rw [show k = n by omega] at this
            omega
theorem So_iff {k t : Nat} (hk : k < nv I 1) : So I k t ↔ (nv I 2 ≤ t ∧ t ≤ nv I 3) ∧ nr (nu I) t (nv I 1) = some k := by
  rw [nr_iff]
  constructor
  · intro ⟨⟨q1, q2⟩, q3⟩; exact ⟨q1, hk, q2, q3⟩
  · intro ⟨q1, _, q2, q3⟩; exact ⟨⟨q1, q2⟩, q3⟩
/-! sums over a run -/
theorem sN_if {f : Nat → Nat} {P P' : Nat → Prop} [DecidablePred P] [DecidablePred P'] : ∀ n, (∀ i, i < n → (P i ↔ P' i)) → sN (fun i => if P i then f i else 0) n = sN (fun i => if P' i then f i else 0) n
  | 0, _ => rfl
  | n + 1, h => by
    show sN _ n + (if P n then f n else 0) = sN _ n + (if P' n then f n else 0)
    rw [sN_if n (fun i hi => h i (by omega))]
    have := h n (by omega)
    by_cases q : P n
    · rw [if_pos q, if_pos (this.mp q)]
    · rw [if_neg q, if_neg (fun w => q (this.mpr w))]
theorem sN_iv {f : Nat → Nat} {a b : Nat} : ∀ n, sN (fun i => if a ≤ i ∧ i < b then f i else 0) n = sN f (if n < b then n else b) - sN f (if n < a then n else a)
  | 0 => by
    show 0 = _
    have e1 : (if 0 < b then 0 else b) = 0 := by split <;> omega
    have e2 : (if 0 < a then 0 else a) = 0 := by split <;> omega
    rw [e1, e2]; rfl
  | n + 1 => by
    have ih := sN_iv (f := f) (a := a) (b := b) n
    show sN _ n + (if a ≤ n ∧ n < b then f n else 0) = _
    rw [ih]
    rcases Nat.lt_or_ge n a with q | q
    · rw [if_neg (by omega : ¬ (a ≤ n ∧ n < b)), show (if n < a then n else a) = n by rw [if_pos q], show (if n + 1 < a then n + 1 else a) = n + 1 by split <;> omega]
      rcases Nat.lt_or_ge n b with w | w
      · rw [if_pos w, show (if n + 1 < b then n + 1 else b) = n + 1 by split <;> omega]; omega
      · rw [if_neg (by omega), if_neg (by omega)]
        have h1 := sN_mono (f := f) (a := b) n w
        have h2 := sN_mono (f := f) (a := b) (n + 1) (by omega)
        omega
    · rw [show (if n < a then n else a) = a by rw [if_neg (by omega)], show (if n + 1 < a then n + 1 else a) = a by rw [if_neg (by omega)]]
      rcases Nat.lt_or_ge n b with w | w
      · rw [if_pos (show a ≤ n ∧ n < b from ⟨q, w⟩), if_pos w, show (if n + 1 < b then n + 1 else b) = n + 1 by split <;> omega]
        have h1 := sN_mono (f := f) (a := a) n q
        show sN f n - sN f a + f n = sN f n + f n - sN f a
        omega
      · rw [if_neg (by omega : ¬ (a ≤ n ∧ n < b)), if_neg (by omega), if_neg (by omega)]; omega
/-- below holds the sums -/
def BL (L : mL) (f : Nat → Nat) (W : Nat) : Prop := ∀ i, i ≤ W → L 25 i = lN (sN f i)
theorem j_sum {I0 : mI} {Q : Int64 → mI → mL → gm_cfg → Prop} {F T : Nat} {S : Nat → Prop} {f : Nat → Nat} {P : Nat → Prop} [DecidablePred P] (h : FS0 I) (n0 : nv I = nv I0) (hw : I 23 7 = nI (gw I0)) (hb : BL L f (gw I0)) (hs : RS F T S) (hS : ∀ t, S t → nv I0 2 ≤ t ∧ t ≤ nv I0 3) (hP : ∀ i, i < gw I0 → (P i ↔ S (nv I0 2 + i))) (hq : Q (lN (sN (fun i => if P i then f i else 0) (gw I0))) I L c) : C_Sr_sum g (nI F) (nI T) I L c Q := by
  have hLo := fLo h
  have hHi := fHi h
  have hB := gw_b (FS0.m h)
  have eg : gw I = gw I0 := by show nv I 3 - nv I 2 + 1 = _; rw [n0]
  rw [eg] at hB
  rw [n0] at hLo hHi
  obtain ⟨s1, s2, s3, s4⟩ := hs
  have eW : nv I0 2 + gw I0 = nv I0 3 + 1 := by show nv I0 2 + (nv I0 3 - nv I0 2 + 1) = _; omega
  have hq2 : Q (lN (sN (fun i => if F - nv I0 2 ≤ i ∧ i < T + 1 - nv I0 2 then f i else 0) (gw I0))) I L c ∨ True := Or.inr trivial
  refine e_Sr_sum ?_
  rw [hLo.2.2.2, hw]
  by_cases z : F ≤ T
  · have q1 := hS F ((s4 F).mp ⟨Nat.le_refl _, z⟩)
    have q2 := hS T ((s4 T).mp ⟨z, Nat.le_refl _⟩)
    rw [pk_sub q1.1, pk_sub q2.1, nI_1]
    refine br_f (nI_pos (by omega)) (br_f (nI_ge (by omega) (by omega)) (br_f (nI_nlt (by omega) (by omega)) ⟨vp_in_nI (by omega) (by omega), vp_in_nI (by omega) (by omega), ?_⟩))
    rw [nI_clamp (by omega), nI_clamp (by omega), hb _ (by omega), hb _ (by omega), lN_sub (sN_mono _ (by omega))]
    have e1 := sN_if (f := f) (P := P) (P' := fun i => F - nv I0 2 ≤ i ∧ i < T - nv I0 2 + 1) (gw I0) (fun i hi => by
      rw [hP i hi, ← s4]
      constructor
      · intro w; omega
      · intro w; omega)
    rw [e1, sN_iv, show (if gw I0 < T - nv I0 2 + 1 then gw I0 else T - nv I0 2 + 1) = T - nv I0 2 + 1 by split <;> omega, show (if gw I0 < F - nv I0 2 then gw I0 else F - nv I0 2) = F - nv I0 2 by split <;> omega] at hq
    exact hq
  · have e1 := sN_if (f := f) (P := P) (P' := fun i => 1 ≤ i ∧ i < 0) (gw I0) (fun i hi => by
      rw [hP i hi, ← s4]
      constructor
      · intro w; omega
      · intro w; omega)
    have e2 : sN (fun i => if P i then f i else 0) (gw I0) = 0 := by
      rw [e1, sN_0]
      intro j hj
      show (if 1 ≤ j ∧ j < 0 then f j else 0) = 0
      rw [if_neg (by omega)]
    rw [e2] at hq
    refine br_c (fun _ => hq) (fun w => br_t ?_ hq)
    rw [Int32.le_iff_toInt_le]
    have t1 := pk_sub_toInt (a := F) (b := nv I0 2) (by omega) (by omega)
    have t2 := pk_sub_toInt (a := T) (b := nv I0 2) (by omega) (by omega)
    have t3 : (nI T - nI (nv I0 2) + 1).toInt = (T : Int) - nv I0 2 + 1 := by
      rcases Nat.lt_or_ge (T + 1) (nv I0 2) with y | y
      · have e : (nI T - nI (nv I0 2) + 1 : Int32) = nI (T + 1) - nI (nv I0 2) := by
          rw [nI_succ, Int32.sub_eq_add_neg, Int32.sub_eq_add_neg, Int32.add_assoc, Int32.add_comm (-nI (nv I0 2)) 1, ← Int32.add_assoc]
        rw [e, pk_sub_toInt (by omega) (by omega)]
        omega
      · have e : (nI T - nI (nv I0 2) + 1 : Int32) = nI (T + 1) - nI (nv I0 2) := by
          rw [nI_succ, Int32.sub_eq_add_neg, Int32.sub_eq_add_neg, Int32.add_assoc, Int32.add_comm (-nI (nv I0 2)) 1, ← Int32.add_assoc]
        rw [e, pk_sub_toInt (by omega) (by omega)]
        omega
    rw [t1, t3]
    omega
end Re
