/-! THE INVARIANT between the class's cells and the reference's. -/
/-- a loop that counts up: from its end backwards -/
theorem lp {P : Nat → Prop} (m : Nat) (hend : P m) (hstep : ∀ k, k < m → P (k + 1) → P k) : ∀ k, k ≤ m → P k := by
  intro k hk
  have key : ∀ n k, k + n = m → P k := by
    intro n
    induction n with
    | zero => intro k h; have : k = m := by omega
              subst this; exact hend
    | succ n ih => intro k h; exact hstep k (by omega) (ih (k + 1) (by omega))
  exact key (m - k) k (by omega)
theorem lp0 {P : Nat → Prop} (m : Nat) (hend : P m) (hstep : ∀ k, k < m → P (k + 1) → P k) : P 0 := lp m hend hstep 0 (Nat.zero_le _)
/-- a loop that counts down -/
theorem lpd {P : Nat → Prop} (h0 : P 0) (hstep : ∀ k, P k → P (k + 1)) : ∀ k, P k := fun k => Nat.rec h0 (fun k ih => hstep k ih) k
theorem nle {a b : Nat} (h : nI a ≤ nI b) (ha : a < 2 ^ 31) (hb : b < 2 ^ 31) : a ≤ b := (nI_leI ha hb).mp h
theorem nnle {a b : Nat} (h : ¬ nI a ≤ nI b) (hb : b < 2 ^ 31) : b < a := by
  rcases Nat.lt_or_ge b a with q | q
  · exact q
  · exact absurd (nI_le q hb) h
theorem nlt {a b : Nat} (h : nI a < nI b) (ha : a < 2 ^ 31) (hb : b < 2 ^ 31) : a < b := (nI_ltI ha hb).mp h
theorem nnlt {a b : Nat} (h : ¬ nI a < nI b) (hb : b < 2 ^ 31) : b ≤ a := by
  rcases Nat.lt_or_ge a b with q | q
  · exact absurd (nI_lt q hb) h
  · exact q
theorem neq {a b : Nat} (h : nI a = nI b) (ha : a < 2 ^ 31) (hb : b < 2 ^ 31) : a = b := (nI_eq ha hb).mp h
/-- sums as the machine makes them -/
def sI (f : Nat → Int32) : Nat → Int32
  | 0 => 0
  | n + 1 => sI f n + f n
theorem sI_congr {f f' : Nat → Int32} : ∀ (n : Nat), (∀ k, k < n → f k = f' k) → sI f n = sI f' n
  | 0, _ => rfl
  | n + 1, h => by
    show sI f n + f n = sI f' n + f' n
    rw [sI_congr n (fun k hk => h k (by omega)), h n (by omega)]
def sN (f : Nat → Nat) : Nat → Nat
  | 0 => 0
  | n + 1 => sN f n + f n
theorem sI_sN {f : Nat → Int32} {f' : Nat → Nat} : ∀ (n : Nat), (∀ k, k < n → f k = nI (f' k)) → sI f n = nI (sN f' n)
  | 0, _ => rfl
  | n + 1, h => by
    show sI f n + f n = nI (sN f' n + f' n)
    rw [sI_sN n (fun k hk => h k (by omega)), h n (by omega), nI_add]
/-- the reference's numbers, as numbers -/
def nv (I : mI) (k : Nat) : Nat := (I 60 k).toNatClampNeg
def isN (I : mI) (k m : Nat) : Prop := I 60 k = nI (nv I k) ∧ nv I k ≤ m
/-- a fete and a list: the class's cells f (a1 a2 a3), sh (nu wr), the reference's row from place off on -/
def FS (I : mI) (f a1 a2 a3 sh nu wr off : Nat) : Prop :=
  (isN I off 6 ∧ I f 5 = I 60 off) ∧ (isN I (off + 1) 40 ∧ I sh 2 = I 60 (off + 1)) ∧
  (isN I (off + 2) 999 ∧ 1 ≤ nv I (off + 2) ∧ I f 0 = I 60 (off + 2)) ∧ (isN I (off + 3) (nv I (off + 2) + 199) ∧ nv I (off + 2) ≤ nv I (off + 3) ∧ I f 1 = I 60 (off + 3)) ∧
  (isN I (off + 4) 99 ∧ I f 10 = I 60 (off + 4)) ∧ (isN I (off + 5) 9999 ∧ I f 11 = I 60 (off + 5)) ∧ (isN I (off + 6) 999 ∧ I f 12 = I 60 (off + 6)) ∧ (isN I (off + 7) 1 ∧ I f 9 = I 60 (off + 7)) ∧ I f 13 = I 60 (off + 8) ∧
  ((I f 2 = 0 ∧ I 60 (off + 10) = -1) ∨ (I f 2 = 1 ∧ isN I (off + 9) 999 ∧ I f 3 = I 60 (off + 9) ∧ isN I (off + 10) 8 ∧ I f 4 = I 60 (off + 10))) ∧
  (∀ j, j < nv I off → (isN I (off + 11 + j) 200 ∧ 1 ≤ nv I (off + 11 + j) ∧ I a1 j = I 60 (off + 11 + j)) ∧ (isN I (off + 17 + j) 20 ∧ I a2 j = I 60 (off + 17 + j)) ∧ (isN I (off + 23 + j) 10 ∧ I a3 j = I 60 (off + 23 + j))) ∧
  (∀ k, k < nv I (off + 1) → (isN I (off + 69 + k) 2000 ∧ I nu k = I 60 (off + 69 + k)) ∧ (isN I (off + 29 + k) 5 ∧ nv I (off + 29 + k) < nv I off ∧ I wr k = I 60 (off + 29 + k)))
/-- a row of numbers: the class's cells o, p, the reference's r -/
def RW (I : mI) (L : mL) (o p r : Nat) : Prop :=
  (I o 1 = -1 ∧ I 71 r = -1) ∨ (∃ n s : Nat, n ≤ 40 ∧ s ≤ 3 ∧ I o 1 = nI n ∧ I 72 r = nI n ∧ I o 2 = nI s ∧ I 71 r = nI s ∧ ∀ k, k < n → L p k = L 73 (40 * r + k))
def IM (I : mI) (o f a1 a2 a3 sh nu wr i : Nat) : Prop := (I o 2 = 0 ∧ I 61 i = 0) ∨ (I o 2 = 1 ∧ I 61 i = 1 ∧ FS I f a1 a2 a3 sh nu wr (110 * (i + 1)))
/-- the tape -/
def TP (I : mI) : Prop := ∃ T : Nat, T ≤ 700 ∧ I 0 1 = nI T ∧ I 59 5 = nI T ∧ ∀ k, k < T → ∃ b : Nat, b < 256 ∧ I 62 k = nI b ∧ I 1 k = (nI b).toInt8.toInt32
def CF (c : gm_cfg) : Prop := ∃ t, c = (some 12, some 13, t) ∨ c = (some 13, some 12, t)
/-- the trial sheet's size -/
def SZ (I : mI) : Prop := ∃ k : Nat, k ≤ 40 ∧ I 7 2 = nI k
def Inv (I : mI) (L : mL) (c : gm_cfg) : Prop :=
  FS I 16 17 18 19 20 21 22 0 ∧ TP I ∧ (I 6 0 = I 59 13 ∧ I 6 1 = I 59 14) ∧ (RW I L 35 36 0 ∧ RW I L 37 38 1 ∧ RW I L 39 40 2 ∧ RW I L 41 42 3) ∧
  (IM I 43 44 45 46 47 48 49 50 0 ∧ IM I 51 52 53 54 55 56 57 58 1) ∧ CF c ∧ SZ I ∧ L 25 0 = 0
/-- what no asking call changes -/
def per (o k : Nat) : Bool := match o with
  | 0 => true | 1 => true
  | 6 => k == 0 || k == 1
  | 7 => k == 2
  | 16 => true | 17 => true | 18 => true | 19 => true | 20 => true | 21 => true | 22 => true
  | 35 => true | 37 => true | 39 => true | 41 => true
  | 43 => true | 44 => true | 45 => true | 46 => true | 47 => true | 48 => true | 49 => true | 50 => true | 51 => true | 52 => true | 53 => true | 54 => true | 55 => true | 56 => true | 57 => true | 58 => true
  | 59 => k == 5 || k == 13 || k == 14
  | 60 => true | 61 => true | 62 => true | 71 => true | 72 => true
  | _ => false
def perL (o : Nat) : Bool := match o with
  | 36 => true | 38 => true | 40 => true | 42 => true | 73 => true
  | _ => false
def Keep (I : mI) (L : mL) (I' : mI) (L' : mL) : Prop := (∀ o k, per o k = true → I' o k = I o k) ∧ (∀ o, perL o = true → L' o = L o) ∧ L' 25 0 = L 25 0
theorem Keep.rf {I : mI} {L : mL} : Keep I L I L := ⟨fun _ _ _ => rfl, fun _ _ => rfl, rfl⟩
theorem Keep.tr {I I1 I2 : mI} {L L1 L2 : mL} (h : Keep I L I1 L1) (h' : Keep I1 L1 I2 L2) : Keep I L I2 L2 := ⟨fun o k q => (h'.1 o k q).trans (h.1 o k q), fun o q => (h'.2.1 o q).trans (h.2.1 o q), h'.2.2.trans h.2.2⟩
theorem Keep.u {I : mI} {L : mL} {o k : Nat} {v : Int32} (h : per o k = false) : Keep I L (gm_u I o k v) L := by
  refine ⟨fun o' k' q => ?_, fun _ _ => rfl, rfl⟩
  by_cases e : o' = o
  · subst e
    by_cases e2 : k' = k
    · subst e2
      rw [h] at q
      cases q
    · exact gm_u_ne2 _ _ _ _ e2
  · rw [gm_u_ne _ _ _ e]
theorem Keep.l {I I' : mI} {L L' : mL} (h : Keep I L I' L) (hl : ∀ o, perL o = true → L' o = L o) (h25 : L' 25 0 = L 25 0) : Keep I L I' L' := ⟨h.1, hl, h25⟩
theorem Keep.up {I : mI} {L : mL} {o : Nat} {f : Nat → Int32} (h : ∀ k, per o k = false) : Keep I L (va_up I o f) L := by
  refine ⟨fun o' k' q => ?_, fun _ _ => rfl, rfl⟩
  by_cases e : o' = o
  · subst e
    rw [h] at q
    cases q
  · simp [va_up, e]
theorem Keep.row {I I' : mI} {L L' : mL} (h : Keep I L I' L') {o : Nat} (ho : ∀ k, per o k = true) : I' o = I o := funext fun k => h.1 o k (ho k)
theorem FS_congr {I I' : mI} {f a1 a2 a3 sh nu wr off : Nat} (h60 : I' 60 = I 60) (h1 : I' f = I f) (h2 : I' a1 = I a1) (h3 : I' a2 = I a2) (h4 : I' a3 = I a3) (h5 : I' sh = I sh) (h6 : I' nu = I nu) (h7 : I' wr = I wr) (h : FS I f a1 a2 a3 sh nu wr off) : FS I' f a1 a2 a3 sh nu wr off := by
  unfold FS isN nv at *
  rw [h60, h1, h2, h3, h4, h5, h6, h7]
  exact h
theorem RW_congr {I I' : mI} {L L' : mL} {o p r : Nat} (h1 : I' o = I o) (h2 : I' 71 = I 71) (h3 : I' 72 = I 72) (h4 : L' p = L p) (h5 : L' 73 = L 73) (h : RW I L o p r) : RW I' L' o p r := by
  unfold RW at *
  rw [h1, h2, h3, h4, h5]
  exact h
theorem IM_congr {I I' : mI} {o f a1 a2 a3 sh nu wr i : Nat} (h0 : I' o = I o) (h61 : I' 61 = I 61) (h60 : I' 60 = I 60) (h1 : I' f = I f) (h2 : I' a1 = I a1) (h3 : I' a2 = I a2) (h4 : I' a3 = I a3) (h5 : I' sh = I sh) (h6 : I' nu = I nu) (h7 : I' wr = I wr) (h : IM I o f a1 a2 a3 sh nu wr i) : IM I' o f a1 a2 a3 sh nu wr i := by
  unfold IM at *
  rw [h0, h61]
  rcases h with h | ⟨q1, q2, q3⟩
  · exact Or.inl h
  · exact Or.inr ⟨q1, q2, FS_congr h60 h1 h2 h3 h4 h5 h6 h7 q3⟩
theorem TP_congr {I I' : mI} (h0 : I' 0 1 = I 0 1) (h1 : I' 1 = I 1) (h2 : I' 59 5 = I 59 5) (h3 : I' 62 = I 62) (h : TP I) : TP I' := by
  unfold TP at *
  rw [h0, h1, h2, h3]
  exact h
theorem Inv.keep7 {I I' : mI} {L L' : mL} {c c' : gm_cfg} (h : Inv I L c) (k1 : ∀ o k, o ≠ 7 → per o k = true → I' o k = I o k) (k2 : (∀ o, perL o = true → L' o = L o) ∧ L' 25 0 = L 25 0) (hc : CF c') (hs : SZ I') : Inv I' L' c' := by
  obtain ⟨h1, h2, ⟨h3, h3'⟩, ⟨r0, r1, r2, r3⟩, ⟨m0, m1⟩, -, -, l0⟩ := h
  have R : ∀ o, (∀ k, per o k = true) → I' o = I o := fun o ho => funext fun j => k1 o j (fun e => by subst e; have := ho 0; cases this) (ho j)
  refine ⟨FS_congr (R 60 fun _ => rfl) (R 16 fun _ => rfl) (R 17 fun _ => rfl) (R 18 fun _ => rfl) (R 19 fun _ => rfl) (R 20 fun _ => rfl) (R 21 fun _ => rfl) (R 22 fun _ => rfl) h1, TP_congr (by rw [R 0 fun _ => rfl]) (R 1 fun _ => rfl) (k1 59 5 (by omega) rfl) (R 62 fun _ => rfl) h2, ⟨?_, ?_⟩, ⟨?_, ?_, ?_, ?_⟩, ⟨?_, ?_⟩, hc, hs, k2.2.trans l0⟩
  · rw [k1 6 0 (by omega) rfl, k1 59 13 (by omega) rfl]; exact h3
  · rw [k1 6 1 (by omega) rfl, k1 59 14 (by omega) rfl]; exact h3'
  · exact RW_congr (R 35 fun _ => rfl) (R 71 fun _ => rfl) (R 72 fun _ => rfl) (k2.1 36 rfl) (k2.1 73 rfl) r0
  · exact RW_congr (R 37 fun _ => rfl) (R 71 fun _ => rfl) (R 72 fun _ => rfl) (k2.1 38 rfl) (k2.1 73 rfl) r1
  · exact RW_congr (R 39 fun _ => rfl) (R 71 fun _ => rfl) (R 72 fun _ => rfl) (k2.1 40 rfl) (k2.1 73 rfl) r2
  · exact RW_congr (R 41 fun _ => rfl) (R 71 fun _ => rfl) (R 72 fun _ => rfl) (k2.1 42 rfl) (k2.1 73 rfl) r3
  · exact IM_congr (R 43 fun _ => rfl) (R 61 fun _ => rfl) (R 60 fun _ => rfl) (R 44 fun _ => rfl) (R 45 fun _ => rfl) (R 46 fun _ => rfl) (R 47 fun _ => rfl) (R 48 fun _ => rfl) (R 49 fun _ => rfl) (R 50 fun _ => rfl) m0
  · exact IM_congr (R 51 fun _ => rfl) (R 61 fun _ => rfl) (R 60 fun _ => rfl) (R 52 fun _ => rfl) (R 53 fun _ => rfl) (R 54 fun _ => rfl) (R 55 fun _ => rfl) (R 56 fun _ => rfl) (R 57 fun _ => rfl) (R 58 fun _ => rfl) m1
theorem Inv.keep {I I' : mI} {L L' : mL} {c c' : gm_cfg} (h : Inv I L c) (k : Keep I L I' L') (hc : CF c') : Inv I' L' c' :=
  h.keep7 (fun o j _ q => k.1 o j q) k.2 hc (by
    obtain ⟨n, h1, h2⟩ := h.2.2.2.2.2.2.1
    exact ⟨n, h1, by rw [k.1 7 2 rfl]; exact h2⟩)
theorem Inv.cf {I : mI} {L : mL} {c : gm_cfg} (h : Inv I L c) : CF c := h.2.2.2.2.2.1
/-- the last step of an asking call: the same answer, and nothing that stays has changed -/
theorem fin {I I' : mI} {L L' : mL} {c : gm_cfg} {α : Type} {r r' : α} (h : Inv I L c) (e : r = r') (k : Keep I L I' L') : r = r' ∧ Inv I' L' c := ⟨e, h.keep k h.cf⟩
