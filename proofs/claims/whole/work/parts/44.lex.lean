/-! the words of a text: a pure lexer over bytes F, n of them -/
def isB (b : Nat) : Bool := b == 10 || b == 32
def isL (b : Nat) : Bool := decide (97 ≤ b) && decide (b ≤ 122)
def isD (b : Nat) : Bool := decide (48 ≤ b) && decide (b ≤ 57)
/-- the end of a run from p -/
def rn (F : Nat → Nat) (n : Nat) (P : Nat → Bool) : Nat → Nat → Nat
  | 0, p => p
  | f + 1, p => if p < n ∧ P (F p) = true then rn F n P f (p + 1) else p
def ru (F : Nat → Nat) (n : Nat) (P : Nat → Bool) (p : Nat) : Nat := rn F n P (n - p) p
theorem rn_spec {F : Nat → Nat} {n : Nat} {P : Nat → Bool} : ∀ f p, n - p ≤ f → p ≤ rn F n P f p ∧ (p ≤ n → rn F n P f p ≤ n) ∧ (∀ k, p ≤ k → k < rn F n P f p → k < n ∧ P (F k) = true) ∧ (rn F n P f p < n → ¬ P (F (rn F n P f p)) = true)
  | 0, p, h => ⟨Nat.le_refl _, fun q => q, fun k k1 k2 => absurd k2 (Nat.not_lt.mpr k1), fun q => absurd q (by show ¬ p < n; omega)⟩
  | f + 1, p, h => by
    unfold rn
    by_cases q : p < n ∧ P (F p) = true
    · rw [if_pos q]
      obtain ⟨a1, a2, a3, a4⟩ := rn_spec (F := F) (n := n) (P := P) f (p + 1) (by omega)
      refine ⟨by omega, fun _ => a2 (by omega), fun k k1 k2 => ?_, a4⟩
      rcases Nat.lt_or_ge p k with z | z
      · exact a3 k (by omega) k2
      · rw [show k = p by omega]; exact q
    · rw [if_neg q]
      exact ⟨Nat.le_refl _, fun z => z, fun k k1 k2 => absurd k2 (Nat.not_lt.mpr k1), fun z u => q ⟨z, u⟩⟩
theorem ru_spec (F : Nat → Nat) (n : Nat) (P : Nat → Bool) (p : Nat) : p ≤ ru F n P p ∧ (p ≤ n → ru F n P p ≤ n) ∧ (∀ k, p ≤ k → k < ru F n P p → k < n ∧ P (F k) = true) ∧ (ru F n P p < n → ¬ P (F (ru F n P p)) = true) := rn_spec (n - p) p (Nat.le_refl _)
/-- the words' lengths and places in the reference's string of all words -/
def kl (i : Nat) : Nat := [4, 5, 7, 4, 6, 5, 5, 3].getD i 0
def kp (i : Nat) : Nat := [1, 6, 12, 20, 25, 32, 38, 44].getD i 48
/-- is the run from b to e the i-th word? -/
def kw (F : Nat → Nat) (b e i : Nat) : Bool := decide (e - b = kl i) && decide (∀ k, k < kl i → nI (F (b + k)) = gm_ch i k)
/-- which word it is; 8: none -/
def kx (F : Nat → Nat) (b e : Nat) : Nat → Nat
  | 0 => 8
  | r + 1 => if kw F b e (7 - r) = true then 7 - r else kx F b e r
/-- value of the first j digits -/
def dg (F : Nat → Nat) (b : Nat) : Nat → Nat
  | 0 => 0
  | j + 1 => dg F b j * 10 + (F (b + j) - 48)
/-- the token that is found from p on: its begin, end, kind (as the reference counts), value -/
def xb (F : Nat → Nat) (n p : Nat) : Nat := ru F n isB p
def xe (F : Nat → Nat) (n p : Nat) : Nat := if n ≤ xb F n p then xb F n p else if isL (F (xb F n p)) = true then ru F n isL (xb F n p) else if isD (F (xb F n p)) = true then ru F n isD (xb F n p) else xb F n p + 1
def xk (F : Nat → Nat) (n p : Nat) : Nat := if n ≤ xb F n p then 11 else if isL (F (xb F n p)) = true then kx F (xb F n p) (xe F n p) 8 else if isD (F (xb F n p)) = true then (if xe F n p - xb F n p ≤ 4 then 9 else 12) else if F (xb F n p) = 59 then 10 else 12
def xv (F : Nat → Nat) (n p : Nat) : Nat := dg F (xb F n p) (if xe F n p - xb F n p < 4 then xe F n p - xb F n p else 4)
/-- the class's code of a kind -/
def jc (k : Nat) : Nat := if k ≤ 8 then 0 else if k = 9 then 1 else if k = 10 then 2 else if k = 11 then 3 else 4
/-- a byte as the class sees it -/
def jb (b : Nat) : Int32 := (nI b).toInt8.toInt32
theorem jb_toInt {b : Nat} (h : b < 256) : (jb b).toInt = if b < 128 then (b : Int) else (b : Int) - 256 := by
  show (nI b).toInt8.toInt32.toInt = _
  rw [Int8.toInt_toInt32, Int32.toInt_toInt8, nI_toInt (by omega)]
  simp only [Int.bmod]
  split <;> split <;> omega
theorem jb_eq {b m : Nat} (h : b < 256) (hm : m < 128) : (jb b = nI m) ↔ b = m := by
  constructor
  · intro q
    have := congrArg Int32.toInt q
    rw [jb_toInt h, nI_toInt (by omega)] at this
    split at this <;> omega
  · rintro rfl
    apply Int32.toInt_inj.mp
    rw [jb_toInt h, nI_toInt (by omega), if_pos hm]
theorem jb_lt {b m : Nat} (h : b < 256) (hm : m < 128) : (jb b < nI m ↔ (b < m ∨ 128 ≤ b)) ∧ (nI m < jb b ↔ (m < b ∧ b < 128)) := by
  constructor
  · rw [Int32.lt_iff_toInt_lt, jb_toInt h, nI_toInt (by omega)]
    split <;> omega
  · rw [Int32.lt_iff_toInt_lt, jb_toInt h, nI_toInt (by omega)]
    split <;> omega
section Lx
variable {g : gm_G} {I : mI} {L : mL} {w a : Option Nat}
theorem j_isL {Q : Bool → mI → mL → gm_cfg → Prop} {b : Nat} (h : b < 256) (hq : Q (isL b) I L (w, a, some 1)) : C_Rd_isLetter g (jb b) I L (w, a, some 1) Q := by
  have l1 := jb_lt h (m := 97) (by omega)
  have l2 := jb_lt h (m := 122) (by omega)
  refine e_Rd_isLetter (br_c (fun z => ?_) (fun z => br_c (fun z2 => ?_) (fun z2 => ?_)))
  · have := l1.1.mp z
    rw [show isL b = false by simp [isL]; omega] at hq; exact hq
  · have := l2.2.mp z2
    rw [show isL b = false by simp [isL]; omega] at hq; exact hq
  · have z' : ¬ (b < 97 ∨ 128 ≤ b) := fun q => z (l1.1.mpr q)
    have z2' : ¬ (122 < b ∧ b < 128) := fun q => z2 (l2.2.mpr q)
    rw [show isL b = true by simp [isL]; omega] at hq; exact hq
theorem j_isD {Q : Bool → mI → mL → gm_cfg → Prop} {b : Nat} (h : b < 256) (hq : Q (isD b) I L (w, a, some 1)) : C_Rd_isDigit g (jb b) I L (w, a, some 1) Q := by
  have l1 := jb_lt h (m := 48) (by omega)
  have l2 := jb_lt h (m := 57) (by omega)
  refine e_Rd_isDigit (br_c (fun z => ?_) (fun z => br_c (fun z2 => ?_) (fun z2 => ?_)))
  · have := l1.1.mp z
    rw [show isD b = false by simp [isD]; omega] at hq; exact hq
  · have := l2.2.mp z2
    rw [show isD b = false by simp [isD]; omega] at hq; exact hq
  · have z' : ¬ (b < 48 ∨ 128 ≤ b) := fun q => z (l1.1.mpr q)
    have z2' : ¬ (57 < b ∧ b < 128) := fun q => z2 (l2.2.mpr q)
    rw [show isD b = true by simp [isD]; omega] at hq; exact hq
theorem m_isL {c : gm_cfg} {Q : Bool → mI → mL → gm_cfg → Prop} {b : Nat} (h : b < 256) (hq : Q (isL b) I L c) : C_M_isSmall g (nI b) I L c Q := by
  refine e_M_isSmall (pk_lt b 97 (fun z => ?_) (fun z => pk_lt 122 b (fun z2 => ?_) (fun z2 => ?_)))
  · rw [show isL b = false by simp [isL]; omega] at hq; exact hq
  · rw [show isL b = false by simp [isL]; omega] at hq; exact hq
  · rw [show isL b = true by simp [isL]; omega] at hq; exact hq
theorem m_isD {c : gm_cfg} {Q : Bool → mI → mL → gm_cfg → Prop} {b : Nat} (h : b < 256) (hq : Q (isD b) I L c) : C_M_isDigit g (nI b) I L c Q := by
  refine e_M_isDigit (pk_lt b 48 (fun z => ?_) (fun z => pk_lt 57 b (fun z2 => ?_) (fun z2 => ?_)))
  · rw [show isD b = false by simp [isD]; omega] at hq; exact hq
  · rw [show isD b = false by simp [isD]; omega] at hq; exact hq
  · rw [show isD b = true by simp [isD]; omega] at hq; exact hq
/-- the class's text: n bytes F -/
def TX (I : mI) (n : Nat) (F : Nat → Nat) : Prop := n ≤ 700 ∧ I 6 3 = nI n ∧ ∀ k, k < n → F k < 256 ∧ I 1 k = jb (F k)
theorem j_byte {Q : Int32 → mI → mL → gm_cfg → Prop} {n k : Nat} {F : Nat → Nat} (e : TX I n F) (hk : k < n) (hq : Q (jb (F k)) I L (w, a, some 1)) : C_Rd_byteAt g (nI k) I L (w, a, some 1) Q := by
  obtain ⟨e1, e2, e3⟩ := e
  refine e_Rd_byteAt (br_f (nI_pos (by omega)) (br_f (nI_ge (b := 700) (by omega) (by omega)) ⟨vp_in_nI (by omega) (by omega), ?_⟩))
  rw [nI_clamp (by omega), (e3 k hk).2]
  exact hq
/-- any byte may be asked for -/
theorem j_byteX {Q : Int32 → mI → mL → gm_cfg → Prop} {k : Nat} (hk : k ≤ 700) (hq : ∀ v, Q v I L (w, a, some 1)) : C_Rd_byteAt g (nI k) I L (w, a, some 1) Q := by
  refine e_Rd_byteAt (br_f (nI_pos (by omega)) (pk_le 700 k (fun _ => hq _) (fun z => ⟨vp_in_nI z (by omega), hq _⟩)))
end Lx
