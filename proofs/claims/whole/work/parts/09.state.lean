/-! WHAT THE LAW MAKES: its cells by number: 0 the class under proof, 59 the reference, each with its own. -/
abbrev mI : Type := Nat → Nat → Int32
abbrev mL : Type := Nat → Nat → Int64
/-- the references that change: Offs.ways, Offs.after, Reader.text -/
abbrev gm_cfg : Type := Option Nat × Option Nat × Option Nat
def SH : List gm_S := [.inr 10, .inl (2, 700), .inr 1, .inl (0, 6), .inl (0, 6), .inl (0, 6), .inr 5, .inr 8, .inl (0, 40), .inl (0, 40), .inr 0, .inr 3, .inl (1, 321), .inl (1, 321), .inl (4, 4), .inl (5, 2), .inr 1, .inl (0, 6), .inl (0, 6), .inl (0, 6), .inr 8, .inl (0, 40), .inl (0, 40), .inr 7, .inr 4, .inl (1, 201), .inl (0, 200), .inl (0, 200), .inl (1, 200), .inr 9, .inl (0, 3), .inl (6, 3), .inl (0, 3), .inl (0, 3), .inl (0, 3), .inr 6, .inl (1, 40), .inr 6, .inl (1, 40), .inr 6, .inl (1, 40), .inr 6, .inl (1, 40), .inr 2, .inr 1, .inl (0, 6), .inl (0, 6), .inl (0, 6), .inr 8, .inl (0, 40), .inl (0, 40), .inr 2, .inr 1, .inl (0, 6), .inl (0, 6), .inl (0, 6), .inr 8, .inl (0, 40), .inl (0, 40), .inr 11, .inl (0, 330), .inl (3, 2), .inl (0, 700), .inl (0, 110), .inl (0, 110), .inl (1, 200), .inl (0, 200), .inl (0, 3), .inl (0, 9), .inl (1, 321), .inl (1, 321), .inl (0, 4), .inl (0, 4), .inl (1, 160)]
def RRt (c : gm_cfg) : List (List (Option Nat)) := [[some 1, none, some 16, some 2, some 6, some 20, some 7, some 10, some 23, some 29, some 11, some 14, some 15], [], [none, none, none, none, none, none, some 3, some 4, some 5], [], [], [], [none, none, c.2.2], [some 8, some 9], [], [], [], [none, none, none, c.1, c.2.1], [], [], [some 35, some 37, some 39, some 41], [some 43, some 51], [none, none, none, none, none, none, some 17, some 18, some 19], [], [], [], [some 21, some 22], [], [], [some 16, some 20, some 24, some 25, some 26, some 27, some 28], [], [], [], [], [], [some 30, some 31, some 23], [], [some 32, some 33, some 34], [], [], [], [some 36], [], [some 38], [], [some 40], [], [some 42], [], [some 44, some 48], [none, none, none, none, none, none, some 45, some 46, some 47], [], [], [], [some 49, some 50], [], [], [some 52, some 56], [none, none, none, none, none, none, some 53, some 54, some 55], [], [], [], [some 57, some 58], [], [], [none, some 60, some 61, some 62, some 63, none, none, none, none, none, none, none, none, none, none, some 64, none, none, some 65, none, some 66, none, none, none, none, some 67, some 68, some 69, some 70, some 71, some 72, some 73], [], [], [], [], [], [], [], [], [], [], [], [], [], []]
def RR (c : gm_cfg) : Nat → Nat → Option Nat := fun o k => ((RRt c).getD o []).getD k none
theorem RR_0 {c : gm_cfg} {v : Nat} : gm_u (RR c) 11 3 (some v) = RR (some v, c.2.1, c.2.2) := by
  funext o
  by_cases h : o = 11
  · subst h
    rw [gm_u_self]
    funext k
    match k with
    | 0 => rfl
    | 1 => rfl
    | 2 => rfl
    | 3 => rfl
    | 4 => rfl
    | k + 5 => rfl
  · rw [gm_u_ne _ _ _ h]
    funext k
    match o, h with
    | 0, _ => rfl
    | 1, _ => rfl
    | 2, _ => rfl
    | 3, _ => rfl
    | 4, _ => rfl
    | 5, _ => rfl
    | 6, _ => rfl
    | 7, _ => rfl
    | 8, _ => rfl
    | 9, _ => rfl
    | 10, _ => rfl
    | 11, h => exact absurd rfl h
    | 12, _ => rfl
    | 13, _ => rfl
    | 14, _ => rfl
    | 15, _ => rfl
    | 16, _ => rfl
    | 17, _ => rfl
    | 18, _ => rfl
    | 19, _ => rfl
    | 20, _ => rfl
    | 21, _ => rfl
    | 22, _ => rfl
    | 23, _ => rfl
    | 24, _ => rfl
    | 25, _ => rfl
    | 26, _ => rfl
    | 27, _ => rfl
    | 28, _ => rfl
    | 29, _ => rfl
    | 30, _ => rfl
    | 31, _ => rfl
    | 32, _ => rfl
    | 33, _ => rfl
    | 34, _ => rfl
    | 35, _ => rfl
    | 36, _ => rfl
    | 37, _ => rfl
    | 38, _ => rfl
    | 39, _ => rfl
    | 40, _ => rfl
    | 41, _ => rfl
    | 42, _ => rfl
    | 43, _ => rfl
    | 44, _ => rfl
    | 45, _ => rfl
    | 46, _ => rfl
    | 47, _ => rfl
    | 48, _ => rfl
    | 49, _ => rfl
    | 50, _ => rfl
    | 51, _ => rfl
    | 52, _ => rfl
    | 53, _ => rfl
    | 54, _ => rfl
    | 55, _ => rfl
    | 56, _ => rfl
    | 57, _ => rfl
    | 58, _ => rfl
    | 59, _ => rfl
    | 60, _ => rfl
    | 61, _ => rfl
    | 62, _ => rfl
    | 63, _ => rfl
    | 64, _ => rfl
    | 65, _ => rfl
    | 66, _ => rfl
    | 67, _ => rfl
    | 68, _ => rfl
    | 69, _ => rfl
    | 70, _ => rfl
    | 71, _ => rfl
    | 72, _ => rfl
    | 73, _ => rfl
    | o + 74, _ => rfl
theorem RR_1 {c : gm_cfg} {v : Nat} : gm_u (RR c) 11 4 (some v) = RR (c.1, some v, c.2.2) := by
  funext o
  by_cases h : o = 11
  · subst h
    rw [gm_u_self]
    funext k
    match k with
    | 0 => rfl
    | 1 => rfl
    | 2 => rfl
    | 3 => rfl
    | 4 => rfl
    | k + 5 => rfl
  · rw [gm_u_ne _ _ _ h]
    funext k
    match o, h with
    | 0, _ => rfl
    | 1, _ => rfl
    | 2, _ => rfl
    | 3, _ => rfl
    | 4, _ => rfl
    | 5, _ => rfl
    | 6, _ => rfl
    | 7, _ => rfl
    | 8, _ => rfl
    | 9, _ => rfl
    | 10, _ => rfl
    | 11, h => exact absurd rfl h
    | 12, _ => rfl
    | 13, _ => rfl
    | 14, _ => rfl
    | 15, _ => rfl
    | 16, _ => rfl
    | 17, _ => rfl
    | 18, _ => rfl
    | 19, _ => rfl
    | 20, _ => rfl
    | 21, _ => rfl
    | 22, _ => rfl
    | 23, _ => rfl
    | 24, _ => rfl
    | 25, _ => rfl
    | 26, _ => rfl
    | 27, _ => rfl
    | 28, _ => rfl
    | 29, _ => rfl
    | 30, _ => rfl
    | 31, _ => rfl
    | 32, _ => rfl
    | 33, _ => rfl
    | 34, _ => rfl
    | 35, _ => rfl
    | 36, _ => rfl
    | 37, _ => rfl
    | 38, _ => rfl
    | 39, _ => rfl
    | 40, _ => rfl
    | 41, _ => rfl
    | 42, _ => rfl
    | 43, _ => rfl
    | 44, _ => rfl
    | 45, _ => rfl
    | 46, _ => rfl
    | 47, _ => rfl
    | 48, _ => rfl
    | 49, _ => rfl
    | 50, _ => rfl
    | 51, _ => rfl
    | 52, _ => rfl
    | 53, _ => rfl
    | 54, _ => rfl
    | 55, _ => rfl
    | 56, _ => rfl
    | 57, _ => rfl
    | 58, _ => rfl
    | 59, _ => rfl
    | 60, _ => rfl
    | 61, _ => rfl
    | 62, _ => rfl
    | 63, _ => rfl
    | 64, _ => rfl
    | 65, _ => rfl
    | 66, _ => rfl
    | 67, _ => rfl
    | 68, _ => rfl
    | 69, _ => rfl
    | 70, _ => rfl
    | 71, _ => rfl
    | 72, _ => rfl
    | 73, _ => rfl
    | o + 74, _ => rfl
theorem RR_2 {c : gm_cfg} {v : Nat} : gm_u (RR c) 6 2 (some v) = RR (c.1, c.2.1, some v) := by
  funext o
  by_cases h : o = 6
  · subst h
    rw [gm_u_self]
    funext k
    match k with
    | 0 => rfl
    | 1 => rfl
    | 2 => rfl
    | 3 => rfl
    | 4 => rfl
    | 5 => rfl
    | 6 => rfl
    | 7 => rfl
    | 8 => rfl
    | k + 9 => rfl
  · rw [gm_u_ne _ _ _ h]
    funext k
    match o, h with
    | 0, _ => rfl
    | 1, _ => rfl
    | 2, _ => rfl
    | 3, _ => rfl
    | 4, _ => rfl
    | 5, _ => rfl
    | 6, h => exact absurd rfl h
    | 7, _ => rfl
    | 8, _ => rfl
    | 9, _ => rfl
    | 10, _ => rfl
    | 11, _ => rfl
    | 12, _ => rfl
    | 13, _ => rfl
    | 14, _ => rfl
    | 15, _ => rfl
    | 16, _ => rfl
    | 17, _ => rfl
    | 18, _ => rfl
    | 19, _ => rfl
    | 20, _ => rfl
    | 21, _ => rfl
    | 22, _ => rfl
    | 23, _ => rfl
    | 24, _ => rfl
    | 25, _ => rfl
    | 26, _ => rfl
    | 27, _ => rfl
    | 28, _ => rfl
    | 29, _ => rfl
    | 30, _ => rfl
    | 31, _ => rfl
    | 32, _ => rfl
    | 33, _ => rfl
    | 34, _ => rfl
    | 35, _ => rfl
    | 36, _ => rfl
    | 37, _ => rfl
    | 38, _ => rfl
    | 39, _ => rfl
    | 40, _ => rfl
    | 41, _ => rfl
    | 42, _ => rfl
    | 43, _ => rfl
    | 44, _ => rfl
    | 45, _ => rfl
    | 46, _ => rfl
    | 47, _ => rfl
    | 48, _ => rfl
    | 49, _ => rfl
    | 50, _ => rfl
    | 51, _ => rfl
    | 52, _ => rfl
    | 53, _ => rfl
    | 54, _ => rfl
    | 55, _ => rfl
    | 56, _ => rfl
    | 57, _ => rfl
    | 58, _ => rfl
    | 59, _ => rfl
    | 60, _ => rfl
    | 61, _ => rfl
    | 62, _ => rfl
    | 63, _ => rfl
    | 64, _ => rfl
    | 65, _ => rfl
    | 66, _ => rfl
    | 67, _ => rfl
    | 68, _ => rfl
    | 69, _ => rfl
    | 70, _ => rfl
    | 71, _ => rfl
    | 72, _ => rfl
    | 73, _ => rfl
    | o + 74, _ => rfl
def qI (Q : Int32 → mI → mL → gm_cfg → Prop) : Option Value → gm_H → Prop := fun v h => ∃ r I L c, v = some (.int r) ∧ h = (SH, I, L, RR c) ∧ Q r I L c
def qL (Q : Int64 → mI → mL → gm_cfg → Prop) : Option Value → gm_H → Prop := fun v h => ∃ r I L c, v = some (.long r) ∧ h = (SH, I, L, RR c) ∧ Q r I L c
def qZ (Q : Bool → mI → mL → gm_cfg → Prop) : Option Value → gm_H → Prop := fun v h => ∃ r I L c, v = some (.int (gm_b r)) ∧ h = (SH, I, L, RR c) ∧ Q r I L c
def qR (Q : Nat → mI → mL → gm_cfg → Prop) : Option Value → gm_H → Prop := fun v h => ∃ r I L c, v = some (.ref r) ∧ h = (SH, I, L, RR c) ∧ Q r I L c
def qV (Q : mI → mL → gm_cfg → Prop) : Option Value → gm_H → Prop := fun v h => ∃ I L c, v = none ∧ h = (SH, I, L, RR c) ∧ Q I L c
theorem gm_bn0 {b : Bool} (h : ¬ gm_b b = 0) : b = true := by cases b <;> simp_all [gm_b]
/-- a contract says more of what follows from what it says -/
theorem gm_Met_mono {g : gm_G} {y : MethodName} {cc : ByteArray} {nL : Nat} {rt : Option FieldType} {d mc ms : Nat} {as : List Value} {h : gm_H} {Q Q' : Option Value → gm_H → Prop} (hM : gm_Met g y cc nL rt d mc ms as h Q) (hq : ∀ v h', Q v h' → Q' v h') : gm_Met g y cc nL rt d mc ms as h Q' := by
  intro p e a1 a2 a3 s m args below a4 a5 a6 a7
  obtain ⟨t, o, b1, b2, b3, ⟨⟨⟨v, h', c1, c2, c3⟩, c4⟩, c5⟩⟩ := hM p e a1 a2 a3 s m args below a4 a5 a6 a7
  exact ⟨t, o, b1, b2, b3, ⟨⟨⟨v, h', c1, hq _ _ c2, c3⟩, c4⟩, c5⟩⟩
