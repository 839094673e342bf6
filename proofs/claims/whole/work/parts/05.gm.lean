/-! THE PURE MACHINE. A heap is a list of shapes and three memories (ints, longs, references) by cell and place; a reference is a cell's number. gm_X: the walk of a method's body from a place on, over any heap of the machine that holds the pure one. -/
abbrev gm_M : Type := (Nat → Nat → Int32) × (Nat → Nat → Int64) × (Nat → Nat → Option Nat)
abbrev gm_S : Type := (Nat × Nat) ⊕ Nat
abbrev gm_H : Type := List gm_S × gm_M
/-- launch; classes and their slots; array classes; the first cell's address; the String constants' addresses; their bytes' (500: the formatter, 501: the script); how long the script is, and what it holds -/
abbrev gm_G : Type := Launch × va_G × (Nat → ClassId) × Nat × (Nat → Nat) × (Nat → Nat) × Nat × (Nat → Int32)
def gm_tyA : Nat → FieldType
  | 0 => .int
  | 1 => .long
  | 2 => .byte
  | 3 => .boolean
  | 4 => .object "JarGuess$Row"
  | 5 => .object "JarGuess$Image"
  | _ => .array .int
def gm_R : Nat → String
  | 0 => RX0 | 1 => RX1 | 2 => RX2 | 3 => RX3 | 4 => RX4 | 5 => RX5 | 6 => RX6 | 7 => RX7 | 8 => RX8 | 9 => RX9 | 10 => RX10 | _ => RX11
def gm_T : Nat → u_T
  | 0 => TX0 | 1 => TX1 | 2 => TX2 | 3 => TX3 | 4 => TX4 | 5 => TX5 | 6 => TX6 | 7 => TX7 | 8 => TX8 | 9 => TX9 | 10 => TX10 | _ => TX11
def gm_n : Nat → Nat
  | 0 => 1 | 1 => 14 | 2 => 3 | 3 => 5 | 4 => 3 | 5 => 9 | 6 => 3 | 7 => 11 | 8 => 3 | 9 => 3 | 10 => 13 | _ => 32
def gm_ty : Nat → Nat → FieldType
  | 0 => tyX0 | 1 => tyX1 | 2 => tyX2 | 3 => tyX3 | 4 => tyX4 | 5 => tyX5 | 6 => tyX6 | 7 => tyX7 | 8 => tyX8 | 9 => tyX9 | 10 => tyX10 | _ => tyX11
/-- what a type's values are: 0 an int, 1 a long, 2 a reference -/
def gm_kd : FieldType → Nat
  | .long => 1
  | .object _ => 2
  | .array _ => 2
  | _ => 0
theorem gm_cl {c : Nat} (h : c < 12) : vwCl[c]? = some (gm_R c, gm_T c, gm_n c) := by
  match c, h with
  | 0, _ => rfl | 1, _ => rfl | 2, _ => rfl | 3, _ => rfl | 4, _ => rfl | 5, _ => rfl | 6, _ => rfl | 7, _ => rfl | 8, _ => rfl | 9, _ => rfl | 10, _ => rfl | 11, _ => rfl
theorem gm_ty_ok {c : Nat} (h : c < 12) : ∀ k, k < gm_n c → parseFieldDescriptor (gm_T c k).2.2.1 = some (gm_ty c k) := by
  match c, h with
  | 0, _ => exact tyX0_ok | 1, _ => exact tyX1_ok | 2, _ => exact tyX2_ok | 3, _ => exact tyX3_ok | 4, _ => exact tyX4_ok | 5, _ => exact tyX5_ok | 6, _ => exact tyX6_ok | 7, _ => exact tyX7_ok | 8, _ => exact tyX8_ok | 9, _ => exact tyX9_ok | 10, _ => exact tyX10_ok | 11, _ => exact tyX11_ok
theorem gm_nm {c : Nat} (h : c < 12) : ∀ a, a < gm_n c → ∀ b, b < gm_n c → a ≠ b → (gm_T c a).2.1 ≠ (gm_T c b).2.1 := by
  match c, h with
  | 0, _ => exact nmX0 | 1, _ => exact nmX1 | 2, _ => exact nmX2 | 3, _ => exact nmX3 | 4, _ => exact nmX4 | 5, _ => exact nmX5 | 6, _ => exact nmX6 | 7, _ => exact nmX7 | 8, _ => exact nmX8 | 9, _ => exact nmX9 | 10, _ => exact nmX10 | 11, _ => exact nmX11
/-- the words of the tables that every method carries on -/
def gm_TB : List Cond := lw_tbl.filter goodWord
theorem gm_in {w : Cond} (h : w ∈ lw_tbl) (hg : goodWord w = true) : w ∈ gm_TB := List.mem_filter.mpr ⟨h, hg⟩
theorem gm_good {w : Cond} (h : w ∈ gm_TB) : (w.onTables && w.keeps) = true ∨ ∃ ty, w = .arrayClass ty := good_of_word (List.mem_filter.mp h).2
theorem gm_in1 {w : Cond} {i : Nat} (h : tables_1[i]? = some w) (hg : goodWord w = true) : w ∈ gm_TB := gm_in (List.mem_append_right _ (List.mem_of_getElem? h)) hg
def gm_isNest : Cond → Bool
  | .methodLinkNest _ _ _ _ => true
  | _ => false
def gm_NW : List Cond := tables_1.filter gm_isNest
theorem gm_inN {w : Cond} {i : Nat} (h : tables_1[i]? = some w) (hg : gm_isNest w = true) : w ∈ gm_NW := List.mem_filter.mpr ⟨List.mem_of_getElem? h, hg⟩
def gm_bs (g : gm_G) : Nat := g.2.2.2.1
def gm_ad (g : gm_G) (i : Nat) : Nat := if i < 1000 then gm_bs g + i else if i < 2000 then g.2.2.2.2.1 (i - 1000) else g.2.2.2.2.2.1 (i - 2000)
def gm_A (g : gm_G) : Nat → Prop := fun q => gm_bs g ≤ q
def gm_v (g : gm_G) : Value → Value
  | .ref i => .ref (gm_ad g i)
  | .int x => .int x
  | .long x => .long x
  | .float x => .float x
  | .double x => .double x
  | .null => .null
  | .retAddr x => .retAddr x
theorem gm_v_cat (g : gm_G) (v : Value) : (gm_v g v).category = v.category := by cases v <;> rfl
theorem gm_ad_lt {g : gm_G} {i : Nat} (h : i < 1000) : gm_ad g i = gm_bs g + i := if_pos h
def gm_fld (g : gm_G) (m : gm_M) (i : Nat) (ty : FieldType) (k : Nat) : Value := match gm_kd ty with
  | 1 => .long (m.2.1 i k)
  | 2 => va_rf ((m.2.2 i k).map (gm_ad g))
  | _ => .int (m.1 i k)
def gm_arr (g : gm_G) (m : gm_M) (i : Nat) (t : FieldType) : (Nat → Int32) ⊕ (Nat → Int64) ⊕ (Nat → UInt32) ⊕ (Nat → UInt64) ⊕ (Nat → Option Nat) := match gm_kd t with
  | 1 => .inr (.inl (m.2.1 i))
  | 2 => .inr (.inr (.inr (.inr (fun k => (m.2.2 i k).map (gm_ad g)))))
  | _ => .inl (m.1 i)
def gm_E (g : gm_G) (m : gm_M) (i : Nat) : gm_S → va_E
  | .inl q => .inl (g.2.2.1 q.1, q.2, gm_arr g m i (gm_tyA q.1))
  | .inr c => .inr (c, (List.range (gm_n c)).map (fun k => gm_fld g m i (gm_ty c k) k))
def gm_W (g : gm_G) (h : gm_H) : va_W := h.1.mapIdx (fun i s => (gm_bs g + i, gm_E g h.2 i s))
theorem gm_W_get (g : gm_G) (h : gm_H) (i : Nat) : (gm_W g h)[i]? = (h.1[i]?).map (fun s => (gm_bs g + i, gm_E g h.2 i s)) := by
  unfold gm_W
  rw [List.getElem?_mapIdx]
theorem gm_W_at {g : gm_G} {h : gm_H} {i : Nat} {s : gm_S} (hs : h.1[i]? = some s) : (gm_W g h)[i]? = some (gm_bs g + i, gm_E g h.2 i s) := by
  rw [gm_W_get, hs]; rfl
theorem gm_D (g : gm_G) (h : gm_H) : va_D (gm_A g) (gm_W g h) := by
  have key : ∀ (i : Nat) (p : Nat × va_E), (gm_W g h)[i]? = some p → p.1 = gm_bs g + i := by
    intro i p hp
    rw [gm_W_get] at hp
    cases hs : h.1[i]? with
    | none => rw [hs] at hp; cases hp
    | some s => rw [hs] at hp; cases hp; rfl
  refine ⟨fun i j p q hi hj e => ?_, fun k q hk => ?_⟩
  · have h1 := key i p hi
    have h2 := key j q hj
    omega
  · have h1 := key k q hk
    show gm_bs g ≤ q.1
    omega
/-- one place of one memory -/
def gm_u {α : Type} (f : Nat → Nat → α) (i k : Nat) (v : α) : Nat → Nat → α := va_up f i (va_up (f i) k v)
theorem gm_u_eq {α : Type} (f : Nat → Nat → α) (i k : Nat) (v : α) : gm_u f i k v i k = v := by simp [gm_u, va_up]
theorem gm_u_ne {α : Type} (f : Nat → Nat → α) {i j : Nat} (k : Nat) (v : α) (h : j ≠ i) : gm_u f i k v j = f j := by simp [gm_u, va_up, h]
theorem gm_u_ne2 {α : Type} (f : Nat → Nat → α) (i j : Nat) {k l : Nat} (v : α) (h : l ≠ k) : gm_u f i k v j l = f j l := by
  by_cases e : j = i
  · subst e; simp [gm_u, va_up, h]
  · rw [gm_u_ne f k v e]
theorem gm_u_self {α : Type} (f : Nat → Nat → α) (i k : Nat) (v : α) : gm_u f i k v i = va_up (f i) k v := by simp [gm_u, va_up]
theorem gm_set_of {g : gm_G} {sh : List gm_S} {m m' : gm_M} {i : Nat} {s : gm_S} {e' : va_E} (hs : sh[i]? = some s) (hE : gm_E g m' i s = e') (ho : ∀ j, j ≠ i → m'.1 j = m.1 j ∧ m'.2.1 j = m.2.1 j ∧ m'.2.2 j = m.2.2 j) : gm_W g (sh, m') = (gm_W g (sh, m)).set i (gm_bs g + i, e') := by
  apply List.ext_getElem?
  intro j
  rw [gm_W_get]
  have hl : i < sh.length := (List.getElem?_eq_some_iff.mp hs).1
  by_cases hj : j = i
  · subst hj
    have hl' : j < (gm_W g (sh, m)).length := by
      have h1 := gm_W_at (g := g) (h := (sh, m)) hs
      exact (List.getElem?_eq_some_iff.mp h1).1
    rw [List.getElem?_set_self hl']
    show (sh[j]?).map _ = _
    rw [hs]
    show some (gm_bs g + j, gm_E g m' j s) = _
    rw [hE]
  · rw [List.getElem?_set_ne (Ne.symm hj), gm_W_get]
    show (sh[j]?).map _ = (sh[j]?).map _
    cases hq : sh[j]? with
    | none => rfl
    | some q =>
      show some (gm_bs g + j, gm_E g m' j q) = some (gm_bs g + j, gm_E g m j q)
      obtain ⟨h1, h2, h3⟩ := ho j hj
      have e : gm_E g m' j q = gm_E g m j q := by
        cases q with
        | inl q => simp only [gm_E, gm_arr, h1, h2, h3]
        | inr c => simp only [gm_E, gm_fld, h1, h2, h3]
      rw [e]
theorem gm_range_set {n k : Nat} {F F' : Nat → Value} {v : Value} (hk : F' k = v) (ho : ∀ j, j ≠ k → F' j = F j) : ((List.range n).map F).set k v = (List.range n).map F' := by
  apply List.ext_getElem?
  intro j
  by_cases hj : j = k
  · subst hj
    by_cases hl : j < n
    · rw [List.getElem?_set_self (by simpa using hl), List.getElem?_map, List.getElem?_range hl]
      simp [hk]
    · rw [List.getElem?_eq_none (by simpa using hl), List.getElem?_eq_none (by simpa using hl)]
  · rw [List.getElem?_set_ne (Ne.symm hj), List.getElem?_map, List.getElem?_map]
    cases hr : (List.range n)[j]? with
    | none => rfl
    | some q =>
      have : q = j := by
        have h1 := List.getElem?_eq_some_iff.mp hr
        obtain ⟨h2, h3⟩ := h1
        rw [List.getElem_range] at h3
        exact h3.symm
      subst this
      simp [ho q hj]
theorem gm_fs_get {g : gm_G} {m : gm_M} {i c k : Nat} (hk : k < gm_n c) : ((List.range (gm_n c)).map (fun k => gm_fld g m i (gm_ty c k) k))[k]? = some (gm_fld g m i (gm_ty c k) k) := by
  rw [List.getElem?_map, List.getElem?_range hk]; rfl
/-! String constants: their class, place, text -/
def gm_so : Nat → String
  | 8 => RX11
  | _ => RX5
def gm_si : Nat → Nat
  | 0 => 56 | 1 => 65 | 2 => 70 | 3 => 135 | 4 => 78 | 5 => 83 | 6 => 94 | 7 => 98 | _ => 71
def gm_st : Nat → String
  | 0 => "grid" | 1 => "prior" | 2 => "guesser" | 3 => "copy" | 4 => "hidden" | 5 => "price" | 6 => "prize" | 7 => "jar" | _ => " grid prior guesser copy hidden price prize jar "
def gm_sl : List Nat := [4, 5, 7, 4, 6, 5, 5, 3, 48]
def gm_sb : List (List Int32) := [[103, 114, 105, 100], [112, 114, 105, 111, 114], [103, 117, 101, 115, 115, 101, 114], [99, 111, 112, 121], [104, 105, 100, 100, 101, 110], [112, 114, 105, 99, 101], [112, 114, 105, 122, 101], [106, 97, 114], [32, 103, 114, 105, 100, 32, 112, 114, 105, 111, 114, 32, 103, 117, 101, 115, 115, 101, 114, 32, 99, 111, 112, 121, 32, 104, 105, 100, 100, 101, 110, 32, 112, 114, 105, 99, 101, 32, 112, 114, 105, 122, 101, 32, 106, 97, 114, 32]]
def gm_tys (g : gm_G) : List (ClassId × FieldType) := [(g.2.2.1 0, gm_tyA 0), (g.2.2.1 1, gm_tyA 1), (g.2.2.1 2, gm_tyA 2), (g.2.2.1 3, gm_tyA 3), (g.2.2.1 4, gm_tyA 4), (g.2.2.1 5, gm_tyA 5), (g.2.2.1 6, gm_tyA 6)]
/-- an array class over int[] -/
def gm_AO (U : State) : Prop := (Cond.arrayOver (.array .int)).before #[] U = true
theorem gm_AO_spec {A : Array Value} {U : State} (h : (Cond.arrayOver (.array .int)).before A U = true) : ∃ comp c k, U.vm.findClass (FieldType.array .int).toString = some comp ∧ (U.vm.classes.findIdx? fun (x : Class) => match x.kind with | .array component _ => component == comp | _ => false) = some c ∧ U.vm.classes[c]? = some k ∧ k.kind = .array comp (.array .int) ∧ U.vm.findClass ("[" ++ (FieldType.array .int).toString) = some c := by
  simp only [Cond.before, Cond.holds, Cond.value, beq_iff_eq] at h
  cases hc : U.vm.findClass (FieldType.array .int).toString with
  | none => simp [hc] at h
  | some comp =>
    simp only [hc, Option.bind_some, Option.bind_eq_some_iff, Option.map_eq_some_iff] at h
    obtain ⟨c, hi, k, hk, hb⟩ := h
    obtain ⟨hlt, hp, -⟩ := Array.findIdx?_eq_some_iff_getElem.mp hi
    have hkk : U.vm.classes[c] = k := (Array.getElem?_eq_some_iff.mp hk).2
    rw [hkk] at hp
    cases hkind : k.kind with
    | array component ty =>
      rw [hkind] at hb hp
      simp at hb hp
      exact ⟨comp, c, k, rfl, hi, hk, by rw [hkind, hp, hb.1], hb.2⟩
    | _ => rw [hkind] at hb; simp at hb
theorem gm_AO.use {A : Array Value} {U : State} (h : gm_AO U) : (Cond.arrayOver (.array .int)).before A U = true := h
theorem gm_AO.moved {u U : State} (hvm : u.vm.Alike U.vm) (h : gm_AO u) : gm_AO U := by
  obtain ⟨comp, c, k, h1, h2, h3, h4, h5⟩ := gm_AO_spec h
  obtain ⟨k', hk', he⟩ := hvm.2.2 _ _ h3
  have hi : (U.vm.classes.findIdx? fun (x : Class) => match x.kind with | .array component _ => component == comp | _ => false) = some c := by
    refine (va_idx_bare U.vm comp).symm.trans ?_
    first | rw [hvm.bare_eq] | rw [← hvm.bare_eq]
    exact (va_idx_bare u.vm comp).trans h2
  have hkind : k'.kind = .array comp (.array .int) := by rw [he]; exact h4
  have f1 : U.vm.findClass (FieldType.array .int).toString = some comp := by rw [hvm.findClass]; exact h1
  have f2 : U.vm.findClass ("[" ++ (FieldType.array .int).toString) = some c := by rw [hvm.findClass]; exact h5
  unfold gm_AO Cond.before Cond.holds
  simp only [Cond.value]
  rw [f1, Option.bind_some]
  refine (congrArg (fun o : Option Nat => (o.bind (fun c => (U.vm.classes[c]?).map fun (k : Class) => match k.kind with | .array _ ty => decide (ty = FieldType.array .int) && decide (U.vm.findClass ("[" ++ (FieldType.array .int).toString) = some c) | _ => false) == some true)) hi).trans ?_
  simp [hk', hkind, f2]
/-- what the tables and the old cells say, of a state: stays from call to call -/
def gm_K (g : gm_G) (U : State) : Prop :=
  va_K g.2.1 vwCl (gm_tys g) U ∧ (∀ w ∈ gm_NW, va_Nw w U) ∧ (va_AO "JarGuess$Row" U ∧ va_AO "JarGuess$Image" U ∧ gm_AO U) ∧
  (∀ i, i < 9 → vk_R (gm_so i) (gm_si i) (gm_st i) (gm_ad g (1000 + i)) U) ∧ vk_S 9 gm_sl gm_sb (fun i => gm_ad g (1000 + i)) (fun i => gm_ad g (2000 + i)) (gm_A g) U U.heap ∧
  va_Z "java/lang/String" "COMPACT_STRINGS" "Z" (.int 1) (gm_A g) U U.heap ∧ (va_Z "jdk/internal/util/Preconditions" "SIOOBE_FORMATTER" "Ljava/util/function/BiFunction;" .null (gm_A g) U U.heap ∨ va_Z "jdk/internal/util/Preconditions" "SIOOBE_FORMATTER" "Ljava/util/function/BiFunction;" (.ref (gm_ad g 2500)) (gm_A g) U U.heap) ∧
  va_X (gm_ad g 2501) g.2.2.2.2.2.2.1 g.2.2.2.2.2.2.2 U U.heap ∧ gm_ad g 2501 < U.heap.size ∧ ¬ gm_A g (gm_ad g 2501)
theorem gm_NW_nest {w : Cond} (h : w ∈ gm_NW) : ∃ a i x k, w = .methodLinkNest a i x k := by
  have h2 := (List.mem_filter.mp h).2
  cases w <;> first | exact ⟨_, _, _, _, rfl⟩ | exact absurd h2 (by simp [gm_isNest])
theorem gm_K.next {g : gm_G} {s U : State} {H : Heap} {locs : List Loc} (h : gm_K g s) (hW : s.WarmedH U.vm) (hU : U.heap = H) (hS : va_S (gm_A g) s.heap H locs) : gm_K g U := by
  obtain ⟨h1, h2, ⟨h3, h4, h4'⟩, h5, h6, h7, h8, h9, h10, h11⟩ := h
  refine ⟨va_K.moved hW.alike h1, fun w hw => ?_, ⟨va_AO.moved hW.alike h3, va_AO.moved hW.alike h4, gm_AO.moved hW.alike h4'⟩, fun i hi => vk_R.warm hW (h5 i hi), ?_, ?_, ?_, ?_, ?_, h11⟩
  · obtain ⟨a, i, x, k, rfl⟩ := gm_NW_nest hw
    exact va_Nw.warmM hW (h2 _ hw)
  · rw [hU]; exact vk_S.kept (vk_S.moved hW.alike h6) hS.2.1
  · rw [hU]; exact va_Z.kept (va_Z.moved hW.alike h7) hS.2.1
  · rw [hU]
    rcases h8 with h8 | h8
    · exact Or.inl (va_Z.kept (va_Z.moved hW.alike h8) hS.2.1)
    · exact Or.inr (va_Z.kept (va_Z.moved hW.alike h8) hS.2.1)
  · rw [hU]
    exact (va_X.moved hW.alike h9).kept (hS.2.1 _ h10 h11)
  · rw [hU]
    exact Nat.lt_of_lt_of_le h10 hS.1
theorem gm_K.same {g : gm_G} {u U : State} (hv : u.vm = U.vm) (hh : u.heap = U.heap) (h : gm_K g u) : gm_K g U := by
  have ha : u.vm.Alike U.vm := by rw [hv]; exact Vm.Alike.refl _
  obtain ⟨h1, h2, ⟨h3, h4, h4'⟩, h5, h6, h7, h8, h9, h10, h11⟩ := h
  refine ⟨va_K.moved ha h1, fun w hw => ?_, ⟨va_AO.moved ha h3, va_AO.moved ha h4, gm_AO.moved ha h4'⟩, fun i hi => vk_R.same hv.symm (h5 i hi), ?_, ?_, ?_, ?_, ?_, h11⟩
  · obtain ⟨a, i, x, k, rfl⟩ := gm_NW_nest hw
    exact va_Nw.same rfl hv (h2 _ hw)
  · rw [← hh]; exact vk_S.moved ha h6
  · rw [← hh]; exact va_Z.moved ha h7
  · rw [← hh]
    rcases h8 with h8 | h8
    · exact Or.inl (va_Z.moved ha h8)
    · exact Or.inr (va_Z.moved ha h8)
  · rw [← hh]
    exact va_X.moved ha h9
  · rw [← hh]
    exact h10
/-- the heap of a state holds the pure heap -/
def gm_U (g : gm_G) (h : gm_H) (U : State) : Prop := va_P g.2.1 vwCl (gm_W g h) U.heap ∧ U.heap.size = gm_bs g + h.1.length ∧ gm_K g U
def gm_Pc (g : gm_G) (as : List Value) (h : gm_H) : Array Value → State → Prop := fun v U => v = (as.map (gm_v g)).toArray ∧ gm_U g h U
def gm_Qc (g : gm_G) (mc : Nat) (Q : Option Value → gm_H → Prop) : Array Value → State → Outcome → State → Prop := fun _ st oc t => (∃ (v : Option Value) (h' : gm_H), oc = .returned (v.map (gm_v g)) ∧ Q v h' ∧ va_P g.2.1 vwCl (gm_W g h') t.heap ∧ st.heap.size + mc = gm_bs g + h'.1.length) ∧ va_F (gm_A g) st t
def gm_rm (d mc ms : Nat) : Room := { frames := d, cells := mc, slots := ms, locals := 64 * d }
def gm_ws (y : MethodName) (cc : ByteArray) (nL : Nat) (rt : Option FieldType) : List Cond := Cond.code y cc nL rt :: gm_TB
/-- a method's contract: from args and heap it returns with Q -/
def gm_Met (g : gm_G) (y : MethodName) (cc : ByteArray) (nL : Nat) (rt : Option FieldType) (d mc ms : Nat) (as : List Value) (h : gm_H) (Q : Option Value → gm_H → Prop) : Prop :=
  Met g.1 y (gm_ws y cc nL rt) (gm_rm d mc ms) (gm_Pc g as h) (gm_Qc g mc Q) mc ms (gm_A g)
/-- the fixed things of a walk -/
def gm_C (g : gm_G) (own nm : String) (cc : ByteArray) (nL : Nat) (rt : Option FieldType) (p : Program) (s : State) (m : MethodId) (args : Array Value) (meth : Method) (c : Code) : Prop :=
  p.tables.exec = Jvm.exec ∧ c.code = cc ∧ c.maxLocals = nL ∧ s.vm.findClass own = some m.cls ∧ (∀ w ∈ gm_TB, w.before args s = true) ∧ meth.sig.returnType = rt ∧ meth.locks = false ∧ meth.name = nm ∧ gm_K g s ∧ gm_bs g ≤ s.heap.size
def gm_lv (g : gm_G) (lv : List (Nat × Value)) : List (Nat × Value) := lv.map (fun q => (q.1, gm_v g q.2))
/-- the walk from pc on: locals lv, stack st, cu cells and su slots made up to here, heap h, room R: it comes to a state with PP -/
def gm_XG (g : gm_G) (own nm : String) (cc : ByteArray) (nL : Nat) (rt : Option FieldType) (R : Room) (PP : State → Array Value → List Frame → State → Prop) (cu su pc : Nat) (lv : List (Nat × Value)) (st : List Value) (h : gm_H) : Prop :=
  ∀ (p : Program) (e : Env) (s : State) (m : MethodId) (args : Array Value) (below : List Frame) (meth : Method) (c : Code) (H : Heap) (locs : List Loc) (ls : Array Slot), gm_C g own nm cc nL rt p s m args meth c → va_P g.2.1 vwCl (gm_W g h) H → s.heap.size + cu = gm_bs g + h.1.length → va_S (gm_A g) s.heap H locs → lv_has ls nL (gm_lv g lv) →
    W p g.1 e R s m args below meth c H locs cu su (PP s args below) (F0 m pc ls (st.map (gm_v g)))
def gm_PP (g : gm_G) (mc ms : Nat) (Q : Option Value → gm_H → Prop) : State → Array Value → List Frame → State → Prop := fun s args below => MQ below (gm_Qc g mc Q) args s mc ms (gm_A g)
/-- a method's walk: it comes to a return with Q -/
abbrev gm_X (g : gm_G) (own nm : String) (cc : ByteArray) (nL : Nat) (rt : Option FieldType) (d mc ms : Nat) (Q : Option Value → gm_H → Prop) (cu su pc : Nat) (lv : List (Nat × Value)) (st : List Value) (h : gm_H) : Prop := gm_XG g own nm cc nL rt (gm_rm d mc ms) (gm_PP g mc ms Q) cu su pc lv st h
theorem gm_lv_at {g : gm_G} {ls : Array Slot} {nL : Nat} {lv : List (Nat × Value)} (hl : lv_has ls nL (gm_lv g lv)) (k : Nat) {i : Nat} {v : Value} (hk : lv[k]? = some (i, v)) : ls[i]? = some (.val (gm_v g v)) := lv_at hl k (by unfold gm_lv; rw [List.getElem?_map, hk]; rfl)
theorem gm_sl_map (g : gm_G) (vs : List Value) : (lg_sl (vs.map (gm_v g))).length = (lg_sl vs).length := by
  unfold lg_sl
  induction vs with
  | nil => rfl
  | cons v t ih =>
    simp only [List.map_cons, List.flatMap_cons, List.length_append, ih, gm_v_cat]
    by_cases h : v.category = 2 <;> simp [h]
theorem gm_args_map (g : gm_G) : ∀ (vs : List Value) (i : Nat), lv_args i (vs.map (gm_v g)) = gm_lv g (lv_args i vs)
  | [], _ => rfl
  | v :: vs, i => by
    show (i, gm_v g v) :: lv_args (if (gm_v g v).category = 2 then i + 2 else i + 1) (vs.map (gm_v g)) = (i, gm_v g v) :: gm_lv g (lv_args (if v.category = 2 then i + 2 else i + 1) vs)
    rw [gm_v_cat, gm_args_map g vs]
/-- a method's contract out of the walk of its body -/
theorem gm_enter {g : gm_G} {y : MethodName} {own nm : String} {cc : ByteArray} {nL : Nat} {rt : Option FieldType} {d mc ms : Nat} {as : List Value} {h : gm_H} {Q : Option Value → gm_H → Prop} {lv : List (Nat × Value)} (hy : plainName y.cls = true) (ho : y.cls = own) (hn : y.name = nm) (hlen : Nat.ble (lg_sl as).length nL = true) (hlv : lv_args 0 as = lv)
    (k : gm_X g own nm cc nL rt d mc ms Q 0 0 0 lv [] h) : gm_Met g y cc nL rt d mc ms as h Q := by
  subst ho; subst hn; subst hlv
  refine Met.ofW (cc := cc) (maxL := nL) (ret := rt) hy rfl ?_
  intro p e s m args below meth c s₁ B hml hv
  obtain ⟨rfl, hP, hz, hK⟩ := hv
  have hts0 := atoms_spec (ws := gm_ws y cc nL rt) B.pre
  have hl := lv_entry (as.map (gm_v g)) (n := nL) (by rw [gm_sl_map]; exact Nat.le_of_ble_eq_true hlen)
  rw [lg_entry_eq]
  generalize (lg_sl (as.map (gm_v g)) ++ List.replicate (nL - (lg_sl (as.map (gm_v g))).length) Slot.unset).toArray = ls at hl ⊢
  rw [gm_args_map] at hl
  exact k p e s m _ below meth c s.heap [] ls ⟨B.exec, B.bytes, hml, findClass_of_methodNamed B.named, fun w hw => hts0 w (List.mem_cons_of_mem _ hw), B.returns, B.notSynchronized, (name_of_methodNamed B.named B.method).1, hK, by rw [hz]; exact Nat.le_add_right _ _⟩ hP hz va_S.rf hl
theorem gm_blt {a b : Nat} (h : Nat.blt a b = true) : a < b := Nat.le_of_ble_eq_true h
def gm_ins : List (Nat × Value) → (Nat × Value) → List (Nat × Value)
  | [], a => [a]
  | q :: l, a => if q.1 < a.1 then q :: gm_ins l a else a :: q :: l
/-- a local of one slot, of two, is stored -/
def gm_set (lv : List (Nat × Value)) (i : Nat) (v : Value) : List (Nat × Value) := gm_ins (lv.filter (fun q => !(q.1 == i) && !(q.1 + 1 == i && q.2.category == 2))) (i, v)
def gm_set2 (lv : List (Nat × Value)) (i : Nat) (v : Value) : List (Nat × Value) := gm_ins (lv.filter (fun q => !(q.1 == i) && (!(q.1 == i + 1) && !(q.1 + 1 == i && q.2.category == 2)))) (i, v)
theorem gm_ins_mem : ∀ (l : List (Nat × Value)) (a q : Nat × Value), q ∈ gm_ins l a → q = a ∨ q ∈ l
  | [], a, q, h => Or.inl (List.mem_singleton.mp h)
  | b :: l, a, q, h => by
    unfold gm_ins at h
    split at h
    · rcases List.mem_cons.mp h with h | h
      · exact Or.inr (h ▸ List.mem_cons_self)
      · rcases gm_ins_mem l a q h with h | h
        · exact Or.inl h
        · exact Or.inr (List.mem_cons_of_mem _ h)
    · rcases List.mem_cons.mp h with h | h
      · exact Or.inl h
      · exact Or.inr h
theorem gm_has_of {g : gm_G} {ls : Array Slot} {nL i : Nat} {v : Value} {lv : List (Nat × Value)} {P : Nat × Value → Bool} (hP : ∀ q : Nat × Value, P (q.1, gm_v g q.2) = P q) (hl : lv_has ls nL ((i, gm_v g v) :: (gm_lv g lv).filter P)) : lv_has ls nL (gm_lv g (gm_ins (lv.filter P) (i, v))) := by
  refine ⟨hl.1, hl.2.1, fun q hq => hl.2.2 q ?_⟩
  obtain ⟨a, ha, rfl⟩ := List.mem_map.mp hq
  rcases gm_ins_mem _ _ _ ha with rfl | h
  · exact List.mem_cons_self
  · obtain ⟨h1, h2⟩ := List.mem_filter.mp h
    exact List.mem_cons_of_mem _ (List.mem_filter.mpr ⟨List.mem_map.mpr ⟨a, h1, rfl⟩, (hP a).trans h2⟩)
theorem gm_has {g : gm_G} {ls : Array Slot} {nL i : Nat} {v : Value} {lv : List (Nat × Value)} (hl : lv_has ls nL ((i, gm_v g v) :: (gm_lv g lv).filter (fun q => !(q.1 == i) && !(q.1 + 1 == i && q.2.category == 2)))) : lv_has ls nL (gm_lv g (gm_set lv i v)) := gm_has_of (fun q => by simp only [gm_v_cat]) hl
theorem gm_has2 {g : gm_G} {ls : Array Slot} {nL i : Nat} {v : Value} {lv : List (Nat × Value)} (hl : lv_has ls nL ((i, gm_v g v) :: (gm_lv g lv).filter (fun q => !(q.1 == i) && (!(q.1 == i + 1) && !(q.1 + 1 == i && q.2.category == 2))))) : lv_has ls nL (gm_lv g (gm_set2 lv i v)) := gm_has_of (fun q => by simp only [gm_v_cat]) hl
theorem gm_pick {g : gm_G} {ls : Array Slot} {nL : Nat} {lv lv' : List (Nat × Value)} (ks : List Nat) (hk : lv_pick lv ks = lv') (hl : lv_has ls nL (gm_lv g lv)) : lv_has ls nL (gm_lv g lv') := by
  refine ⟨hl.1, hl.2.1, fun q hq => hl.2.2 q ?_⟩
  obtain ⟨a, ha, rfl⟩ := List.mem_map.mp hq
  rw [← hk] at ha
  obtain ⟨k, -, hk2⟩ := List.mem_filterMap.mp ha
  exact List.mem_map.mpr ⟨a, List.mem_of_getElem? hk2, rfl⟩
theorem gm_nar {g : gm_G} {ty : FieldType} {v : Value} (h : narrow ty v = v) : narrow ty (gm_v g v) = gm_v g v := by
  cases v <;> first | exact h | (cases ty <;> rfl)
theorem gm_fit {g : gm_G} {ty : FieldType} {v : Value} (h : fits ty v = true) : fits ty (gm_v g v) = true := by
  cases v <;> first | exact h | (cases ty <;> first | rfl | exact h)
theorem gm_tys_at {g : gm_G} {t : Nat} (h : t < 7) : (gm_tys g)[t]? = some (g.2.2.1 t, gm_tyA t) := by
  match t, h with
  | 0, _ => rfl | 1, _ => rfl | 2, _ => rfl | 3, _ => rfl | 4, _ => rfl | 5, _ => rfl | 6, _ => rfl
def gm_vinB (i : Int32) (n : Nat) : Bool := !(decide (i < 0) || decide (n ≤ i.toNatClampNeg))
theorem gm_vin {i : Int32} {n : Nat} (h : gm_vinB i n = true) : vp_in i n := by
  unfold gm_vinB at h
  unfold vp_in
  simpa using h
/-- a truth value as the machine has it -/
def gm_b (b : Bool) : Int32 := if b then 1 else 0
theorem gm_b_nar (b : Bool) : narrow .boolean (.int (gm_b b)) = .int (gm_b b) := by cases b <;> rfl
theorem gm_b_fit (b : Bool) : fits .boolean (.int (gm_b b)) = true := by cases b <;> rfl
theorem gm_b0 {b : Bool} : gm_b b = 0 ↔ b = false := by cases b <;> simp [gm_b]
def gm_z (x : Int32) : Prop := narrow .boolean (.int x) = .int x ∧ fits .boolean (.int x) = true
theorem gm_bmono {a b n : Nat} (h : Nat.ble a b = true) (hn : Nat.ble b n = true) : Nat.ble a n = true := by
  have h1 := Nat.le_of_ble_eq_true h
  have h2 := Nat.le_of_ble_eq_true hn
  exact Nat.ble_eq_true_of_le (Nat.le_trans h1 h2)
theorem gm_inL {ws : List Cond} (ps : List Nat) (hp : ws = ps.filterMap (fun i => tables_1[i]?)) (hg : ws.all goodWord = true) : ∀ w ∈ ws, w ∈ gm_TB := by
  intro w hw
  have h1 := List.all_eq_true.mp hg w hw
  rw [hp] at hw
  obtain ⟨i, -, hi⟩ := List.mem_filterMap.mp hw
  exact gm_in1 hi h1
set_option maxRecDepth 100000 in
theorem gm_lay0 : ∀ w ∈ u_ws RX0 TX0 1, w ∈ gm_TB := gm_inL [178] (by decide +kernel) (by decide +kernel)
set_option maxRecDepth 100000 in
theorem gm_lay1 : ∀ w ∈ u_ws RX1 TX1 14, w ∈ gm_TB := gm_inL [81, 83, 85, 87, 89, 91, 93, 95, 97, 99, 101, 103, 105, 107] (by decide +kernel) (by decide +kernel)
set_option maxRecDepth 100000 in
theorem gm_lay2 : ∀ w ∈ u_ws RX2 TX2 3, w ∈ gm_TB := gm_inL [325, 327, 329] (by decide +kernel) (by decide +kernel)
set_option maxRecDepth 100000 in
theorem gm_lay3 : ∀ w ∈ u_ws RX3 TX3 5, w ∈ gm_TB := gm_inL [193, 195, 197, 199, 201] (by decide +kernel) (by decide +kernel)
set_option maxRecDepth 100000 in
theorem gm_lay4 : ∀ w ∈ u_ws RX4 TX4 3, w ∈ gm_TB := gm_inL [230, 232, 234] (by decide +kernel) (by decide +kernel)
set_option maxRecDepth 100000 in
theorem gm_lay5 : ∀ w ∈ u_ws RX5 TX5 9, w ∈ gm_TB := gm_inL [129, 131, 133, 135, 137, 139, 141, 143, 145] (by decide +kernel) (by decide +kernel)
set_option maxRecDepth 100000 in
theorem gm_lay6 : ∀ w ∈ u_ws RX6 TX6 3, w ∈ gm_TB := gm_inL [304, 306, 308] (by decide +kernel) (by decide +kernel)
set_option maxRecDepth 100000 in
theorem gm_lay7 : ∀ w ∈ u_ws RX7 TX7 11, w ∈ gm_TB := gm_inL [252, 254, 256, 258, 260, 262, 264, 266, 268, 270, 272] (by decide +kernel) (by decide +kernel)
set_option maxRecDepth 100000 in
theorem gm_lay8 : ∀ w ∈ u_ws RX8 TX8 3, w ∈ gm_TB := gm_inL [164, 166, 168] (by decide +kernel) (by decide +kernel)
set_option maxRecDepth 100000 in
theorem gm_lay9 : ∀ w ∈ u_ws RX9 TX9 3, w ∈ gm_TB := gm_inL [287, 289, 291] (by decide +kernel) (by decide +kernel)
set_option maxRecDepth 100000 in
theorem gm_lay10 : ∀ w ∈ u_ws RX10 TX10 13, w ∈ gm_TB := gm_inL [345, 347, 349, 351, 353, 355, 357, 359, 361, 363, 365, 367, 369] (by decide +kernel) (by decide +kernel)
set_option maxRecDepth 100000 in
theorem gm_lay11 : ∀ w ∈ u_ws RX11 TX11 32, w ∈ gm_TB := gm_inL [1057, 1059, 1061, 1063, 1065, 1067, 1069, 1071, 1073, 1075, 1077, 1079, 1081, 1083, 1085, 1087, 1089, 1091, 1093, 1095, 1097, 1099, 1101, 1103, 1105, 1107, 1109, 1111, 1113, 1115, 1117, 1119] (by decide +kernel) (by decide +kernel)
theorem gm_inw {c : Nat} (h : c < 12) : ∀ w ∈ u_ws (gm_R c) (gm_T c) (gm_n c), w ∈ gm_TB := by
  match c, h with
  | 0, _ => exact gm_lay0 | 1, _ => exact gm_lay1 | 2, _ => exact gm_lay2 | 3, _ => exact gm_lay3 | 4, _ => exact gm_lay4 | 5, _ => exact gm_lay5 | 6, _ => exact gm_lay6 | 7, _ => exact gm_lay7 | 8, _ => exact gm_lay8 | 9, _ => exact gm_lay9 | 10, _ => exact gm_lay10 | 11, _ => exact gm_lay11
