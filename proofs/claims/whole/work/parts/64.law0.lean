/-! the constructors' end; the law from its entry -/
def NR (R : Nat → Nat → Option Nat) : Prop := ∀ o k, (74 ≤ o ∨ 33 ≤ k) → R o k = none
theorem NR.va {R : Nat → Nat → Option Nat} {i : Nat} {f : Nat → Option Nat} (h : NR R) (hi : Nat.blt i 74 = true) (hf : ∀ k, 33 ≤ k → f k = none) : NR (va_up R i f) := by
  intro o k q
  have hi := Nat.le_of_ble_eq_true hi
  by_cases e : o = i
  · subst e
    simp only [va_up, if_pos]
    exact hf k (by omega)
  · simp only [va_up, if_neg e]
    exact h o k q
theorem NR.u {R : Nat → Nat → Option Nat} {i j : Nat} {v : Option Nat} (h : NR R) (hi : Nat.blt i 74 = true) (hj : Nat.blt j 33 = true) : NR (gm_u R i j v) := by
  intro o k q
  have hi := Nat.le_of_ble_eq_true hi
  have hj := Nat.le_of_ble_eq_true hj
  by_cases e : o = i
  · rw [gm_u_ne2 _ _ _ _ (by omega)]; exact h o k q
  · rw [gm_u_ne _ _ _ e]; exact h o k q
theorem nr_0 : NR kR_0 := fun _ _ _ => rfl
theorem nr_1 : NR kR_1 := NR.va nr_0 rfl (fun _ _ => rfl)
theorem nr_2 : NR kR_2 := NR.va nr_1 rfl (fun _ _ => rfl)
theorem nr_3 : NR kR_3 := NR.u nr_2 rfl rfl
theorem nr_4 : NR kR_4 := NR.va nr_3 rfl (fun _ _ => rfl)
theorem nr_5 : NR kR_5 := NR.va nr_4 rfl (fun _ _ => rfl)
theorem nr_6 : NR kR_6 := NR.u nr_5 rfl rfl
theorem nr_7 : NR kR_7 := NR.va nr_6 rfl (fun _ _ => rfl)
theorem nr_8 : NR kR_8 := NR.u nr_7 rfl rfl
theorem nr_9 : NR kR_9 := NR.va nr_8 rfl (fun _ _ => rfl)
theorem nr_10 : NR kR_10 := NR.u nr_9 rfl rfl
theorem nr_11 : NR kR_11 := NR.u nr_10 rfl rfl
theorem nr_12 : NR kR_12 := NR.va nr_11 rfl (fun _ _ => rfl)
theorem nr_13 : NR kR_13 := NR.u nr_12 rfl rfl
theorem nr_14 : NR kR_14 := NR.va nr_13 rfl (fun _ _ => rfl)
theorem nr_15 : NR kR_15 := NR.va nr_14 rfl (fun _ _ => rfl)
theorem nr_16 : NR kR_16 := NR.u nr_15 rfl rfl
theorem nr_17 : NR kR_17 := NR.va nr_16 rfl (fun _ _ => rfl)
theorem nr_18 : NR kR_18 := NR.u nr_17 rfl rfl
theorem nr_19 : NR kR_19 := NR.u nr_18 rfl rfl
theorem nr_20 : NR kR_20 := NR.va nr_19 rfl (fun _ _ => rfl)
theorem nr_21 : NR kR_21 := NR.u nr_20 rfl rfl
theorem nr_22 : NR kR_22 := NR.va nr_21 rfl (fun _ _ => rfl)
theorem nr_23 : NR kR_23 := NR.va nr_22 rfl (fun _ _ => rfl)
theorem nr_24 : NR kR_24 := NR.u nr_23 rfl rfl
theorem nr_25 : NR kR_25 := NR.va nr_24 rfl (fun _ _ => rfl)
theorem nr_26 : NR kR_26 := NR.u nr_25 rfl rfl
theorem nr_27 : NR kR_27 := NR.u nr_26 rfl rfl
theorem nr_28 : NR kR_28 := NR.va nr_27 rfl (fun _ _ => rfl)
theorem nr_29 : NR kR_29 := NR.u nr_28 rfl rfl
theorem nr_30 : NR kR_30 := NR.va nr_29 rfl (fun _ _ => rfl)
theorem nr_31 : NR kR_31 := NR.u nr_30 rfl rfl
theorem nr_32 : NR kR_32 := NR.va nr_31 rfl (fun _ _ => rfl)
theorem nr_33 : NR kR_33 := NR.va nr_32 rfl (fun _ _ => rfl)
theorem nr_34 : NR kR_34 := NR.u nr_33 rfl rfl
theorem nr_35 : NR kR_35 := NR.va nr_34 rfl (fun _ _ => rfl)
theorem nr_36 : NR kR_36 := NR.u nr_35 rfl rfl
theorem nr_37 : NR kR_37 := NR.va nr_36 rfl (fun _ _ => rfl)
theorem nr_38 : NR kR_38 := NR.u nr_37 rfl rfl
theorem nr_39 : NR kR_39 := NR.va nr_38 rfl (fun _ _ => rfl)
theorem nr_40 : NR kR_40 := NR.va nr_39 rfl (fun _ _ => rfl)
theorem nr_41 : NR kR_41 := NR.u nr_40 rfl rfl
theorem nr_42 : NR kR_42 := NR.va nr_41 rfl (fun _ _ => rfl)
theorem nr_43 : NR kR_43 := NR.u nr_42 rfl rfl
theorem nr_44 : NR kR_44 := NR.va nr_43 rfl (fun _ _ => rfl)
theorem nr_45 : NR kR_45 := NR.va nr_44 rfl (fun _ _ => rfl)
theorem nr_46 : NR kR_46 := NR.u nr_45 rfl rfl
theorem nr_47 : NR kR_47 := NR.va nr_46 rfl (fun _ _ => rfl)
theorem nr_48 : NR kR_48 := NR.u nr_47 rfl rfl
theorem nr_49 : NR kR_49 := NR.va nr_48 rfl (fun _ _ => rfl)
theorem nr_50 : NR kR_50 := NR.u nr_49 rfl rfl
theorem nr_51 : NR kR_51 := NR.va nr_50 rfl (fun _ _ => rfl)
theorem nr_52 : NR kR_52 := NR.u nr_51 rfl rfl
theorem nr_53 : NR kR_53 := NR.va nr_52 rfl (fun _ _ => rfl)
theorem nr_54 : NR kR_54 := NR.u nr_53 rfl rfl
theorem nr_55 : NR kR_55 := NR.u nr_54 rfl rfl
theorem nr_56 : NR kR_56 := NR.u nr_55 rfl rfl
theorem nr_57 : NR kR_57 := NR.u nr_56 rfl rfl
theorem nr_58 : NR kR_58 := NR.u nr_57 rfl rfl
theorem nr_59 : NR kR_59 := NR.u nr_58 rfl rfl
theorem nr_60 : NR kR_60 := NR.va nr_59 rfl (fun _ _ => rfl)
theorem nr_61 : NR kR_61 := NR.va nr_60 rfl (fun _ _ => rfl)
theorem nr_62 : NR kR_62 := NR.u nr_61 rfl rfl
theorem nr_63 : NR kR_63 := NR.va (NR.va (NR.va (NR.va nr_62 rfl (fun k hk => if_neg (by omega))) rfl (fun _ _ => rfl)) rfl (fun _ _ => rfl)) rfl (fun _ _ => rfl)
theorem nr_64 : NR kR_64 := NR.u nr_63 rfl rfl
theorem nr_65 : NR kR_65 := NR.u nr_64 rfl rfl
theorem nr_66 : NR kR_66 := NR.u nr_65 rfl rfl
theorem nr_67 : NR kR_67 := NR.va nr_66 rfl (fun _ _ => rfl)
theorem nr_68 : NR kR_68 := NR.va nr_67 rfl (fun _ _ => rfl)
theorem nr_69 : NR kR_69 := NR.u nr_68 rfl rfl
theorem nr_70 : NR kR_70 := NR.u nr_69 rfl rfl
theorem nr_71 : NR kR_71 := NR.va nr_70 rfl (fun _ _ => rfl)
theorem nr_72 : NR kR_72 := NR.va nr_71 rfl (fun _ _ => rfl)
theorem nr_73 : NR kR_73 := NR.u nr_72 rfl rfl
theorem nr_74 : NR kR_74 := NR.u nr_73 rfl rfl
theorem nr_75 : NR kR_75 := NR.va nr_74 rfl (fun _ _ => rfl)
theorem nr_76 : NR kR_76 := NR.va nr_75 rfl (fun _ _ => rfl)
theorem nr_77 : NR kR_77 := NR.u nr_76 rfl rfl
theorem nr_78 : NR kR_78 := NR.u nr_77 rfl rfl
theorem nr_79 : NR kR_79 := NR.va nr_78 rfl (fun _ _ => rfl)
theorem nr_80 : NR kR_80 := NR.va nr_79 rfl (fun _ _ => rfl)
theorem nr_81 : NR kR_81 := NR.u nr_80 rfl rfl
theorem nr_82 : NR kR_82 := NR.u nr_81 rfl rfl
theorem nr_83 : NR kR_83 := NR.va nr_82 rfl (fun _ _ => rfl)
theorem nr_84 : NR kR_84 := NR.va nr_83 rfl (fun _ _ => rfl)
theorem nr_85 : NR kR_85 := NR.va nr_84 rfl (fun _ _ => rfl)
theorem nr_86 : NR kR_86 := NR.u nr_85 rfl rfl
theorem nr_87 : NR kR_87 := NR.va nr_86 rfl (fun _ _ => rfl)
theorem nr_88 : NR kR_88 := NR.u nr_87 rfl rfl
theorem nr_89 : NR kR_89 := NR.va nr_88 rfl (fun _ _ => rfl)
theorem nr_90 : NR kR_90 := NR.u nr_89 rfl rfl
theorem nr_91 : NR kR_91 := NR.u nr_90 rfl rfl
theorem nr_92 : NR kR_92 := NR.va nr_91 rfl (fun _ _ => rfl)
theorem nr_93 : NR kR_93 := NR.va nr_92 rfl (fun _ _ => rfl)
theorem nr_94 : NR kR_94 := NR.u nr_93 rfl rfl
theorem nr_95 : NR kR_95 := NR.va nr_94 rfl (fun _ _ => rfl)
theorem nr_96 : NR kR_96 := NR.u nr_95 rfl rfl
theorem nr_97 : NR kR_97 := NR.u nr_96 rfl rfl
theorem nr_98 : NR kR_98 := NR.u nr_97 rfl rfl
theorem nr_99 : NR kR_99 := NR.va nr_98 rfl (fun _ _ => rfl)
theorem nr_100 : NR kR_100 := NR.va nr_99 rfl (fun _ _ => rfl)
theorem nr_101 : NR kR_101 := NR.va nr_100 rfl (fun _ _ => rfl)
theorem nr_102 : NR kR_102 := NR.u nr_101 rfl rfl
theorem nr_103 : NR kR_103 := NR.va nr_102 rfl (fun _ _ => rfl)
theorem nr_104 : NR kR_104 := NR.u nr_103 rfl rfl
theorem nr_105 : NR kR_105 := NR.va nr_104 rfl (fun _ _ => rfl)
theorem nr_106 : NR kR_106 := NR.u nr_105 rfl rfl
theorem nr_107 : NR kR_107 := NR.u nr_106 rfl rfl
theorem nr_108 : NR kR_108 := NR.va nr_107 rfl (fun _ _ => rfl)
theorem nr_109 : NR kR_109 := NR.va nr_108 rfl (fun _ _ => rfl)
theorem nr_110 : NR kR_110 := NR.u nr_109 rfl rfl
theorem nr_111 : NR kR_111 := NR.va nr_110 rfl (fun _ _ => rfl)
theorem nr_112 : NR kR_112 := NR.u nr_111 rfl rfl
theorem nr_113 : NR kR_113 := NR.u nr_112 rfl rfl
theorem nr_114 : NR kR_114 := NR.u nr_113 rfl rfl
theorem nr_115 : NR kR_115 := NR.va nr_114 rfl (fun _ _ => rfl)
theorem nr_116 : NR kR_116 := NR.va nr_115 rfl (fun _ _ => rfl)
theorem nr_117 : NR kR_117 := NR.u nr_116 rfl rfl
theorem nr_118 : NR kR_118 := NR.va nr_117 rfl (fun _ _ => rfl)
theorem nr_119 : NR kR_119 := NR.u nr_118 rfl rfl
theorem nr_120 : NR kR_120 := NR.va nr_119 rfl (fun _ _ => rfl)
theorem nr_121 : NR kR_121 := NR.u nr_120 rfl rfl
theorem nr_122 : NR kR_122 := NR.va nr_121 rfl (fun _ _ => rfl)
theorem nr_123 : NR kR_123 := NR.u nr_122 rfl rfl
theorem nr_124 : NR kR_124 := NR.va nr_123 rfl (fun _ _ => rfl)
theorem nr_125 : NR kR_125 := NR.u nr_124 rfl rfl
theorem nr_126 : NR kR_126 := NR.va nr_125 rfl (fun _ _ => rfl)
theorem nr_127 : NR kR_127 := NR.u nr_126 rfl rfl
theorem nr_128 : NR kR_128 := NR.va nr_127 rfl (fun _ _ => rfl)
theorem nr_129 : NR kR_129 := NR.u nr_128 rfl rfl
theorem nr_130 : NR kR_130 := NR.va nr_129 rfl (fun _ _ => rfl)
theorem nr_131 : NR kR_131 := NR.u nr_130 rfl rfl
theorem nr_132 : NR kR_132 := NR.va nr_131 rfl (fun _ _ => rfl)
theorem nr_133 : NR kR_133 := NR.u nr_132 rfl rfl
theorem nr_134 : NR kR_134 := NR.va nr_133 rfl (fun _ _ => rfl)
theorem nr_135 : NR kR_135 := NR.u nr_134 rfl rfl
theorem nr_136 : NR kR_136 := NR.va nr_135 rfl (fun _ _ => rfl)
theorem nr_137 : NR kR_137 := NR.u nr_136 rfl rfl
theorem nr_138 : NR kR_138 := NR.va nr_137 rfl (fun _ _ => rfl)
theorem nr_139 : NR kR_139 := NR.u nr_138 rfl rfl
theorem nr_140 : NR kR_140 := NR.va nr_139 rfl (fun _ _ => rfl)
theorem nr_141 : NR kR_141 := NR.u nr_140 rfl rfl
theorem nr_142 : NR kR_142 := NR.va nr_141 rfl (fun _ _ => rfl)
theorem nr_143 : NR kR_143 := NR.u nr_142 rfl rfl
def c00 : gm_cfg := (some 12, some 13, none)
set_option maxRecDepth 100000 in
theorem kR_in : ∀ o, o < 74 → ∀ k, k < 33 → kR_143 o k = RR c00 o k := by decide +kernel
theorem RR_len : ∀ o, o < 74 → Nat.ble (((RRt c00).getD o []).length) 32 = true := by decide +kernel
theorem kR_RR : kR_143 = RR c00 := by
  funext o k
  by_cases h : o < 74
  · by_cases hk : k < 33
    · exact kR_in o h k hk
    · rw [nr_143 o k (by omega)]
      have := Nat.le_of_ble_eq_true (RR_len o h)
      unfold RR
      rw [List.getD_eq_getElem?_getD (l := (RRt c00).getD o []), List.getElem?_eq_none (by omega)]
      rfl
  · rw [nr_143 o k (by omega)]
    unfold RR
    rw [List.getD_eq_getElem?_getD (l := RRt c00), List.getElem?_eq_none (by show 74 ≤ o; omega)]
    rfl
theorem shp_SH : shp_74 = SH := rfl
section L0
variable {g : gm_G} {I : mI} {L : mL} {c : gm_cfg}
def n60' (o : Nat) : Bool := o != 60
theorem m_plain0 {Q : mI → mL → gm_cfg → Prop} (hq : ∀ I', KO n60' I I' → (∀ k, k < 110 → I' 60 k = D0 k) → Q I' L c) : C_M_plain_60 g I L c Q := by
  refine e_M_plain_60 ?_
  refine lp0 (P := fun i => ∀ I', (KO n60' I I' ∧ ∀ k, k < i → I' 60 k = 0) → Z_M_plain_60 g Q 2 [(0, .ref 60), (1, .int (nI i))] [] I' L c) 110 ?_ ?_ I ⟨KO.rf, fun k hk => absurd hk (by omega)⟩
  · intro I' h
    have rs0 : ∀ {I : mI} {D : Nat → Int32} {j : Nat} {v : Int32}, (∀ k, k < 110 → I 60 k = D k) → ∀ k, k < 110 → gm_u I 60 j v 60 k = us D j v k := fun {I D j v} h k hk => by
      by_cases q : k = j
      · subst q; rw [gm_u_eq, us_eq]
      · rw [gm_u_ne2 _ _ _ _ q, us_ne q]; exact h k hk
    refine r_M_plain_60_2 (br_t (by decide) (hq _ (KO.u rfl (KO.u rfl (KO.u rfl (KO.u rfl (KO.u rfl h.1))))) ?_))
    exact rs0 (rs0 (rs0 (rs0 (rs0 h.2))))
  · intro i hi ih I' h
    refine r_M_plain_60_2 (br_f (nI_ge (b := 110) hi (by omega)) ⟨vp_in_nI (by omega) (by omega), ?_⟩)
    rw [nI_clamp (by omega), nI_1]
    refine ih _ ⟨KO.u rfl h.1, fun k hk => ?_⟩
    rcases Nat.lt_or_ge k i with q | q
    · rw [gm_u_ne2 _ _ _ _ (by omega)]; exact h.2 k q
    · rw [show k = i by omega, gm_u_eq]
def In0 : Int32 := 0
set_option maxRecDepth 100000 in
theorem start_Inv {I : mI} (k : KO n60' kI_97 I) (h : ∀ k, k < 110 → I 60 k = D0 k) : Inv I kL_71 c00 := by
  have e : ∀ o j, n60' o = true → I o j = kI_97 o j := fun o j q => by rw [k o q]
  refine ⟨FS0_D VD_0 h ?_ ?_ ?_ ?_ ?_ ?_ ?_ ?_ (Or.inl ⟨?_, rfl⟩) (fun j _ _ hj => absurd hj (by decide +revert)) ?_, ⟨0, by omega, ?_, ?_, fun k hk => absurd hk (by omega)⟩, ⟨?_, ?_⟩, ⟨Or.inl ⟨?_, ?_⟩, Or.inl ⟨?_, ?_⟩, Or.inl ⟨?_, ?_⟩, Or.inl ⟨?_, ?_⟩⟩, ⟨Or.inl ⟨?_, ?_⟩, Or.inl ⟨?_, ?_⟩⟩, ⟨none, Or.inl rfl⟩, ⟨0, by omega, ?_⟩, ?_⟩
  all_goals first
    | (rw [e _ _ rfl, e _ _ rfl]; decide +kernel)
    | (rw [e _ _ rfl]; decide +kernel)
    | decide +kernel
theorem k_M_59 : gm_Met g yX11_init cX11_init 1 none 3 14 2474 [.ref 59] (shp_60, kI_78, kL_57, kR_115) (fun v h => v = none ∧ ∃ I, Inv I kL_71 c00 ∧ h = (SH, I, kL_71, RR c00)) := by
  refine gm_enter (lv := [(0, .ref 59)]) (by decide) rfl rfl rfl rfl ?_
  refine k_M_pre ?_
  rw [kR_RR, shp_SH]
  refine gx_callS (As := [.ref 60]) (st := []) dX11_init_144 ml_X11_61 mm_X11_plain rfl rfl rfl rfl ⟨rfl, rfl⟩ (m_plain0 (Q := fun I' L' c' => Inv I' kL_71 c00 ∧ L' = kL_71 ∧ c' = c00) (fun I' k h => ⟨start_Inv k h, rfl, rfl⟩)) (fun v h2 hq => ?_)
  obtain ⟨I1, L1, c1, rfl, rfl, i1, rfl, rfl⟩ := hq
  exact gx_vret dX11_init_147 rfl rfl rfl ⟨rfl, I1, i1, rfl⟩
set_option maxRecDepth 100000 in
theorem law_entry {nm : String} (hN : gN g ≤ 3072) : gm_XG g RL nm code 4 ret room_1 (lw_PP (gm_ad g 2501)) 0 0 0 [(0, .ref 2501)] [] (shp_0, kI_0, kL_0, kR_0) := by
  refine gx_new 10 (L := 0) dL_law_0 (by decide) cl_L_7 is_X10.1 is_X10.2 ⟨rfl, rfl⟩ rfl rfl ?_
  show gm_XG g RL nm code 4 ret room_1 (lw_PP (gm_ad g 2501)) 1 13 3 [(0, .ref 2501)] [.ref 0] (shp_1, kI_1, kL_1, kR_1)
  refine gx_dup dL_law_3 rfl ?_
  refine gx_callI (As := []) (st := [.ref 0]) dL_law_4 ml_L_9 mm_X10_init rfl rfl rfl rfl rfl ⟨rfl, rfl⟩ k_J_0 (fun v h2 hq => ?_)
  obtain ⟨rfl, rfl⟩ := hq
  show gm_XG g RL nm code 4 ret room_1 (lw_PP (gm_ad g 2501)) 59 2847 7 [(0, .ref 2501)] [.ref 0] (shp_59, kI_77, kL_56, kR_114)
  refine gx_astore_n (lv' := [(0, .ref 2501), (1, .ref 0)]) dL_law_7 rfl rfl rfl ?_
  refine gx_new 11 (L := 59) dL_law_8 (by decide) cl_L_10 is_X11.1 is_X11.2 ⟨rfl, rfl⟩ rfl rfl ?_
  show gm_XG g RL nm code 4 ret room_1 (lw_PP (gm_ad g 2501)) 60 2879 11 [(0, .ref 2501), (1, .ref 0)] [.ref 59] (shp_60, kI_78, kL_57, kR_115)
  refine gx_dup dL_law_11 rfl ?_
  refine gx_callI (As := []) (st := [.ref 59]) dL_law_12 ml_L_12 mm_X11_init rfl rfl rfl rfl rfl ⟨rfl, rfl⟩ k_M_59 (fun v h2 hq => ?_)
  obtain ⟨rfl, I1, i1, rfl⟩ := hq
  show gm_XG g RL nm code 4 ret room_1 (lw_PP (gm_ad g 2501)) 74 5353 15 [(0, .ref 2501), (1, .ref 0)] [.ref 59] (SH, I1, kL_71, RR c00)
  refine gx_astore_n (lv' := [(0, .ref 2501), (1, .ref 0), (2, .ref 59)]) dL_law_15 rfl rfl rfl ?_
  refine gx_iconst (v := 0) dL_law_16 (by decide) ?_
  refine gx_istore_n (lv' := [(0, .ref 2501), (1, .ref 0), (2, .ref 59), (3, .int 0)]) dL_law_17 rfl rfl rfl ?_
  exact law_loop hN (gN g) 0 (by omega) (by omega) I1 kL_71 c00 i1
end L0
