set_option maxRecDepth 100000 in
theorem sw_length : (gm_MB yJ0_length_8abf5 cJ0_length_8abf5 1 (some .int) 0 ∧ Cond.instanceMethod yJ0_length_8abf5 ∈ gm_TB ∧ Cond.selects yJ0_length_8abf5.cls yJ0_length_8abf5 yJ0_length_8abf5 ∈ gm_TB ∧ yJ0_length_8abf5.cls = "java/lang/String") := ⟨⟨gm_t2 (i := 185) rfl rfl, gm_t1 (i := 14) rfl rfl, ⟨by decide, by decide, by decide +kernel⟩⟩, gm_t2 (i := 183) rfl rfl, gm_t2 (i := 184) rfl rfl, rfl⟩
set_option maxRecDepth 100000 in
theorem sw_coder : (gm_MB yJ0_coder_7d493 cJ0_coder_7d493 1 (some .byte) 0 ∧ Cond.instanceMethod yJ0_coder_7d493 ∈ gm_TB ∧ Cond.selects yJ0_coder_7d493.cls yJ0_coder_7d493 yJ0_coder_7d493 ∈ gm_TB ∧ yJ0_coder_7d493.cls = "java/lang/String") := ⟨⟨gm_t2 (i := 189) rfl rfl, gm_t1 (i := 14) rfl rfl, ⟨by decide, by decide, by decide +kernel⟩⟩, gm_t2 (i := 187) rfl rfl, gm_t2 (i := 188) rfl rfl, rfl⟩
set_option maxRecDepth 100000 in
theorem sw_isLatin1 : (gm_MB yJ0_isLatin1_aae02 cJ0_isLatin1_aae02 1 (some .boolean) 0 ∧ Cond.instanceMethod yJ0_isLatin1_aae02 ∈ gm_TB ∧ Cond.selects yJ0_isLatin1_aae02.cls yJ0_isLatin1_aae02 yJ0_isLatin1_aae02 ∈ gm_TB ∧ yJ0_isLatin1_aae02.cls = "java/lang/String") := ⟨⟨gm_t2 (i := 199) rfl rfl, gm_t1 (i := 14) rfl rfl, ⟨by decide, by decide, by decide +kernel⟩⟩, gm_t2 (i := 197) rfl rfl, gm_t2 (i := 198) rfl rfl, rfl⟩
set_option maxRecDepth 100000 in
theorem sw_charAt : (gm_MB yJ0_charAt_5068e cJ0_charAt_5068e 2 (some .char) 1 ∧ Cond.instanceMethod yJ0_charAt_5068e ∈ gm_TB ∧ Cond.selects yJ0_charAt_5068e.cls yJ0_charAt_5068e yJ0_charAt_5068e ∈ gm_TB ∧ yJ0_charAt_5068e.cls = "java/lang/String") := ⟨⟨gm_t2 (i := 195) rfl rfl, gm_t1 (i := 14) rfl rfl, ⟨by decide, by decide, by decide +kernel⟩⟩, gm_t2 (i := 193) rfl rfl, gm_t2 (i := 194) rfl rfl, rfl⟩
set_option maxRecDepth 100000 in
theorem sw_value : Cond.fieldLink RJ0 9 "java/lang/String" "value" "[B" ∈ gm_TB := gm_t7 (i := 99) rfl rfl
set_option maxRecDepth 100000 in
theorem sw_cod : Cond.fieldLink RJ0 15 "java/lang/String" "coder" "B" ∈ gm_TB := gm_t7 (i := 100) rfl rfl
set_option maxRecDepth 100000 in
theorem sw_cs : Cond.fieldLink RJ0 38 "java/lang/String" "COMPACT_STRINGS" "Z" ∈ gm_TB := gm_t2 (i := 190) rfl rfl
set_option maxRecDepth 100000 in
theorem sw_fmt : Cond.fieldLink RJ0 1053 "jdk/internal/util/Preconditions" "SIOOBE_FORMATTER" "Ljava/util/function/BiFunction;" ∈ gm_TB := gm_t2 (i := 206) rfl rfl
section GS
variable {g : gm_G} {own nm : String} {cc : ByteArray} {nL : Nat} {rt : Option FieldType} {R : Room} {PP : State → Array Value → List Frame → State → Prop} {d mc ms : Nat} {Q : Option Value → gm_H → Prop} {cu su pc : Nat} {lv : List (Nat × Value)} {st : List Value} {h : gm_H}
theorem gx_strV {i idx : Nat} (hd : decode cc pc = .ok (.getfield idx, 3)) (hw : Cond.fieldLink own idx "java/lang/String" "value" "[B" ∈ gm_TB) (hi : i < 9) (k : gm_XG g own nm cc nL rt R PP cu su (pc + 3) lv (.ref (2000 + i) :: st) h) : gm_XG g own nm cc nL rt R PP cu su pc lv (.ref (1000 + i) :: st) h :=
  fun p e s m args below meth c H locs ls C hP hz hS hl => vk_getf (v := .ref (gm_ad g (2000 + i))) C.1 C.2.1 (C.2.2.2.2.2.2.2.2.1.2.2.2.2.1.1 i hi).2.2.1 hS C.2.2.2.1 (C.2.2.2.2.1 _ hw) (fun _ q => q) hd (k p e s m args below meth c H locs ls C hP hz hS hl)
theorem gx_strC {i idx : Nat} (hd : decode cc pc = .ok (.getfield idx, 3)) (hw : Cond.fieldLink own idx "java/lang/String" "coder" "B" ∈ gm_TB) (hi : i < 9) (k : gm_XG g own nm cc nL rt R PP cu su (pc + 3) lv (.int 0 :: st) h) : gm_XG g own nm cc nL rt R PP cu su pc lv (.ref (1000 + i) :: st) h :=
  fun p e s m args below meth c H locs ls C hP hz hS hl => vk_getf (v := .int 0) C.1 C.2.1 (C.2.2.2.2.2.2.2.2.1.2.2.2.2.1.1 i hi).2.1 hS C.2.2.2.1 (C.2.2.2.2.1 _ hw) (fun _ q => q) hd (k p e s m args below meth c H locs ls C hP hz hS hl)
theorem gx_strL {i : Nat} (hd : decode cc pc = .ok (.arraylength, 1)) (hi : i < 9) (k : gm_XG g own nm cc nL rt R PP cu su (pc + 1) lv (.int (nI (gm_sl.getD i 0)) :: st) h) : gm_XG g own nm cc nL rt R PP cu su pc lv (.ref (2000 + i) :: st) h :=
  fun p e s m args below meth c H locs ls C hP hz hS hl => va_tlen (v := nI (gm_sl.getD i 0)) C.1 C.2.1 (C.2.2.2.2.2.2.2.2.1.2.2.2.2.1.1 i hi).2.2.2 hS rfl hd (k p e s m args below meth c H locs ls C hP hz hS hl)
theorem gx_strB {i : Nat} {x : Int32} (hd : decode cc pc = .ok (.baload, 1)) (hi : i < 9) (hx : vp_in x (gm_sl.getD i 0)) (k : gm_XG g own nm cc nL rt R PP cu su (pc + 1) lv (.int ((gm_sb.getD i []).getD x.toNatClampNeg 0) :: st) h) : gm_XG g own nm cc nL rt R PP cu su pc lv (.int x :: .ref (2000 + i) :: st) h :=
  fun p e s m args below meth c H locs ls C hP hz hS hl => va_tb (v := .int ((gm_sb.getD i []).getD x.toNatClampNeg 0)) C.1 C.2.1 (C.2.2.2.2.2.2.2.2.1.2.2.2.2.1.1 i hi).2.2.2 hS hx rfl hd (k p e s m args below meth c H locs ls C hP hz hS hl)
theorem gx_cs {idx : Nat} (hd : decode cc pc = .ok (.getstatic idx, 3)) (hw : Cond.fieldLink own idx "java/lang/String" "COMPACT_STRINGS" "Z" ∈ gm_TB) (k : gm_XG g own nm cc nL rt R PP cu su (pc + 3) lv (.int 1 :: st) h) : gm_XG g own nm cc nL rt R PP cu su pc lv st h :=
  fun p e s m args below meth c H locs ls C hP hz hS hl => va_gets (v := .int 1) C.1 C.2.1 C.2.2.2.2.2.2.2.2.1.2.2.2.2.2.1 hS C.2.2.2.1 (C.2.2.2.2.1 _ hw) (fun _ q => q) hd (k p e s m args below meth c H locs ls C hP hz hS hl)
theorem gx_fmt {idx : Nat} (hd : decode cc pc = .ok (.getstatic idx, 3)) (hw : Cond.fieldLink own idx "jdk/internal/util/Preconditions" "SIOOBE_FORMATTER" "Ljava/util/function/BiFunction;" ∈ gm_TB) (k : ∀ v : Value, v = .null ∨ v = .ref 2500 → gm_XG g own nm cc nL rt R PP cu su (pc + 3) lv (v :: st) h) : gm_XG g own nm cc nL rt R PP cu su pc lv st h := by
  intro p e s m args below meth c H locs ls C hP hz hS hl
  rcases C.2.2.2.2.2.2.2.2.1.2.2.2.2.2.2 with q | q
  · exact va_gets (v := .null) C.1 C.2.1 q hS C.2.2.2.1 (C.2.2.2.2.1 _ hw) (fun _ q => q) hd (k .null (Or.inl rfl) p e s m args below meth c H locs ls C hP hz hS hl)
  · exact va_gets (v := .ref (gm_ad g 2500)) C.1 C.2.1 q hS C.2.2.2.1 (C.2.2.2.2.1 _ hw) (fun _ q => q) hd (k (.ref 2500) (Or.inr rfl) p e s m args below meth c H locs ls C hP hz hS hl)
theorem gx_callT {y : MethodName} {cc' : ByteArray} {nL' : Nat} {rt' : Option FieldType} {d' mc' ms' idx n i : Nat} {As : List Value} {Q' : Option Value → gm_H → Prop} (hd : decode cc pc = .ok (.invokevirtual idx, 3)) (hlk : Cond.methodLink own idx y ∈ gm_TB) (hm : gm_MB y cc' nL' rt' n ∧ Cond.instanceMethod y ∈ gm_TB ∧ Cond.selects y.cls y y ∈ gm_TB ∧ y.cls = "java/lang/String") (hi : i < 9) (hn : As.length = n) (hst : Nat.ble ((st.map fun v => v.category).sum) 8 = true) (hdp : Nat.blt d' R.frames = true) (hnl : Nat.ble (8 + (nL' + 11) + 64 * d') R.locals = true) (hcs : Nat.ble (cu + mc') R.cells = true ∧ Nat.ble (su + ms') R.slots = true) (hM : gm_Met g y cc' nL' rt' d' mc' ms' (.ref (1000 + i) :: As) h Q') (kk : ∀ (v : Option Value) (h' : gm_H), Q' v h' → gm_XG g own nm cc nL rt R PP (cu + mc') (su + ms') (pc + 3) lv (v.toList ++ st) h') : gm_XG g own nm cc nL rt R PP cu su pc lv (As.reverse ++ .ref (1000 + i) :: st) h := by
  obtain ⟨⟨w1, w2, w3⟩, w4, w5, w6⟩ := hm
  intro p e s m args below meth c0 H locs ls C hP hz hS hl
  refine gm_size hP hz hS C.2.2.2.2.2.2.2.2.2 (fun hH => ?_)
  have eA : (As.reverse ++ .ref (1000 + i) :: st).map (gm_v g) = (As.map (gm_v g)).reverse ++ .ref (gm_ad g (1000 + i)) :: st.map (gm_v g) := by rw [List.map_append, List.map_cons, List.map_reverse]; rfl
  rw [eA]
  refine gm_go (va_runV (C := y.cls) (nL := nL) (As := As.map (gm_v g)) (rest := st.map (gm_v g)) ⟨C.1, C.2.1, C.2.2.1, C.2.2.2.1, C.2.2.2.2.1⟩ hM (cwV n C.2.2.2.2.1 (fun w hw => ?_) rfl rfl rfl ⟨rfl, w3⟩ (gm_depth hdp hnl)) ⟨gm_blind g _ h, ?_, fun U hU hW => ⟨rfl, ?_, ?_, C.2.2.2.2.2.2.2.2.1.next hW hU hS⟩⟩ rfl (by rw [List.length_map]; exact hn) hl.1 rfl ?_ hd ⟨Nat.le_of_ble_eq_true hcs.1, Nat.le_of_ble_eq_true hcs.2⟩) hH hz hS C hl kk
  · unfold wsV at hw
    rcases List.mem_append.mp hw with q | q
    · simp only [List.mem_cons, List.not_mem_nil, or_false] at q
      rcases q with rfl | rfl | rfl | rfl
      · exact ⟨hlk, gm_good hlk⟩
      · exact ⟨w4, gm_good w4⟩
      · exact ⟨w5, gm_good w5⟩
      · exact ⟨w2, gm_good w2⟩
    · exact gm_ws_good w1 w q
  · have hr := vk_recv C.2.2.2.2.2.2.2.2.1.2.2.2.2.1 hi hS
    rw [w6]
    exact hr
  · rw [hU]; exact hP
  · rw [hU]; exact hH
  · exact lv_room (by rw [gm_cat]; exact Nat.le_of_ble_eq_true hst)
theorem gx_aloadv_n {n : Fin 4} {i : Nat} {v : Value} (q : Nat) (hd : decode cc pc = .ok (.aload_n n, 1)) (hi : (n : Nat) = i) (hv : v = .null ∨ ∃ a, v = .ref a) (hq : lv[q]? = some (i, v)) (k : gm_XG g own nm cc nL rt R PP cu su (pc + 1) lv (v :: st) h) : gm_XG g own nm cc nL rt R PP cu su pc lv st h := by
  intro p e s m args below meth c H locs ls C hP hz hS hl
  rcases hv with rfl | ⟨a, rfl⟩
  · exact lv_aload_nN C.1 C.2.1 hd hi (gm_lv_at hl q hq) (k p e s m args below meth c H locs ls C hP hz hS hl)
  · exact lv_aload_n C.1 C.2.1 hd hi (gm_lv_at hl q hq) (k p e s m args below meth c H locs ls C hP hz hS hl)
end GS
set_option maxRecDepth 100000 in
theorem s_coder {g : gm_G} {h : gm_H} {i : Nat} (hi : i < 9) : gm_Met g yJ0_coder_7d493 cJ0_coder_7d493 1 (some .byte) 1 0 0 [.ref (1000 + i)] h (fun v h' => v = some (.int 0) ∧ h' = h) := by
  refine gm_enter (own := RJ0) (nm := "coder") (lv := [(0, .ref (1000 + i))]) (by decide) rfl rfl rfl rfl ?_
  refine gx_cs dJ0_coder_7d493_0 sw_cs ?_
  refine gx_if_eq 13 dJ0_coder_7d493_3 (by decide) (br_f (by decide) ?_)
  refine gx_aload_n 0 dJ0_coder_7d493_6 rfl rfl ?_
  refine gx_strC dJ0_coder_7d493_7 sw_cod hi ?_
  refine gx_goto 14 dJ0_coder_7d493_10 (by decide) ?_
  exact gx_zret .byte dJ0_coder_7d493_14 rfl rfl rfl rfl ⟨rfl, rfl⟩
set_option maxRecDepth 100000 in
theorem s_latin {g : gm_G} {h : gm_H} {i : Nat} (hi : i < 9) : gm_Met g yJ0_isLatin1_aae02 cJ0_isLatin1_aae02 1 (some .boolean) 1 0 0 [.ref (1000 + i)] h (fun v h' => v = some (.int 1) ∧ h' = h) := by
  refine gm_enter (own := RJ0) (nm := "isLatin1") (lv := [(0, .ref (1000 + i))]) (by decide) rfl rfl rfl rfl ?_
  refine gx_cs dJ0_isLatin1_aae02_0 sw_cs ?_
  refine gx_if_eq 17 dJ0_isLatin1_aae02_3 (by decide) (br_f (by decide) ?_)
  refine gx_aload_n 0 dJ0_isLatin1_aae02_6 rfl rfl ?_
  refine gx_strC dJ0_isLatin1_aae02_7 sw_cod hi ?_
  refine gx_if_ne 17 dJ0_isLatin1_aae02_10 (by decide) (br_t (by decide) ?_)
  refine gx_iconst (v := 1) dJ0_isLatin1_aae02_13 (by decide) ?_
  refine gx_goto 18 dJ0_isLatin1_aae02_14 (by decide) ?_
  exact gx_zret .boolean dJ0_isLatin1_aae02_18 rfl rfl rfl rfl ⟨rfl, rfl⟩
set_option maxRecDepth 100000 in
theorem s_length {g : gm_G} {h : gm_H} {i : Nat} (hi : i < 9) : gm_Met g yJ0_length_8abf5 cJ0_length_8abf5 1 (some .int) 2 0 0 [.ref (1000 + i)] h (fun v h' => v = some (.int (nI (gm_sl.getD i 0))) ∧ h' = h) := by
  refine gm_enter (own := RJ0) (nm := "length") (lv := [(0, .ref (1000 + i))]) (by decide) rfl rfl rfl rfl ?_
  refine gx_aload_n 0 dJ0_length_8abf5_0 rfl rfl ?_
  refine gx_strV dJ0_length_8abf5_1 sw_value hi ?_
  refine gx_strL dJ0_length_8abf5_4 hi ?_
  refine gx_aload_n 0 dJ0_length_8abf5_5 rfl rfl ?_
  refine gx_callT (As := []) (st := [.int (nI (gm_sl.getD i 0))]) dJ0_length_8abf5_6 ml_J0_335 sw_coder hi rfl rfl rfl rfl ⟨rfl, rfl⟩ (s_coder hi) (fun v h2 hq => ?_)
  obtain ⟨rfl, rfl⟩ := hq
  refine gx_ishr dJ0_length_8abf5_9 ?_
  have e : nI (gm_sl.getD i 0) >>> ((0 : Int32) &&& 31) = nI (gm_sl.getD i 0) := sc_shr0 (by
    have : ∀ i, i < 9 → gm_sl.getD i 0 < 2 ^ 31 := by decide
    exact this i hi)
  exact gx_iret dJ0_length_8abf5_10 rfl rfl rfl ⟨by rw [e], rfl⟩
set_option maxRecDepth 100000 in
theorem s_pre {g : gm_G} {h : gm_H} {x n : Int32} {v : Value} (hv : v = .null ∨ v = .ref 2500) (h0 : ¬ x < 0) (h1 : x < n) : gm_Met g yJ3_checkIndex_8e157 cJ3_checkIndex_8e157 3 (some .int) 1 0 0 [.int x, .int n, v] h (fun v h' => v = some (.int x) ∧ h' = h) := by
  have hlen : Nat.ble (lg_sl [.int x, .int n, v]).length 3 = true := by rcases hv with rfl | rfl <;> rfl
  have hlv : lv_args 0 [.int x, .int n, v] = [(0, .int x), (1, .int n), (2, v)] := rfl
  refine gm_enter (own := RJ3) (nm := "checkIndex") (lv := [(0, .int x), (1, .int n), (2, v)]) (by decide) rfl rfl hlen hlv ?_
  refine gx_iload_n 0 dJ3_checkIndex_8e157_0 rfl rfl ?_
  refine gx_if_lt 9 dJ3_checkIndex_8e157_1 (by decide) (br_f h0 ?_)
  refine gx_iload_n 0 dJ3_checkIndex_8e157_4 rfl rfl ?_
  refine gx_iload_n 1 dJ3_checkIndex_8e157_5 rfl rfl ?_
  refine gx_icmp_lt 16 dJ3_checkIndex_8e157_6 (by decide) (br_t h1 ?_)
  refine gx_iload_n 0 dJ3_checkIndex_8e157_16 rfl rfl ?_
  exact gx_iret dJ3_checkIndex_8e157_17 rfl rfl rfl ⟨rfl, rfl⟩
set_option maxRecDepth 100000 in
theorem s_chk {g : gm_G} {h : gm_H} {x n : Int32} (h0 : ¬ x < 0) (h1 : x < n) : gm_Met g yJ0_checkIndex_df160 cJ0_checkIndex_df160 2 none 2 0 0 [.int x, .int n] h (fun v h' => v = none ∧ h' = h) := by
  refine gm_enter (own := RJ0) (nm := "checkIndex") (lv := [(0, .int x), (1, .int n)]) (by decide) rfl rfl rfl rfl ?_
  refine gx_iload_n 0 dJ0_checkIndex_df160_0 rfl rfl ?_
  refine gx_iload_n 1 dJ0_checkIndex_df160_1 rfl rfl ?_
  refine gx_fmt dJ0_checkIndex_df160_2 sw_fmt (fun v hv => ?_)
  refine gx_callS (As := [.int x, .int n, v]) (st := []) dJ0_checkIndex_df160_5 ml_J0_1059 mm_J3_checkIndex_8e157 rfl rfl rfl rfl ⟨rfl, rfl⟩ (s_pre hv h0 h1) (fun v h2 hq => ?_)
  obtain ⟨rfl, rfl⟩ := hq
  refine gx_pop dJ0_checkIndex_df160_8 rfl ?_
  exact gx_vret dJ0_checkIndex_df160_9 rfl rfl rfl ⟨rfl, rfl⟩
def gm_ch (i k : Nat) : Int32 := (gm_sb.getD i []).getD k 0 &&& 255
theorem gm_sl31 {i : Nat} (hi : i < 9) : gm_sl.getD i 0 < 2 ^ 31 := by
  have : ∀ i, i < 9 → gm_sl.getD i 0 < 2 ^ 31 := by decide
  exact this i hi
theorem gm_vlt {x : Int32} {n : Nat} (hx : vp_in x n) (hn : n < 2 ^ 31) : ¬ x < 0 ∧ x < nI n := by
  obtain ⟨j, hj, rfl⟩ := vp_in_of hx hn
  exact ⟨nI_pos (by omega), nI_lt hj hn⟩
set_option maxRecDepth 100000 in
theorem s_lch {g : gm_G} {h : gm_H} {i : Nat} {x : Int32} (hi : i < 9) (hx : vp_in x (gm_sl.getD i 0)) : gm_Met g yJ1_charAt_3b067 cJ1_charAt_3b067 2 (some .char) 3 0 0 [.ref (2000 + i), .int x] h (fun v h' => v = some (.int (gm_ch i x.toNatClampNeg)) ∧ h' = h) := by
  obtain ⟨h0, h1⟩ := gm_vlt hx (gm_sl31 hi)
  refine gm_enter (own := RJ1) (nm := "charAt") (lv := [(0, .ref (2000 + i)), (1, .int x)]) (by decide) rfl rfl rfl rfl ?_
  refine gx_iload_n 1 dJ1_charAt_3b067_0 rfl rfl ?_
  refine gx_aload_n 0 dJ1_charAt_3b067_1 rfl rfl ?_
  refine gx_strL dJ1_charAt_3b067_2 hi ?_
  refine gx_callS (As := [.int x, .int (nI (gm_sl.getD i 0))]) (st := []) dJ1_charAt_3b067_3 ml_J1_9 mm_J0_checkIndex_df160 rfl rfl rfl rfl ⟨rfl, rfl⟩ (s_chk h0 h1) (fun v h2 hq => ?_)
  obtain ⟨rfl, rfl⟩ := hq
  refine gx_aload_n 0 dJ1_charAt_3b067_6 rfl rfl ?_
  refine gx_iload_n 1 dJ1_charAt_3b067_7 rfl rfl ?_
  refine gx_strB dJ1_charAt_3b067_8 hi hx ?_
  refine gx_sipush (v := 255) dJ1_charAt_3b067_9 (by decide) ?_
  refine gx_iand dJ1_charAt_3b067_12 ?_
  refine gx_i2c dJ1_charAt_3b067_13 ?_
  have e : (((gm_sb.getD i []).getD x.toNatClampNeg 0 &&& 255).toUInt32 % 65536).toInt32 = gm_ch i x.toNatClampNeg := sc_c2 _
  rw [e]
  exact gx_zret .char dJ1_charAt_3b067_14 rfl (sc_nar _) rfl rfl ⟨rfl, rfl⟩
set_option maxRecDepth 100000 in
theorem s_char {g : gm_G} {h : gm_H} {i : Nat} {x : Int32} (hi : i < 9) (hx : vp_in x (gm_sl.getD i 0)) : gm_Met g yJ0_charAt_5068e cJ0_charAt_5068e 2 (some .char) 4 0 0 [.ref (1000 + i), .int x] h (fun v h' => v = some (.int (gm_ch i x.toNatClampNeg)) ∧ h' = h) := by
  refine gm_enter (own := RJ0) (nm := "charAt") (lv := [(0, .ref (1000 + i)), (1, .int x)]) (by decide) rfl rfl rfl rfl ?_
  refine gx_aload_n 0 dJ0_charAt_5068e_0 rfl rfl ?_
  refine gx_callT (As := []) (st := []) dJ0_charAt_5068e_1 ml_J0_492 sw_isLatin1 hi rfl rfl rfl rfl ⟨rfl, rfl⟩ (s_latin hi) (fun v h2 hq => ?_)
  obtain ⟨rfl, rfl⟩ := hq
  refine gx_if_eq 16 dJ0_charAt_5068e_4 (by decide) (br_f (by decide) ?_)
  refine gx_aload_n 0 dJ0_charAt_5068e_7 rfl rfl ?_
  refine gx_strV dJ0_charAt_5068e_8 sw_value hi ?_
  refine gx_iload_n 1 dJ0_charAt_5068e_11 rfl rfl ?_
  refine gx_callS (As := [.ref (2000 + i), .int x]) (st := []) dJ0_charAt_5068e_12 ml_J0_495 mm_J1_charAt_3b067 rfl rfl rfl rfl ⟨rfl, rfl⟩ (s_lch hi hx) (fun v h2 hq => ?_)
  obtain ⟨rfl, rfl⟩ := hq
  exact gx_zret .char dJ0_charAt_5068e_15 rfl (sc_nar _) rfl rfl ⟨rfl, rfl⟩
section GS2
variable {g : gm_G} {own nm : String} {cc : ByteArray} {nL : Nat} {rt : Option FieldType} {R : Room} {PP : State → Array Value → List Frame → State → Prop} {d mc ms : Nat} {Q : Option Value → gm_H → Prop} {cu su pc : Nat} {lv : List (Nat × Value)} {st : List Value} {h : gm_H}
theorem gx_slen (i : Nat) {idx : Nat} (hd : decode cc pc = .ok (.invokevirtual idx, 3)) (hlk : Cond.methodLink own idx yJ0_length_8abf5 ∈ gm_TB) (hi : Nat.blt i 9 = true) (hst : Nat.ble ((st.map fun v => v.category).sum) 8 = true) (hdp : (Nat.blt 2 R.frames && Nat.ble 160 R.locals) = true) (h1 : Nat.ble cu R.cells = true) (h2 : Nat.ble su R.slots = true) (k : gm_XG g own nm cc nL rt R PP cu su (pc + 3) lv (.int (nI (gm_sl.getD i 0)) :: st) h) : gm_XG g own nm cc nL rt R PP cu su pc lv (.ref (1000 + i) :: st) h := by
  refine gx_callT (mc' := 0) (ms' := 0) (As := []) hd hlk sw_length (gm_blt hi) rfl hst (Bool.and_eq_true_iff.mp hdp).1 (gm_bmono (by decide) (Bool.and_eq_true_iff.mp hdp).2) ⟨h1, h2⟩ (s_length (gm_blt hi)) (fun v h' hq => ?_)
  obtain ⟨rfl, rfl⟩ := hq
  exact k
theorem gx_char (i : Nat) {idx : Nat} {x : Int32} (hd : decode cc pc = .ok (.invokevirtual idx, 3)) (hlk : Cond.methodLink own idx yJ0_charAt_5068e ∈ gm_TB) (hi : Nat.blt i 9 = true) (hst : Nat.ble ((st.map fun v => v.category).sum) 8 = true) (hdp : (Nat.blt 4 R.frames && Nat.ble 288 R.locals) = true) (h1 : Nat.ble cu R.cells = true) (h2 : Nat.ble su R.slots = true) (hx : vp_in x (gm_sl.getD i 0)) (k : gm_XG g own nm cc nL rt R PP cu su (pc + 3) lv (.int (gm_ch i x.toNatClampNeg) :: st) h) : gm_XG g own nm cc nL rt R PP cu su pc lv (.int x :: .ref (1000 + i) :: st) h := by
  refine gx_callT (mc' := 0) (ms' := 0) (As := [.int x]) hd hlk sw_charAt (gm_blt hi) rfl hst (Bool.and_eq_true_iff.mp hdp).1 (gm_bmono (by decide) (Bool.and_eq_true_iff.mp hdp).2) ⟨h1, h2⟩ (s_char (gm_blt hi) hx) (fun v h' hq => ?_)
  obtain ⟨rfl, rfl⟩ := hq
  exact k
end GS2
